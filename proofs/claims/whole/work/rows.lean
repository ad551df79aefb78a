section
-- ===== PART A: goes FIRST, ahead of the names: the tables' words, and 'selects' of the private methods out of them =====
/-- a private method of a class that the tables say can be made, by its rows of tables_1 -/
def lw_okq (q : MethodName × Nat) : Prop := (q.1.cls ≠ "java/lang/invoke/MethodHandle" ∧ q.1.cls ≠ "java/lang/invoke/VarHandle") ∧ Cond.instantiable q.1.cls q.2 ∈ tables_1 ∧ Cond.privateMethod q.1 ∈ tables_1 ∧ Cond.instanceMethod q.1 ∈ tables_1
theorem lw_p0 : lw_okq (⟨"ResurrectingHeap", "held", "(I)LResurrectingHeap$Value;"⟩, 7) := ⟨⟨by decide +kernel, by decide +kernel⟩, List.mem_of_getElem? (i := 11) (by decide +kernel), List.mem_of_getElem? (i := 85) (by decide +kernel), List.mem_of_getElem? (i := 86) (by decide +kernel)⟩
theorem lw_p1 : lw_okq (⟨"ResurrectingHeap", "makeRoom", "(I)Z"⟩, 7) := ⟨⟨by decide +kernel, by decide +kernel⟩, List.mem_of_getElem? (i := 11) (by decide +kernel), List.mem_of_getElem? (i := 93) (by decide +kernel), List.mem_of_getElem? (i := 94) (by decide +kernel)⟩
theorem lw_p2 : lw_okq (⟨"ResurrectingHeap", "runCollection", "()I"⟩, 7) := ⟨⟨by decide +kernel, by decide +kernel⟩, List.mem_of_getElem? (i := 11) (by decide +kernel), List.mem_of_getElem? (i := 97) (by decide +kernel), List.mem_of_getElem? (i := 98) (by decide +kernel)⟩
theorem lw_p3 : lw_okq (⟨"ResurrectingHeap", "clearMarks", "()V"⟩, 7) := ⟨⟨by decide +kernel, by decide +kernel⟩, List.mem_of_getElem? (i := 11) (by decide +kernel), List.mem_of_getElem? (i := 101) (by decide +kernel), List.mem_of_getElem? (i := 102) (by decide +kernel)⟩
theorem lw_p4 : lw_okq (⟨"ResurrectingHeap", "markVariables", "()V"⟩, 7) := ⟨⟨by decide +kernel, by decide +kernel⟩, List.mem_of_getElem? (i := 11) (by decide +kernel), List.mem_of_getElem? (i := 113) (by decide +kernel), List.mem_of_getElem? (i := 114) (by decide +kernel)⟩
theorem lw_p5 : lw_okq (⟨"ResurrectingHeap", "spreadMarks", "()V"⟩, 7) := ⟨⟨by decide +kernel, by decide +kernel⟩, List.mem_of_getElem? (i := 11) (by decide +kernel), List.mem_of_getElem? (i := 126) (by decide +kernel), List.mem_of_getElem? (i := 127) (by decide +kernel)⟩
theorem lw_p6 : lw_okq (⟨"ResurrectingHeap", "spreadOnce", "()Z"⟩, 7) := ⟨⟨by decide +kernel, by decide +kernel⟩, List.mem_of_getElem? (i := 11) (by decide +kernel), List.mem_of_getElem? (i := 130) (by decide +kernel), List.mem_of_getElem? (i := 131) (by decide +kernel)⟩
theorem lw_p7 : lw_okq (⟨"ResurrectingHeap", "loseWhatIsNotStrong", "()V"⟩, 7) := ⟨⟨by decide +kernel, by decide +kernel⟩, List.mem_of_getElem? (i := 11) (by decide +kernel), List.mem_of_getElem? (i := 148) (by decide +kernel), List.mem_of_getElem? (i := 149) (by decide +kernel)⟩
theorem lw_p8 : lw_okq (⟨"ResurrectingHeap", "handOutRegistered", "()V"⟩, 7) := ⟨⟨by decide +kernel, by decide +kernel⟩, List.mem_of_getElem? (i := 11) (by decide +kernel), List.mem_of_getElem? (i := 164) (by decide +kernel), List.mem_of_getElem? (i := 165) (by decide +kernel)⟩
theorem lw_p9 : lw_okq (⟨"ResurrectingHeap", "closeGaps", "()V"⟩, 7) := ⟨⟨by decide +kernel, by decide +kernel⟩, List.mem_of_getElem? (i := 11) (by decide +kernel), List.mem_of_getElem? (i := 176) (by decide +kernel), List.mem_of_getElem? (i := 177) (by decide +kernel)⟩
theorem lw_p10 : lw_okq (⟨"ResurrectingHeap", "settle", "(ILResurrectingHeap$Thing;)I"⟩, 7) := ⟨⟨by decide +kernel, by decide +kernel⟩, List.mem_of_getElem? (i := 11) (by decide +kernel), List.mem_of_getElem? (i := 218) (by decide +kernel), List.mem_of_getElem? (i := 219) (by decide +kernel)⟩
theorem lw_p11 : lw_okq (⟨"ResurrectingHeap", "heldThing", "(I)LResurrectingHeap$Thing;"⟩, 7) := ⟨⟨by decide +kernel, by decide +kernel⟩, List.mem_of_getElem? (i := 11) (by decide +kernel), List.mem_of_getElem? (i := 226) (by decide +kernel), List.mem_of_getElem? (i := 227) (by decide +kernel)⟩
theorem lw_p12 : lw_okq (⟨"ResurrectingHeap$Table", "entryOf", "(LResurrectingHeap$Thing;)I"⟩, 9) := ⟨⟨by decide +kernel, by decide +kernel⟩, List.mem_of_getElem? (i := 251) (by decide +kernel), List.mem_of_getElem? (i := 295) (by decide +kernel), List.mem_of_getElem? (i := 296) (by decide +kernel)⟩
theorem lw_p13 : lw_okq (⟨"ResurrectingHeapModel", "hold", "(III)V"⟩, 18) := ⟨⟨by decide +kernel, by decide +kernel⟩, List.mem_of_getElem? (i := 382) (by decide +kernel), List.mem_of_getElem? (i := 454) (by decide +kernel), List.mem_of_getElem? (i := 455) (by decide +kernel)⟩
theorem lw_p14 : lw_okq (⟨"ResurrectingHeapModel", "make", "(III)I"⟩, 18) := ⟨⟨by decide +kernel, by decide +kernel⟩, List.mem_of_getElem? (i := 382) (by decide +kernel), List.mem_of_getElem? (i := 466) (by decide +kernel), List.mem_of_getElem? (i := 467) (by decide +kernel)⟩
theorem lw_p15 : lw_okq (⟨"ResurrectingHeapModel", "cellsBefore", "(I)I"⟩, 18) := ⟨⟨by decide +kernel, by decide +kernel⟩, List.mem_of_getElem? (i := 382) (by decide +kernel), List.mem_of_getElem? (i := 470) (by decide +kernel), List.mem_of_getElem? (i := 471) (by decide +kernel)⟩
def lw_privs_1 : List (MethodName × Nat) := [(⟨"ResurrectingHeap", "held", "(I)LResurrectingHeap$Value;"⟩, 7), (⟨"ResurrectingHeap", "makeRoom", "(I)Z"⟩, 7), (⟨"ResurrectingHeap", "runCollection", "()I"⟩, 7), (⟨"ResurrectingHeap", "clearMarks", "()V"⟩, 7), (⟨"ResurrectingHeap", "markVariables", "()V"⟩, 7), (⟨"ResurrectingHeap", "spreadMarks", "()V"⟩, 7), (⟨"ResurrectingHeap", "spreadOnce", "()Z"⟩, 7), (⟨"ResurrectingHeap", "loseWhatIsNotStrong", "()V"⟩, 7), (⟨"ResurrectingHeap", "handOutRegistered", "()V"⟩, 7), (⟨"ResurrectingHeap", "closeGaps", "()V"⟩, 7), (⟨"ResurrectingHeap", "settle", "(ILResurrectingHeap$Thing;)I"⟩, 7), (⟨"ResurrectingHeap", "heldThing", "(I)LResurrectingHeap$Thing;"⟩, 7), (⟨"ResurrectingHeap$Table", "entryOf", "(LResurrectingHeap$Thing;)I"⟩, 9), (⟨"ResurrectingHeapModel", "hold", "(III)V"⟩, 18), (⟨"ResurrectingHeapModel", "make", "(III)I"⟩, 18), (⟨"ResurrectingHeapModel", "cellsBefore", "(I)I"⟩, 18)]
theorem lw_r1 : ∀ q ∈ lw_privs_1, lw_okq q := List.forall_mem_cons.mpr ⟨lw_p0, List.forall_mem_cons.mpr ⟨lw_p1, List.forall_mem_cons.mpr ⟨lw_p2, List.forall_mem_cons.mpr ⟨lw_p3, List.forall_mem_cons.mpr ⟨lw_p4, List.forall_mem_cons.mpr ⟨lw_p5, List.forall_mem_cons.mpr ⟨lw_p6, List.forall_mem_cons.mpr ⟨lw_p7, List.forall_mem_cons.mpr ⟨lw_p8, List.forall_mem_cons.mpr ⟨lw_p9, List.forall_mem_cons.mpr ⟨lw_p10, List.forall_mem_cons.mpr ⟨lw_p11, List.forall_mem_cons.mpr ⟨lw_p12, List.forall_mem_cons.mpr ⟨lw_p13, List.forall_mem_cons.mpr ⟨lw_p14, List.forall_mem_cons.mpr ⟨lw_p15, fun _ h => absurd h List.not_mem_nil⟩⟩⟩⟩⟩⟩⟩⟩⟩⟩⟩⟩⟩⟩⟩⟩
theorem lw_p16 : lw_okq (⟨"ResurrectingHeapModel", "cells", "(I)I"⟩, 18) := ⟨⟨by decide +kernel, by decide +kernel⟩, List.mem_of_getElem? (i := 382) (by decide +kernel), List.mem_of_getElem? (i := 474) (by decide +kernel), List.mem_of_getElem? (i := 475) (by decide +kernel)⟩
theorem lw_p17 : lw_okq (⟨"ResurrectingHeapModel", "addRoots", "()V"⟩, 18) := ⟨⟨by decide +kernel, by decide +kernel⟩, List.mem_of_getElem? (i := 382) (by decide +kernel), List.mem_of_getElem? (i := 482) (by decide +kernel), List.mem_of_getElem? (i := 483) (by decide +kernel)⟩
theorem lw_p18 : lw_okq (⟨"ResurrectingHeapModel", "add", "(I)Z"⟩, 18) := ⟨⟨by decide +kernel, by decide +kernel⟩, List.mem_of_getElem? (i := 382) (by decide +kernel), List.mem_of_getElem? (i := 486) (by decide +kernel), List.mem_of_getElem? (i := 487) (by decide +kernel)⟩
theorem lw_p19 : lw_okq (⟨"ResurrectingHeapModel", "at", "(I)I"⟩, 18) := ⟨⟨by decide +kernel, by decide +kernel⟩, List.mem_of_getElem? (i := 382) (by decide +kernel), List.mem_of_getElem? (i := 490) (by decide +kernel), List.mem_of_getElem? (i := 491) (by decide +kernel)⟩
theorem lw_p20 : lw_okq (⟨"ResurrectingHeapModel", "addWaiting", "()V"⟩, 18) := ⟨⟨by decide +kernel, by decide +kernel⟩, List.mem_of_getElem? (i := 382) (by decide +kernel), List.mem_of_getElem? (i := 494) (by decide +kernel), List.mem_of_getElem? (i := 495) (by decide +kernel)⟩
theorem lw_p21 : lw_okq (⟨"ResurrectingHeapModel", "close", "(Z)V"⟩, 18) := ⟨⟨by decide +kernel, by decide +kernel⟩, List.mem_of_getElem? (i := 382) (by decide +kernel), List.mem_of_getElem? (i := 498) (by decide +kernel), List.mem_of_getElem? (i := 499) (by decide +kernel)⟩
theorem lw_p22 : lw_okq (⟨"ResurrectingHeapModel", "spread", "(Z)Z"⟩, 18) := ⟨⟨by decide +kernel, by decide +kernel⟩, List.mem_of_getElem? (i := 382) (by decide +kernel), List.mem_of_getElem? (i := 502) (by decide +kernel), List.mem_of_getElem? (i := 503) (by decide +kernel)⟩
theorem lw_p23 : lw_okq (⟨"ResurrectingHeapModel", "isMarked", "(I)Z"⟩, 18) := ⟨⟨by decide +kernel, by decide +kernel⟩, List.mem_of_getElem? (i := 382) (by decide +kernel), List.mem_of_getElem? (i := 506) (by decide +kernel), List.mem_of_getElem? (i := 507) (by decide +kernel)⟩
theorem lw_p24 : lw_okq (⟨"ResurrectingHeapModel", "loosen", "()V"⟩, 18) := ⟨⟨by decide +kernel, by decide +kernel⟩, List.mem_of_getElem? (i := 382) (by decide +kernel), List.mem_of_getElem? (i := 510) (by decide +kernel), List.mem_of_getElem? (i := 511) (by decide +kernel)⟩
theorem lw_p25 : lw_okq (⟨"ResurrectingHeapModel", "callWaiting", "()V"⟩, 18) := ⟨⟨by decide +kernel, by decide +kernel⟩, List.mem_of_getElem? (i := 382) (by decide +kernel), List.mem_of_getElem? (i := 514) (by decide +kernel), List.mem_of_getElem? (i := 515) (by decide +kernel)⟩
theorem lw_p26 : lw_okq (⟨"ResurrectingHeapModel", "sweep", "()I"⟩, 18) := ⟨⟨by decide +kernel, by decide +kernel⟩, List.mem_of_getElem? (i := 382) (by decide +kernel), List.mem_of_getElem? (i := 518) (by decide +kernel), List.mem_of_getElem? (i := 519) (by decide +kernel)⟩
theorem lw_p27 : lw_okq (⟨"ResurrectingHeapModel", "object", "(I)I"⟩, 18) := ⟨⟨by decide +kernel, by decide +kernel⟩, List.mem_of_getElem? (i := 382) (by decide +kernel), List.mem_of_getElem? (i := 526) (by decide +kernel), List.mem_of_getElem? (i := 527) (by decide +kernel)⟩
theorem lw_p28 : lw_okq (⟨"ResurrectingHeapModel", "objectOf", "(II)I"⟩, 18) := ⟨⟨by decide +kernel, by decide +kernel⟩, List.mem_of_getElem? (i := 382) (by decide +kernel), List.mem_of_getElem? (i := 538) (by decide +kernel), List.mem_of_getElem? (i := 539) (by decide +kernel)⟩
theorem lw_p29 : lw_okq (⟨"ResurrectingHeapModel", "entry", "(II)I"⟩, 18) := ⟨⟨by decide +kernel, by decide +kernel⟩, List.mem_of_getElem? (i := 382) (by decide +kernel), List.mem_of_getElem? (i := 550) (by decide +kernel), List.mem_of_getElem? (i := 551) (by decide +kernel)⟩
def lw_privs_2 : List (MethodName × Nat) := [(⟨"ResurrectingHeapModel", "cells", "(I)I"⟩, 18), (⟨"ResurrectingHeapModel", "addRoots", "()V"⟩, 18), (⟨"ResurrectingHeapModel", "add", "(I)Z"⟩, 18), (⟨"ResurrectingHeapModel", "at", "(I)I"⟩, 18), (⟨"ResurrectingHeapModel", "addWaiting", "()V"⟩, 18), (⟨"ResurrectingHeapModel", "close", "(Z)V"⟩, 18), (⟨"ResurrectingHeapModel", "spread", "(Z)Z"⟩, 18), (⟨"ResurrectingHeapModel", "isMarked", "(I)Z"⟩, 18), (⟨"ResurrectingHeapModel", "loosen", "()V"⟩, 18), (⟨"ResurrectingHeapModel", "callWaiting", "()V"⟩, 18), (⟨"ResurrectingHeapModel", "sweep", "()I"⟩, 18), (⟨"ResurrectingHeapModel", "object", "(I)I"⟩, 18), (⟨"ResurrectingHeapModel", "objectOf", "(II)I"⟩, 18), (⟨"ResurrectingHeapModel", "entry", "(II)I"⟩, 18)]
theorem lw_r2 : ∀ q ∈ lw_privs_2, lw_okq q := List.forall_mem_cons.mpr ⟨lw_p16, List.forall_mem_cons.mpr ⟨lw_p17, List.forall_mem_cons.mpr ⟨lw_p18, List.forall_mem_cons.mpr ⟨lw_p19, List.forall_mem_cons.mpr ⟨lw_p20, List.forall_mem_cons.mpr ⟨lw_p21, List.forall_mem_cons.mpr ⟨lw_p22, List.forall_mem_cons.mpr ⟨lw_p23, List.forall_mem_cons.mpr ⟨lw_p24, List.forall_mem_cons.mpr ⟨lw_p25, List.forall_mem_cons.mpr ⟨lw_p26, List.forall_mem_cons.mpr ⟨lw_p27, List.forall_mem_cons.mpr ⟨lw_p28, List.forall_mem_cons.mpr ⟨lw_p29, fun _ h => absurd h List.not_mem_nil⟩⟩⟩⟩⟩⟩⟩⟩⟩⟩⟩⟩⟩⟩
def lw_privs : List (MethodName × Nat) := lw_privs_1 ++ (lw_privs_2)
def lw_tbl : List Cond := k2_sels lw_privs ++ tables_1
theorem lw_privs_ok : ∀ q ∈ lw_privs, lw_okq q := by
  show ∀ q ∈ lw_privs_1 ++ (lw_privs_2), lw_okq q
  exact List.forall_mem_append.mpr ⟨lw_r1, lw_r2⟩
end
section
/-! the tables: classes, fields, methods (by program: wip/whole/gen.py) -/
abbrev mThing : String := "ResurrectingHeap$Thing"
abbrev mValue : String := "ResurrectingHeap$Value"
def F_H : u_T := fun k => match k with
  | 0 => ("ResurrectingHeap", "variables", "[LResurrectingHeap$Value;", true)
  | 1 => ("ResurrectingHeap", "objects", "LResurrectingHeap$Row;", true)
  | 2 => ("ResurrectingHeap", "registered", "LResurrectingHeap$Row;", true)
  | 3 => ("ResurrectingHeap", "waitingRow", "LResurrectingHeap$Row;", true)
  | 4 => ("ResurrectingHeap", "usedCells", "I", false)
  | 5 => ("ResurrectingHeap", "objectsMade", "I", false)
  | _ => ("ResurrectingHeap", "collectionsMade", "I", false)
def tf_H : Nat → FieldType := fun k => match k with
  | 0 => .array (.object "ResurrectingHeap$Value")
  | 1 => .object "ResurrectingHeap$Row"
  | 2 => .object "ResurrectingHeap$Row"
  | 3 => .object "ResurrectingHeap$Row"
  | 4 => .int
  | 5 => .int
  | _ => .int
theorem nf_H : ∀ a, a < 7 → ∀ b, b < 7 → a ≠ b → (F_H a).2.1 ≠ (F_H b).2.1 := by decide +kernel
theorem tf_H_ok : ∀ k, k < 7 → parseFieldDescriptor (F_H k).2.2.1 = some (tf_H k) := by decide +kernel
def F_N : u_T := fun k => match k with
  | _ => ("ResurrectingHeap$Numeral", "amount", "I", true)
def tf_N : Nat → FieldType := fun k => match k with
  | _ => .int
theorem nf_N : ∀ a, a < 1 → ∀ b, b < 1 → a ≠ b → (F_N a).2.1 ≠ (F_N b).2.1 := by decide +kernel
theorem tf_N_ok : ∀ k, k < 1 → parseFieldDescriptor (F_N k).2.2.1 = some (tf_N k) := by decide +kernel
def F_V : u_T := fun k => match k with
  | 0 => ("ResurrectingHeap$Thing", "hash", "I", true)
  | 1 => ("ResurrectingHeap$Thing", "cells", "I", true)
  | 2 => ("ResurrectingHeap$Thing", "place", "I", false)
  | 3 => ("ResurrectingHeap$Thing", "marked", "Z", false)
  | 4 => ("ResurrectingHeap$Thing", "tagged", "Z", false)
  | 5 => ("ResurrectingHeap$Thing", "tag", "I", false)
  | _ => ("ResurrectingHeap$Vector", "fields", "[LResurrectingHeap$Value;", true)
def tf_V : Nat → FieldType := fun k => match k with
  | 0 => .int
  | 1 => .int
  | 2 => .int
  | 3 => .boolean
  | 4 => .boolean
  | 5 => .int
  | _ => .array (.object "ResurrectingHeap$Value")
theorem nf_V : ∀ a, a < 7 → ∀ b, b < 7 → a ≠ b → (F_V a).2.1 ≠ (F_V b).2.1 := by decide +kernel
theorem tf_V_ok : ∀ k, k < 7 → parseFieldDescriptor (F_V k).2.2.1 = some (tf_V k) := by decide +kernel
def F_K : u_T := fun k => match k with
  | 0 => ("ResurrectingHeap$Thing", "hash", "I", true)
  | 1 => ("ResurrectingHeap$Thing", "cells", "I", true)
  | 2 => ("ResurrectingHeap$Thing", "place", "I", false)
  | 3 => ("ResurrectingHeap$Thing", "marked", "Z", false)
  | 4 => ("ResurrectingHeap$Thing", "tagged", "Z", false)
  | 5 => ("ResurrectingHeap$Thing", "tag", "I", false)
  | _ => ("ResurrectingHeap$Weak", "target", "LResurrectingHeap$Thing;", false)
def tf_K : Nat → FieldType := fun k => match k with
  | 0 => .int
  | 1 => .int
  | 2 => .int
  | 3 => .boolean
  | 4 => .boolean
  | 5 => .int
  | _ => .object "ResurrectingHeap$Thing"
theorem nf_K : ∀ a, a < 7 → ∀ b, b < 7 → a ≠ b → (F_K a).2.1 ≠ (F_K b).2.1 := by decide +kernel
theorem tf_K_ok : ∀ k, k < 7 → parseFieldDescriptor (F_K k).2.2.1 = some (tf_K k) := by decide +kernel
def F_T : u_T := fun k => match k with
  | 0 => ("ResurrectingHeap$Thing", "hash", "I", true)
  | 1 => ("ResurrectingHeap$Thing", "cells", "I", true)
  | 2 => ("ResurrectingHeap$Thing", "place", "I", false)
  | 3 => ("ResurrectingHeap$Thing", "marked", "Z", false)
  | 4 => ("ResurrectingHeap$Thing", "tagged", "Z", false)
  | 5 => ("ResurrectingHeap$Thing", "tag", "I", false)
  | 6 => ("ResurrectingHeap$Table", "keys", "[LResurrectingHeap$Thing;", true)
  | 7 => ("ResurrectingHeap$Table", "values", "[LResurrectingHeap$Value;", true)
  | _ => ("ResurrectingHeap$Table", "entryCount", "I", false)
def tf_T : Nat → FieldType := fun k => match k with
  | 0 => .int
  | 1 => .int
  | 2 => .int
  | 3 => .boolean
  | 4 => .boolean
  | 5 => .int
  | 6 => .array (.object "ResurrectingHeap$Thing")
  | 7 => .array (.object "ResurrectingHeap$Value")
  | _ => .int
theorem nf_T : ∀ a, a < 9 → ∀ b, b < 9 → a ≠ b → (F_T a).2.1 ≠ (F_T b).2.1 := by decide +kernel
theorem tf_T_ok : ∀ k, k < 9 → parseFieldDescriptor (F_T k).2.2.1 = some (tf_T k) := by decide +kernel
def F_R : u_T := fun k => match k with
  | 0 => ("ResurrectingHeap$Row", "things", "[LResurrectingHeap$Thing;", true)
  | _ => ("ResurrectingHeap$Row", "count", "I", false)
def tf_R : Nat → FieldType := fun k => match k with
  | 0 => .array (.object "ResurrectingHeap$Thing")
  | _ => .int
theorem nf_R : ∀ a, a < 2 → ∀ b, b < 2 → a ≠ b → (F_R a).2.1 ≠ (F_R b).2.1 := by decide +kernel
theorem tf_R_ok : ∀ k, k < 2 → parseFieldDescriptor (F_R k).2.2.1 = some (tf_R k) := by decide +kernel
def F_M : u_T := fun k => match k with
  | 0 => ("ResurrectingHeapModel", "varIs", "[I", false)
  | 1 => ("ResurrectingHeapModel", "varHas", "[I", false)
  | 2 => ("ResurrectingHeapModel", "objects", "I", false)
  | 3 => ("ResurrectingHeapModel", "made", "I", false)
  | 4 => ("ResurrectingHeapModel", "name", "[I", false)
  | 5 => ("ResurrectingHeapModel", "sort", "[I", false)
  | 6 => ("ResurrectingHeapModel", "many", "[I", false)
  | 7 => ("ResurrectingHeapModel", "is", "[I", false)
  | 8 => ("ResurrectingHeapModel", "has", "[I", false)
  | 9 => ("ResurrectingHeapModel", "keys", "[I", false)
  | 10 => ("ResurrectingHeapModel", "mark", "[Z", false)
  | 11 => ("ResurrectingHeapModel", "registered", "I", false)
  | 12 => ("ResurrectingHeapModel", "regName", "[I", false)
  | 13 => ("ResurrectingHeapModel", "regTag", "[I", false)
  | 14 => ("ResurrectingHeapModel", "waits", "I", false)
  | 15 => ("ResurrectingHeapModel", "waitName", "[I", false)
  | 16 => ("ResurrectingHeapModel", "waitTag", "[I", false)
  | _ => ("ResurrectingHeapModel", "runs", "I", false)
def tf_M : Nat → FieldType := fun k => match k with
  | 0 => .array (.int)
  | 1 => .array (.int)
  | 2 => .int
  | 3 => .int
  | 4 => .array (.int)
  | 5 => .array (.int)
  | 6 => .array (.int)
  | 7 => .array (.int)
  | 8 => .array (.int)
  | 9 => .array (.int)
  | 10 => .array (.boolean)
  | 11 => .int
  | 12 => .array (.int)
  | 13 => .array (.int)
  | 14 => .int
  | 15 => .array (.int)
  | 16 => .array (.int)
  | _ => .int
theorem nf_M : ∀ a, a < 18 → ∀ b, b < 18 → a ≠ b → (F_M a).2.1 ≠ (F_M b).2.1 := by decide +kernel
theorem tf_M_ok : ∀ k, k < 18 → parseFieldDescriptor (F_M k).2.2.1 = some (tf_M k) := by decide +kernel
abbrev mcl : List vw_C := [("ResurrectingHeap", F_H, 7), ("ResurrectingHeap$Numeral", F_N, 1), ("ResurrectingHeap$Vector", F_V, 7), ("ResurrectingHeap$Weak", F_K, 7), ("ResurrectingHeap$Table", F_T, 9), ("ResurrectingHeap$Row", F_R, 2), ("ResurrectingHeapModel", F_M, 18)]
abbrev tgM : Nat := 7
def mB (k : Nat) : ByteArray := match k with
  | 0 => code
  | 1 => prog_1_method_1_code
  | 2 => prog_1_method_2_code
  | 3 => prog_1_method_3_code
  | 4 => prog_1_method_4_code
  | 5 => prog_1_method_5_code
  | 6 => prog_1_method_6_code
  | 7 => prog_1_method_7_code
  | 8 => prog_1_method_8_code
  | 9 => prog_1_method_9_code
  | 10 => prog_1_method_10_code
  | 11 => prog_1_method_11_code
  | 12 => prog_1_method_12_code
  | 13 => prog_1_method_13_code
  | 14 => prog_1_method_14_code
  | 15 => prog_1_method_15_code
  | 16 => prog_1_method_16_code
  | 17 => prog_1_method_17_code
  | 18 => prog_1_method_18_code
  | 19 => prog_1_method_19_code
  | 20 => prog_1_method_20_code
  | 21 => prog_1_method_21_code
  | 22 => prog_1_method_22_code
  | 23 => prog_1_method_23_code
  | 24 => prog_1_method_24_code
  | 25 => prog_1_method_25_code
  | 26 => prog_1_method_26_code
  | 27 => prog_1_method_27_code
  | 28 => prog_1_method_28_code
  | 29 => prog_1_method_29_code
  | 30 => prog_1_method_30_code
  | 31 => prog_1_method_31_code
  | 32 => prog_1_method_32_code
  | 33 => prog_1_method_33_code
  | 34 => prog_1_method_34_code
  | 35 => prog_1_method_35_code
  | 36 => prog_10_method_1_code
  | 37 => prog_10_method_2_code
  | 38 => prog_10_method_3_code
  | 39 => prog_10_method_4_code
  | 40 => prog_10_method_5_code
  | 41 => prog_10_method_6_code
  | 42 => prog_10_method_7_code
  | 43 => prog_10_method_8_code
  | 44 => prog_10_method_9_code
  | 45 => prog_10_method_10_code
  | 46 => prog_10_method_11_code
  | 47 => prog_10_method_12_code
  | 48 => prog_10_method_13_code
  | 49 => prog_10_method_14_code
  | 50 => prog_10_method_15_code
  | 51 => prog_10_method_16_code
  | 52 => prog_10_method_17_code
  | 53 => prog_10_method_18_code
  | 54 => prog_10_method_19_code
  | 55 => prog_10_method_20_code
  | 56 => prog_10_method_21_code
  | 57 => prog_10_method_22_code
  | 58 => prog_10_method_23_code
  | 59 => prog_10_method_24_code
  | 60 => prog_10_method_25_code
  | 61 => prog_10_method_26_code
  | 62 => prog_10_method_27_code
  | 63 => prog_10_method_28_code
  | 64 => prog_10_method_29_code
  | 65 => prog_10_method_30_code
  | 66 => prog_10_method_31_code
  | 67 => prog_10_method_32_code
  | 68 => prog_10_method_33_code
  | 69 => prog_10_method_34_code
  | 70 => prog_10_method_35_code
  | 71 => prog_10_method_36_code
  | 72 => prog_10_method_37_code
  | 73 => prog_10_method_38_code
  | 74 => prog_10_method_39_code
  | 75 => prog_2_method_1_code
  | 76 => prog_2_method_2_code
  | 77 => prog_3_method_1_code
  | 78 => prog_3_method_2_code
  | 79 => prog_3_method_3_code
  | 80 => prog_3_method_4_code
  | 81 => prog_3_method_5_code
  | 82 => prog_3_method_6_code
  | 83 => prog_3_method_7_code
  | 84 => prog_4_method_1_code
  | 85 => prog_4_method_2_code
  | 86 => prog_4_method_3_code
  | 87 => prog_4_method_4_code
  | 88 => prog_4_method_5_code
  | 89 => prog_4_method_6_code
  | 90 => prog_4_method_7_code
  | 91 => prog_4_method_8_code
  | 92 => prog_5_method_1_code
  | 93 => prog_6_method_1_code
  | 94 => prog_7_method_1_code
  | 95 => prog_7_method_2_code
  | 96 => prog_7_method_3_code
  | 97 => prog_7_method_4_code
  | 98 => prog_7_method_5_code
  | 99 => prog_7_method_6_code
  | 100 => prog_8_method_1_code
  | 101 => prog_8_method_2_code
  | 102 => prog_8_method_3_code
  | 103 => prog_8_method_4_code
  | 104 => prog_8_method_5_code
  | _ => ⟨#[]⟩
def mL (k : Nat) : Nat := match k with
  | 0 => 4
  | 1 => 1
  | 2 => 3
  | 3 => 3
  | 4 => 3
  | 5 => 4
  | 6 => 2
  | 7 => 6
  | 8 => 6
  | 9 => 7
  | 10 => 7
  | 11 => 4
  | 12 => 3
  | 13 => 1
  | 14 => 3
  | 15 => 4
  | 16 => 3
  | 17 => 3
  | 18 => 3
  | 19 => 1
  | 20 => 1
  | 21 => 1
  | 22 => 1
  | 23 => 2
  | 24 => 4
  | 25 => 2
  | 26 => 3
  | 27 => 2
  | 28 => 3
  | 29 => 2
  | 30 => 3
  | 31 => 4
  | 32 => 3
  | 33 => 3
  | 34 => 3
  | 35 => 2
  | 36 => 1
  | 37 => 1
  | 38 => 4
  | 39 => 2
  | 40 => 4
  | 41 => 4
  | 42 => 3
  | 43 => 3
  | 44 => 2
  | 45 => 4
  | 46 => 6
  | 47 => 4
  | 48 => 4
  | 49 => 3
  | 50 => 5
  | 51 => 5
  | 52 => 5
  | 53 => 6
  | 54 => 6
  | 55 => 5
  | 56 => 4
  | 57 => 3
  | 58 => 3
  | 59 => 2
  | 60 => 2
  | 61 => 7
  | 62 => 3
  | 63 => 4
  | 64 => 3
  | 65 => 4
  | 66 => 2
  | 67 => 3
  | 68 => 2
  | 69 => 2
  | 70 => 3
  | 71 => 3
  | 72 => 1
  | 73 => 1
  | 74 => 1
  | 75 => 2
  | 76 => 1
  | 77 => 2
  | 78 => 1
  | 79 => 2
  | 80 => 2
  | 81 => 3
  | 82 => 2
  | 83 => 4
  | 84 => 2
  | 85 => 4
  | 86 => 3
  | 87 => 3
  | 88 => 1
  | 89 => 1
  | 90 => 4
  | 91 => 4
  | 92 => 3
  | 93 => 1
  | 94 => 3
  | 95 => 2
  | 96 => 1
  | 97 => 1
  | 98 => 3
  | 99 => 1
  | 100 => 3
  | 101 => 1
  | 102 => 1
  | 103 => 1
  | 104 => 1
  | _ => 0
def mO (k : Nat) : String := match k with
  | 0 => "ResurrectingHeapLaw"
  | 1 => "ResurrectingHeap"
  | 2 => "ResurrectingHeap"
  | 3 => "ResurrectingHeap"
  | 4 => "ResurrectingHeap"
  | 5 => "ResurrectingHeap"
  | 6 => "ResurrectingHeap"
  | 7 => "ResurrectingHeap"
  | 8 => "ResurrectingHeap"
  | 9 => "ResurrectingHeap"
  | 10 => "ResurrectingHeap"
  | 11 => "ResurrectingHeap"
  | 12 => "ResurrectingHeap"
  | 13 => "ResurrectingHeap"
  | 14 => "ResurrectingHeap"
  | 15 => "ResurrectingHeap"
  | 16 => "ResurrectingHeap"
  | 17 => "ResurrectingHeap"
  | 18 => "ResurrectingHeap"
  | 19 => "ResurrectingHeap"
  | 20 => "ResurrectingHeap"
  | 21 => "ResurrectingHeap"
  | 22 => "ResurrectingHeap"
  | 23 => "ResurrectingHeap"
  | 24 => "ResurrectingHeap"
  | 25 => "ResurrectingHeap"
  | 26 => "ResurrectingHeap"
  | 27 => "ResurrectingHeap"
  | 28 => "ResurrectingHeap"
  | 29 => "ResurrectingHeap"
  | 30 => "ResurrectingHeap"
  | 31 => "ResurrectingHeap"
  | 32 => "ResurrectingHeap"
  | 33 => "ResurrectingHeap"
  | 34 => "ResurrectingHeap"
  | 35 => "ResurrectingHeap"
  | 36 => "ResurrectingHeapModel"
  | 37 => "ResurrectingHeapModel"
  | 38 => "ResurrectingHeapModel"
  | 39 => "ResurrectingHeapModel"
  | 40 => "ResurrectingHeapModel"
  | 41 => "ResurrectingHeapModel"
  | 42 => "ResurrectingHeapModel"
  | 43 => "ResurrectingHeapModel"
  | 44 => "ResurrectingHeapModel"
  | 45 => "ResurrectingHeapModel"
  | 46 => "ResurrectingHeapModel"
  | 47 => "ResurrectingHeapModel"
  | 48 => "ResurrectingHeapModel"
  | 49 => "ResurrectingHeapModel"
  | 50 => "ResurrectingHeapModel"
  | 51 => "ResurrectingHeapModel"
  | 52 => "ResurrectingHeapModel"
  | 53 => "ResurrectingHeapModel"
  | 54 => "ResurrectingHeapModel"
  | 55 => "ResurrectingHeapModel"
  | 56 => "ResurrectingHeapModel"
  | 57 => "ResurrectingHeapModel"
  | 58 => "ResurrectingHeapModel"
  | 59 => "ResurrectingHeapModel"
  | 60 => "ResurrectingHeapModel"
  | 61 => "ResurrectingHeapModel"
  | 62 => "ResurrectingHeapModel"
  | 63 => "ResurrectingHeapModel"
  | 64 => "ResurrectingHeapModel"
  | 65 => "ResurrectingHeapModel"
  | 66 => "ResurrectingHeapModel"
  | 67 => "ResurrectingHeapModel"
  | 68 => "ResurrectingHeapModel"
  | 69 => "ResurrectingHeapModel"
  | 70 => "ResurrectingHeapModel"
  | 71 => "ResurrectingHeapModel"
  | 72 => "ResurrectingHeapModel"
  | 73 => "ResurrectingHeapModel"
  | 74 => "ResurrectingHeapModel"
  | 75 => "ResurrectingHeap$Numeral"
  | 76 => "ResurrectingHeap$Numeral"
  | 77 => "ResurrectingHeap$Row"
  | 78 => "ResurrectingHeap$Row"
  | 79 => "ResurrectingHeap$Row"
  | 80 => "ResurrectingHeap$Row"
  | 81 => "ResurrectingHeap$Row"
  | 82 => "ResurrectingHeap$Row"
  | 83 => "ResurrectingHeap$Row"
  | 84 => "ResurrectingHeap$Table"
  | 85 => "ResurrectingHeap$Table"
  | 86 => "ResurrectingHeap$Table"
  | 87 => "ResurrectingHeap$Table"
  | 88 => "ResurrectingHeap$Table"
  | 89 => "ResurrectingHeap$Table"
  | 90 => "ResurrectingHeap$Table"
  | 91 => "ResurrectingHeap$Table"
  | 92 => "ResurrectingHeap$Thing"
  | 93 => "ResurrectingHeap$Value"
  | 94 => "ResurrectingHeap$Vector"
  | 95 => "ResurrectingHeap$Vector"
  | 96 => "ResurrectingHeap$Vector"
  | 97 => "ResurrectingHeap$Vector"
  | 98 => "ResurrectingHeap$Vector"
  | 99 => "ResurrectingHeap$Vector"
  | 100 => "ResurrectingHeap$Weak"
  | 101 => "ResurrectingHeap$Weak"
  | 102 => "ResurrectingHeap$Weak"
  | 103 => "ResurrectingHeap$Weak"
  | 104 => "ResurrectingHeap$Weak"
  | _ => ""
def mY (k : Nat) : MethodName := match k with
  | 0 => ⟨"ResurrectingHeapLaw", "law", "([I)Z"⟩
  | 1 => ⟨"ResurrectingHeap", "<init>", "()V"⟩
  | 2 => ⟨"ResurrectingHeap", "number", "(II)Z"⟩
  | 3 => ⟨"ResurrectingHeap", "assign", "(II)Z"⟩
  | 4 => ⟨"ResurrectingHeap", "vector", "(II)I"⟩
  | 5 => ⟨"ResurrectingHeap", "weak", "(II)I"⟩
  | 6 => ⟨"ResurrectingHeap", "table", "(I)I"⟩
  | 7 => ⟨"ResurrectingHeap", "set", "(III)Z"⟩
  | 8 => ⟨"ResurrectingHeap", "get", "(III)Z"⟩
  | 9 => ⟨"ResurrectingHeap", "put", "(III)Z"⟩
  | 10 => ⟨"ResurrectingHeap", "find", "(III)Z"⟩
  | 11 => ⟨"ResurrectingHeap", "register", "(II)Z"⟩
  | 12 => ⟨"ResurrectingHeap", "next", "(I)I"⟩
  | 13 => ⟨"ResurrectingHeap", "collect", "()I"⟩
  | 14 => ⟨"ResurrectingHeap", "kind", "(I)I"⟩
  | 15 => ⟨"ResurrectingHeap", "value", "(I)I"⟩
  | 16 => ⟨"ResurrectingHeap", "hash", "(I)I"⟩
  | 17 => ⟨"ResurrectingHeap", "place", "(I)I"⟩
  | 18 => ⟨"ResurrectingHeap", "size", "(I)I"⟩
  | 19 => ⟨"ResurrectingHeap", "used", "()I"⟩
  | 20 => ⟨"ResurrectingHeap", "waiting", "()I"⟩
  | 21 => ⟨"ResurrectingHeap", "collections", "()I"⟩
  | 22 => ⟨"ResurrectingHeap", "isVariable", "(I)Z"⟩
  | 23 => ⟨"ResurrectingHeap", "held", "(I)LResurrectingHeap$Value;"⟩
  | 24 => ⟨"ResurrectingHeap", "heldThing", "(I)LResurrectingHeap$Thing;"⟩
  | 25 => ⟨"ResurrectingHeap", "makeRoom", "(I)Z"⟩
  | 26 => ⟨"ResurrectingHeap", "settle", "(ILResurrectingHeap$Thing;)I"⟩
  | 27 => ⟨"ResurrectingHeap", "runCollection", "()I"⟩
  | 28 => ⟨"ResurrectingHeap", "clearMarks", "()V"⟩
  | 29 => ⟨"ResurrectingHeap", "markVariables", "()V"⟩
  | 30 => ⟨"ResurrectingHeap", "spreadMarks", "()V"⟩
  | 31 => ⟨"ResurrectingHeap", "spreadOnce", "()Z"⟩
  | 32 => ⟨"ResurrectingHeap", "loseWhatIsNotStrong", "()V"⟩
  | 33 => ⟨"ResurrectingHeap", "handOutRegistered", "()V"⟩
  | 34 => ⟨"ResurrectingHeap", "closeGaps", "()V"⟩
  | 35 => ⟨"ResurrectingHeap", "markIfThing", "(LResurrectingHeap$Value;)Z"⟩
  | 36 => ⟨"ResurrectingHeapModel", "<init>", "()V"⟩
  | 37 => ⟨"ResurrectingHeapModel", "isVar", "(I)Z"⟩
  | 38 => ⟨"ResurrectingHeapModel", "at", "(I)I"⟩
  | 39 => ⟨"ResurrectingHeapModel", "object", "(I)I"⟩
  | 40 => ⟨"ResurrectingHeapModel", "objectOf", "(II)I"⟩
  | 41 => ⟨"ResurrectingHeapModel", "hold", "(III)V"⟩
  | 42 => ⟨"ResurrectingHeapModel", "number", "(II)Z"⟩
  | 43 => ⟨"ResurrectingHeapModel", "assign", "(II)Z"⟩
  | 44 => ⟨"ResurrectingHeapModel", "cells", "(I)I"⟩
  | 45 => ⟨"ResurrectingHeapModel", "cellsBefore", "(I)I"⟩
  | 46 => ⟨"ResurrectingHeapModel", "make", "(III)I"⟩
  | 47 => ⟨"ResurrectingHeapModel", "vector", "(II)I"⟩
  | 48 => ⟨"ResurrectingHeapModel", "weak", "(II)I"⟩
  | 49 => ⟨"ResurrectingHeapModel", "table", "(I)I"⟩
  | 50 => ⟨"ResurrectingHeapModel", "set", "(III)Z"⟩
  | 51 => ⟨"ResurrectingHeapModel", "get", "(III)Z"⟩
  | 52 => ⟨"ResurrectingHeapModel", "entry", "(II)I"⟩
  | 53 => ⟨"ResurrectingHeapModel", "put", "(III)Z"⟩
  | 54 => ⟨"ResurrectingHeapModel", "find", "(III)Z"⟩
  | 55 => ⟨"ResurrectingHeapModel", "register", "(II)Z"⟩
  | 56 => ⟨"ResurrectingHeapModel", "next", "(I)I"⟩
  | 57 => ⟨"ResurrectingHeapModel", "isMarked", "(I)Z"⟩
  | 58 => ⟨"ResurrectingHeapModel", "add", "(I)Z"⟩
  | 59 => ⟨"ResurrectingHeapModel", "addRoots", "()V"⟩
  | 60 => ⟨"ResurrectingHeapModel", "addWaiting", "()V"⟩
  | 61 => ⟨"ResurrectingHeapModel", "spread", "(Z)Z"⟩
  | 62 => ⟨"ResurrectingHeapModel", "close", "(Z)V"⟩
  | 63 => ⟨"ResurrectingHeapModel", "loosen", "()V"⟩
  | 64 => ⟨"ResurrectingHeapModel", "callWaiting", "()V"⟩
  | 65 => ⟨"ResurrectingHeapModel", "sweep", "()I"⟩
  | 66 => ⟨"ResurrectingHeapModel", "collect", "()I"⟩
  | 67 => ⟨"ResurrectingHeapModel", "kind", "(I)I"⟩
  | 68 => ⟨"ResurrectingHeapModel", "value", "(I)I"⟩
  | 69 => ⟨"ResurrectingHeapModel", "hash", "(I)I"⟩
  | 70 => ⟨"ResurrectingHeapModel", "place", "(I)I"⟩
  | 71 => ⟨"ResurrectingHeapModel", "size", "(I)I"⟩
  | 72 => ⟨"ResurrectingHeapModel", "used", "()I"⟩
  | 73 => ⟨"ResurrectingHeapModel", "waiting", "()I"⟩
  | 74 => ⟨"ResurrectingHeapModel", "collections", "()I"⟩
  | 75 => ⟨"ResurrectingHeap$Numeral", "<init>", "(I)V"⟩
  | 76 => ⟨"ResurrectingHeap$Numeral", "kindCode", "()I"⟩
  | 77 => ⟨"ResurrectingHeap$Row", "<init>", "(I)V"⟩
  | 78 => ⟨"ResurrectingHeap$Row", "length", "()I"⟩
  | 79 => ⟨"ResurrectingHeap$Row", "at", "(I)LResurrectingHeap$Thing;"⟩
  | 80 => ⟨"ResurrectingHeap$Row", "append", "(LResurrectingHeap$Thing;)V"⟩
  | 81 => ⟨"ResurrectingHeap$Row", "takeFirst", "()LResurrectingHeap$Thing;"⟩
  | 82 => ⟨"ResurrectingHeap$Row", "markAll", "()V"⟩
  | 83 => ⟨"ResurrectingHeap$Row", "dropUnmarked", "()I"⟩
  | 84 => ⟨"ResurrectingHeap$Table", "<init>", "(I)V"⟩
  | 85 => ⟨"ResurrectingHeap$Table", "enter", "(LResurrectingHeap$Thing;LResurrectingHeap$Value;)Z"⟩
  | 86 => ⟨"ResurrectingHeap$Table", "valueUnder", "(LResurrectingHeap$Thing;)LResurrectingHeap$Value;"⟩
  | 87 => ⟨"ResurrectingHeap$Table", "entryOf", "(LResurrectingHeap$Thing;)I"⟩
  | 88 => ⟨"ResurrectingHeap$Table", "kindCode", "()I"⟩
  | 89 => ⟨"ResurrectingHeap$Table", "extent", "()I"⟩
  | 90 => ⟨"ResurrectingHeap$Table", "markHeld", "()Z"⟩
  | 91 => ⟨"ResurrectingHeap$Table", "loseUnmarked", "()V"⟩
  | 92 => ⟨"ResurrectingHeap$Thing", "<init>", "(II)V"⟩
  | 93 => ⟨"ResurrectingHeap$Value", "<init>", "()V"⟩
  | 94 => ⟨"ResurrectingHeap$Vector", "<init>", "(II)V"⟩
  | 95 => ⟨"ResurrectingHeap$Vector", "hasField", "(I)Z"⟩
  | 96 => ⟨"ResurrectingHeap$Vector", "kindCode", "()I"⟩
  | 97 => ⟨"ResurrectingHeap$Vector", "extent", "()I"⟩
  | 98 => ⟨"ResurrectingHeap$Vector", "markHeld", "()Z"⟩
  | 99 => ⟨"ResurrectingHeap$Vector", "loseUnmarked", "()V"⟩
  | 100 => ⟨"ResurrectingHeap$Weak", "<init>", "(ILResurrectingHeap$Thing;)V"⟩
  | 101 => ⟨"ResurrectingHeap$Weak", "kindCode", "()I"⟩
  | 102 => ⟨"ResurrectingHeap$Weak", "extent", "()I"⟩
  | 103 => ⟨"ResurrectingHeap$Weak", "markHeld", "()Z"⟩
  | 104 => ⟨"ResurrectingHeap$Weak", "loseUnmarked", "()V"⟩
  | _ => ⟨"", "", ""⟩
def mR (k : Nat) : Option FieldType := match k with
  | 0 => some .boolean
  | 1 => none
  | 2 => some .boolean
  | 3 => some .boolean
  | 4 => some .int
  | 5 => some .int
  | 6 => some .int
  | 7 => some .boolean
  | 8 => some .boolean
  | 9 => some .boolean
  | 10 => some .boolean
  | 11 => some .boolean
  | 12 => some .int
  | 13 => some .int
  | 14 => some .int
  | 15 => some .int
  | 16 => some .int
  | 17 => some .int
  | 18 => some .int
  | 19 => some .int
  | 20 => some .int
  | 21 => some .int
  | 22 => some .boolean
  | 23 => some (.object "ResurrectingHeap$Value")
  | 24 => some (.object "ResurrectingHeap$Thing")
  | 25 => some .boolean
  | 26 => some .int
  | 27 => some .int
  | 28 => none
  | 29 => none
  | 30 => none
  | 31 => some .boolean
  | 32 => none
  | 33 => none
  | 34 => none
  | 35 => some .boolean
  | 36 => none
  | 37 => some .boolean
  | 38 => some .int
  | 39 => some .int
  | 40 => some .int
  | 41 => none
  | 42 => some .boolean
  | 43 => some .boolean
  | 44 => some .int
  | 45 => some .int
  | 46 => some .int
  | 47 => some .int
  | 48 => some .int
  | 49 => some .int
  | 50 => some .boolean
  | 51 => some .boolean
  | 52 => some .int
  | 53 => some .boolean
  | 54 => some .boolean
  | 55 => some .boolean
  | 56 => some .int
  | 57 => some .boolean
  | 58 => some .boolean
  | 59 => none
  | 60 => none
  | 61 => some .boolean
  | 62 => none
  | 63 => none
  | 64 => none
  | 65 => some .int
  | 66 => some .int
  | 67 => some .int
  | 68 => some .int
  | 69 => some .int
  | 70 => some .int
  | 71 => some .int
  | 72 => some .int
  | 73 => some .int
  | 74 => some .int
  | 75 => none
  | 76 => some .int
  | 77 => none
  | 78 => some .int
  | 79 => some (.object "ResurrectingHeap$Thing")
  | 80 => none
  | 81 => some (.object "ResurrectingHeap$Thing")
  | 82 => none
  | 83 => some .int
  | 84 => none
  | 85 => some .boolean
  | 86 => some (.object "ResurrectingHeap$Value")
  | 87 => some .int
  | 88 => some .int
  | 89 => some .int
  | 90 => some .boolean
  | 91 => none
  | 92 => none
  | 93 => none
  | 94 => none
  | 95 => some .boolean
  | 96 => some .int
  | 97 => some .int
  | 98 => some .boolean
  | 99 => none
  | 100 => none
  | 101 => some .int
  | 102 => some .int
  | 103 => some .boolean
  | 104 => none
  | _ => none
def mN (k : Nat) : Bool := match k with
  | 0 => false
  | 1 => true
  | 2 => false
  | 3 => false
  | 4 => false
  | 5 => false
  | 6 => false
  | 7 => false
  | 8 => false
  | 9 => false
  | 10 => false
  | 11 => false
  | 12 => false
  | 13 => false
  | 14 => false
  | 15 => false
  | 16 => false
  | 17 => false
  | 18 => false
  | 19 => false
  | 20 => false
  | 21 => false
  | 22 => false
  | 23 => false
  | 24 => false
  | 25 => false
  | 26 => false
  | 27 => false
  | 28 => false
  | 29 => false
  | 30 => false
  | 31 => false
  | 32 => false
  | 33 => false
  | 34 => false
  | 35 => false
  | 36 => true
  | 37 => false
  | 38 => false
  | 39 => false
  | 40 => false
  | 41 => false
  | 42 => false
  | 43 => false
  | 44 => false
  | 45 => false
  | 46 => false
  | 47 => false
  | 48 => false
  | 49 => false
  | 50 => false
  | 51 => false
  | 52 => false
  | 53 => false
  | 54 => false
  | 55 => false
  | 56 => false
  | 57 => false
  | 58 => false
  | 59 => false
  | 60 => false
  | 61 => false
  | 62 => false
  | 63 => false
  | 64 => false
  | 65 => false
  | 66 => false
  | 67 => false
  | 68 => false
  | 69 => false
  | 70 => false
  | 71 => false
  | 72 => false
  | 73 => false
  | 74 => false
  | 75 => true
  | 76 => false
  | 77 => true
  | 78 => false
  | 79 => false
  | 80 => false
  | 81 => false
  | 82 => false
  | 83 => false
  | 84 => true
  | 85 => false
  | 86 => false
  | 87 => false
  | 88 => false
  | 89 => false
  | 90 => false
  | 91 => false
  | 92 => true
  | 93 => true
  | 94 => true
  | 95 => false
  | 96 => false
  | 97 => false
  | 98 => false
  | 99 => false
  | 100 => true
  | 101 => false
  | 102 => false
  | 103 => false
  | 104 => false
  | _ => false
abbrev k_L_law : Nat := 0
abbrev k_H_init : Nat := 1
abbrev k_H_number : Nat := 2
abbrev k_H_assign : Nat := 3
abbrev k_H_vector : Nat := 4
abbrev k_H_weak : Nat := 5
abbrev k_H_table : Nat := 6
abbrev k_H_set : Nat := 7
abbrev k_H_get : Nat := 8
abbrev k_H_put : Nat := 9
abbrev k_H_find : Nat := 10
abbrev k_H_register : Nat := 11
abbrev k_H_next : Nat := 12
abbrev k_H_collect : Nat := 13
abbrev k_H_kind : Nat := 14
abbrev k_H_value : Nat := 15
abbrev k_H_hash : Nat := 16
abbrev k_H_place : Nat := 17
abbrev k_H_size : Nat := 18
abbrev k_H_used : Nat := 19
abbrev k_H_waiting : Nat := 20
abbrev k_H_collections : Nat := 21
abbrev k_H_isVariable : Nat := 22
abbrev k_H_held : Nat := 23
abbrev k_H_heldThing : Nat := 24
abbrev k_H_makeRoom : Nat := 25
abbrev k_H_settle : Nat := 26
abbrev k_H_runCollection : Nat := 27
abbrev k_H_clearMarks : Nat := 28
abbrev k_H_markVariables : Nat := 29
abbrev k_H_spreadMarks : Nat := 30
abbrev k_H_spreadOnce : Nat := 31
abbrev k_H_loseWhatIsNotStrong : Nat := 32
abbrev k_H_handOutRegistered : Nat := 33
abbrev k_H_closeGaps : Nat := 34
abbrev k_H_markIfThing : Nat := 35
abbrev k_M_init : Nat := 36
abbrev k_M_isVar : Nat := 37
abbrev k_M_at : Nat := 38
abbrev k_M_object : Nat := 39
abbrev k_M_objectOf : Nat := 40
abbrev k_M_hold : Nat := 41
abbrev k_M_number : Nat := 42
abbrev k_M_assign : Nat := 43
abbrev k_M_cells : Nat := 44
abbrev k_M_cellsBefore : Nat := 45
abbrev k_M_make : Nat := 46
abbrev k_M_vector : Nat := 47
abbrev k_M_weak : Nat := 48
abbrev k_M_table : Nat := 49
abbrev k_M_set : Nat := 50
abbrev k_M_get : Nat := 51
abbrev k_M_entry : Nat := 52
abbrev k_M_put : Nat := 53
abbrev k_M_find : Nat := 54
abbrev k_M_register : Nat := 55
abbrev k_M_next : Nat := 56
abbrev k_M_isMarked : Nat := 57
abbrev k_M_add : Nat := 58
abbrev k_M_addRoots : Nat := 59
abbrev k_M_addWaiting : Nat := 60
abbrev k_M_spread : Nat := 61
abbrev k_M_close : Nat := 62
abbrev k_M_loosen : Nat := 63
abbrev k_M_callWaiting : Nat := 64
abbrev k_M_sweep : Nat := 65
abbrev k_M_collect : Nat := 66
abbrev k_M_kind : Nat := 67
abbrev k_M_value : Nat := 68
abbrev k_M_hash : Nat := 69
abbrev k_M_place : Nat := 70
abbrev k_M_size : Nat := 71
abbrev k_M_used : Nat := 72
abbrev k_M_waiting : Nat := 73
abbrev k_M_collections : Nat := 74
abbrev k_N_init : Nat := 75
abbrev k_N_kindCode : Nat := 76
abbrev k_R_init : Nat := 77
abbrev k_R_length : Nat := 78
abbrev k_R_at : Nat := 79
abbrev k_R_append : Nat := 80
abbrev k_R_takeFirst : Nat := 81
abbrev k_R_markAll : Nat := 82
abbrev k_R_dropUnmarked : Nat := 83
abbrev k_T_init : Nat := 84
abbrev k_T_enter : Nat := 85
abbrev k_T_valueUnder : Nat := 86
abbrev k_T_entryOf : Nat := 87
abbrev k_T_kindCode : Nat := 88
abbrev k_T_extent : Nat := 89
abbrev k_T_markHeld : Nat := 90
abbrev k_T_loseUnmarked : Nat := 91
abbrev k_G_init : Nat := 92
abbrev k_U_init : Nat := 93
abbrev k_V_init : Nat := 94
abbrev k_V_hasField : Nat := 95
abbrev k_V_kindCode : Nat := 96
abbrev k_V_extent : Nat := 97
abbrev k_V_markHeld : Nat := 98
abbrev k_V_loseUnmarked : Nat := 99
abbrev k_K_init : Nat := 100
abbrev k_K_kindCode : Nat := 101
abbrev k_K_extent : Nat := 102
abbrev k_K_markHeld : Nat := 103
abbrev k_K_loseUnmarked : Nat := 104
/-- pairs that are not castable: the Statement gives them in narrow_1 -/
def mNC : List (String × String) := [("ResurrectingHeap$Numeral", "ResurrectingHeap$Thing"), ("ResurrectingHeap$Numeral", "ResurrectingHeap$Vector"), ("ResurrectingHeap$Weak", "ResurrectingHeap$Vector"), ("ResurrectingHeap$Table", "ResurrectingHeap$Vector"), ("ResurrectingHeap$Numeral", "ResurrectingHeap$Weak"), ("ResurrectingHeap$Vector", "ResurrectingHeap$Weak"), ("ResurrectingHeap$Table", "ResurrectingHeap$Weak"), ("ResurrectingHeap$Numeral", "ResurrectingHeap$Table"), ("ResurrectingHeap$Vector", "ResurrectingHeap$Table"), ("ResurrectingHeap$Weak", "ResurrectingHeap$Table"), ("ResurrectingHeap$Vector", "ResurrectingHeap$Numeral"), ("ResurrectingHeap$Weak", "ResurrectingHeap$Numeral"), ("ResurrectingHeap$Table", "ResurrectingHeap$Numeral")]
end
section
/-! the mini-machine: values are Ints or addresses, the store holds every cell of the run, an instruction is a function -/
abbrev MV : Type := Int ⊕ Option Nat
abbrev MS : Type := Nat × Nat × (Nat → Nat) × (Nat → Int) × (Nat → Int → MV)
abbrev ML : Type := List (Option MV)
abbrev MI : Type := ML → List MV → MS → Option (Nat × ML × List MV × MS)
abbrev MC : Type := Bool × Nat × List (Nat × Nat) × Nat
abbrev ME : Type := MI ⊕ (MC ⊕ Nat)
abbrev zS (S : MS) : Nat := S.1
abbrev qS (S : MS) : Nat := S.2.1
abbrev tS (S : MS) : Nat → Nat := S.2.2.1
abbrev lS (S : MS) : Nat → Int := S.2.2.2.1
abbrev vS (S : MS) : Nat → Int → MV := S.2.2.2.2
def mset (S : MS) (a : Nat) (k : Int) (v : MV) : MS := (S.1, S.2.1, S.2.2.1, S.2.2.2.1, fun b j => if b = a ∧ j = k then v else S.2.2.2.2 b j)
def mnew (S : MS) (t : Nat) (n : Int) (f : Int → MV) : MS := (S.1 + 1, S.2.1 + n.toNat, fun b => if b = S.1 then t else S.2.2.1 b, fun b => if b = S.1 then n else S.2.2.2.1 b, fun b => if b = S.1 then f else S.2.2.2.2 b)
def cv (v : MV) : Value := match v with
  | .inl e => .int (Int32.ofInt e)
  | .inr none => .null
  | .inr (some a) => .ref a
abbrev inR (e : Int) : Prop := -2147483648 ≤ e ∧ e < 2147483648
def okV (v : MV) : Prop := match v with
  | .inl e => inR e
  | .inr _ => True
-- instructions
def i_c (e : Int) (nx : Nat) : MI := fun L st S => some (nx, L, .inl e :: st, S)
def i_n (nx : Nat) : MI := fun L st S => some (nx, L, .inr none :: st, S)
def i_il (j nx : Nat) : MI := fun L st S => match L[j]? with
  | some (some (.inl e)) => some (nx, L, .inl e :: st, S)
  | _ => none
def i_al (j nx : Nat) : MI := fun L st S => match L[j]? with
  | some (some (.inr r)) => some (nx, L, .inr r :: st, S)
  | _ => none
def i_is (j nx : Nat) : MI := fun L st S => match st with
  | .inl e :: st => some (nx, L.set j (some (.inl e)), st, S)
  | _ => none
def i_as (j nx : Nat) : MI := fun L st S => match st with
  | .inr r :: st => some (nx, L.set j (some (.inr r)), st, S)
  | _ => none
noncomputable def i_ii (j : Nat) (n : Int) (nx : Nat) : MI := fun L st S => match L[j]? with
  | some (some (.inl e)) => @ite _ (inR (e + n)) (Classical.propDecidable _) (some (nx, L.set j (some (.inl (e + n))), st, S)) none
  | _ => none
noncomputable def i_bin (f : Int → Int → Int) (nx : Nat) : MI := fun L st S => match st with
  | .inl b :: .inl a :: st => @ite _ (inR (f a b)) (Classical.propDecidable _) (some (nx, L, .inl (f a b) :: st, S)) none
  | _ => none
def i_and (nx : Nat) : MI := fun L st S => match st with
  | .inl b :: .inl a :: st => if b = 31 then some (nx, L, .inl (a % 32) :: st, S) else none
  | _ => none
def i_dup (nx : Nat) : MI := fun L st S => match st with
  | a :: st => some (nx, L, a :: a :: st, S)
  | _ => none
def i_pop (nx : Nat) : MI := fun L st S => match st with
  | _ :: st => some (nx, L, st, S)
  | _ => none
def i_dx1 (nx : Nat) : MI := fun L st S => match st with
  | a :: b :: st => some (nx, L, a :: b :: a :: st, S)
  | _ => none
def i_dup2 (nx : Nat) : MI := fun L st S => match st with
  | a :: b :: st => some (nx, L, a :: b :: a :: b :: st, S)
  | _ => none
noncomputable def cmpB (o : Nat) (a b : Int) : Bool := match o with
  | 0 => @decide (a = b) (Classical.propDecidable _)
  | 1 => @decide (¬ a = b) (Classical.propDecidable _)
  | 2 => @decide (a < b) (Classical.propDecidable _)
  | 3 => @decide (b ≤ a) (Classical.propDecidable _)
  | 4 => @decide (b < a) (Classical.propDecidable _)
  | _ => @decide (a ≤ b) (Classical.propDecidable _)
noncomputable def i_z (o tg nx : Nat) : MI := fun L st S => match st with
  | .inl a :: st => cond (cmpB o a 0) (some (tg, L, st, S)) (some (nx, L, st, S))
  | _ => none
noncomputable def i_cmp (o tg nx : Nat) : MI := fun L st S => match st with
  | .inl b :: .inl a :: st => cond (cmpB o a b) (some (tg, L, st, S)) (some (nx, L, st, S))
  | _ => none
def i_nul (tg nx : Nat) : MI := fun L st S => match st with
  | .inr none :: st => some (tg, L, st, S)
  | .inr (some _) :: st => some (nx, L, st, S)
  | _ => none
def i_aeq (tg nx : Nat) : MI := fun L st S => match st with
  | .inr b :: .inr a :: st => if a = b then some (tg, L, st, S) else some (nx, L, st, S)
  | _ => none
def i_go (tg : Nat) : MI := fun L st S => some (tg, L, st, S)
def i_sw (lo hi : Int) (tg : List Nat) (df : Nat) : MI := fun L st S => match st with
  | .inl a :: st => if a < lo ∨ hi < a then some (df, L, st, S) else (tg[(a - lo).toNat]?).map fun t => (t, L, st, S)
  | _ => none
def i_get (ts : List Nat) (kk : Int) (nx : Nat) : MI := fun L st S => match st with
  | .inr (some a) :: st => if ts.contains (tS S a) then some (nx, L, vS S a kk :: st, S) else none
  | _ => none
def fitM (ty : Nat) (v : MV) : Bool := match ty, v with
  | 0, .inl _ => true
  | 1, .inl e => decide (e = 0 ∨ e = 1)
  | 2, .inr _ => true
  | _, _ => false
def i_put (ts : List Nat) (kk : Int) (ty nx : Nat) : MI := fun L st S => match st with
  | v :: .inr (some a) :: st => if ts.contains (tS S a) && fitM ty v then some (nx, L, st, mset S a kk v) else none
  | _ => none
def i_ld (ts : List Nat) (nx : Nat) : MI := fun L st S => match st with
  | .inl i :: .inr (some a) :: st => if ts.contains (tS S a) ∧ 0 ≤ i ∧ i < lS S a then some (nx, L, vS S a i :: st, S) else none
  | _ => none
def i_ist (nx : Nat) : MI := fun L st S => match st with
  | .inl x :: .inl i :: .inr (some a) :: st => if tS S a = 20 ∧ 0 ≤ i ∧ i < lS S a then some (nx, L, st, mset S a i (.inl x)) else none
  | _ => none
def i_zst (nx : Nat) : MI := fun L st S => match st with
  | .inl x :: .inl i :: .inr (some a) :: st => if tS S a = 21 ∧ (x = 0 ∨ x = 1) ∧ 0 ≤ i ∧ i < lS S a then some (nx, L, st, mset S a i (.inl x)) else none
  | _ => none
def astOK (as : List (Nat × List Nat)) (S : MS) (a : Nat) (r : Option Nat) : Bool := match r with
  | none => (as.lookup (tS S a)).isSome
  | some b => match as.lookup (tS S a) with
    | some ts => ts.contains (tS S b)
    | none => false
def i_ast (as : List (Nat × List Nat)) (nx : Nat) : MI := fun L st S => match st with
  | .inr r :: .inl i :: .inr (some a) :: st => if astOK as S a r ∧ 0 ≤ i ∧ i < lS S a then some (nx, L, st, mset S a i (.inr r)) else none
  | _ => none
def i_len (nx : Nat) : MI := fun L st S => match st with
  | .inr (some a) :: st => if 20 ≤ tS S a then some (nx, L, .inl (lS S a) :: st, S) else none
  | _ => none
def i_new (t n : Nat) (f : Int → MV) (nx : Nat) : MI := fun L st S => some (nx, L, .inr (some (zS S)) :: st, mnew S t (n : Int) f)
def i_newa (t : Nat) (v : MV) (nx : Nat) : MI := fun L st S => match st with
  | .inl n :: st => if 0 ≤ n ∧ n ≤ 100000 then some (nx, L, .inr (some (zS S)) :: st, mnew S t n (fun _ => v)) else none
  | _ => none
def i_ins (ys ns : List Nat) (nx : Nat) : MI := fun L st S => match st with
  | .inr none :: st => some (nx, L, .inl 0 :: st, S)
  | .inr (some a) :: st => if ys.contains (tS S a) then some (nx, L, .inl 1 :: st, S) else if ns.contains (tS S a) then some (nx, L, .inl 0 :: st, S) else none
  | _ => none
def i_cst (ys : List Nat) (nx : Nat) : MI := fun L st S => match st with
  | .inr none :: st => some (nx, L, .inr none :: st, S)
  | .inr (some a) :: st => if ys.contains (tS S a) then some (nx, L, .inr (some a) :: st, S) else none
  | _ => none
def i_obj (nx : Nat) : MI := fun L st S => match st with
  | .inr (some _) :: st => if st.length ≤ 8 then some (nx, L, st, S) else none
  | _ => none
-- calls and returns
def mcallee (sta : Bool) (na : Nat) (tg : List (Nat × Nat)) (st : List MV) (S : MS) : Option (Nat × List MV × List MV) :=
  if na ≤ st.length ∧ (st.drop na).length ≤ 8 then
    match sta with
    | true => (tg.lookup 0).map fun k' => (k', (st.take na).reverse, st.drop na)
    | false => match (st.take na).reverse with
      | .inr (some b) :: as => (tg.lookup (tS S b)).map fun k' => (k', .inr (some b) :: as, st.drop na)
      | _ => none
  else none
def mret (rk : Nat) (st : List MV) (S : MS) : Option (Option MV × MS) := match rk, st with
  | 0, [.inl e] => some (some (.inl e), S)
  | 1, [.inl e] => if e = 0 ∨ e = 1 then some (some (.inl e), S) else none
  | 2, [.inr r] => some (some (.inr r), S)
  | 3, [] => some (none, S)
  | _, _ => none
def mentry (nL : Nat) (as : List MV) : ML := as.map some ++ List.replicate (nL - as.length) none
def mx (P : Nat → Nat → Option ME) (nL : Nat → Nat) : Nat → Nat → Nat → Nat → ML → List MV → MS → Option (Option MV × MS)
  | 0, _, _, _, _, _, _ => none
  | n + 1, d, k, pc, L, st, S =>
    match P k pc with
    | none => none
    | some (.inl mi) => match mi L st S with
      | none => none
      | some (pc', L', st', S') => mx P nL n d k pc' L' st' S'
    | some (.inr (.inl (sta, na, tg, nx))) => match d with
      | 0 => none
      | d + 1 => match mcallee sta na tg st S with
        | none => none
        | some (k', as, rest) => match mx P nL n d k' 0 (mentry (nL k') as) [] S with
          | none => none
          | some (v, S') => mx P nL n (d + 1) k nx L (v.toList ++ rest) S'
    | some (.inr (.inr rk)) => mret rk st S
end
section
/-! the methods as mini-code (by program) -/
def df_H : Int → MV := fun j => if j < 4 then .inr none else .inl 0
def df_N : Int → MV := fun j => .inl 0
def df_V : Int → MV := fun j => if j < 6 then .inl 0 else .inr none
def df_K : Int → MV := fun j => if j < 6 then .inl 0 else .inr none
def df_T : Int → MV := fun j => if j < 6 then .inl 0 else if j < 8 then .inr none else .inl 0
def df_R : Int → MV := fun j => if j < 1 then .inr none else .inl 0
def df_M : Int → MV := fun j => if j < 2 then .inr none else if j < 4 then .inl 0 else if j < 11 then .inr none else if j < 12 then .inl 0 else if j < 14 then .inr none else if j < 15 then .inl 0 else if j < 17 then .inr none else .inl 0
noncomputable def l_0_0 : List (Nat × ME) := [(0, .inl (i_new 1 7 df_H 3)),
  (3, .inl (i_dup 4)),
  (4, .inr (.inl (false, 1, [(1, 1)], 7))),
  (7, .inl (i_as 1 8)),
  (8, .inl (i_new 7 18 df_M 11)),
  (11, .inl (i_dup 12)),
  (12, .inr (.inl (false, 1, [(7, 36)], 15))),
  (15, .inl (i_as 2 16)),
  (16, .inl (i_c 0 17)),
  (17, .inl (i_is 3 18)),
  (18, .inl (i_il 3 19)),
  (19, .inl (i_al 0 20)),
  (20, .inl (i_len 21)),
  (21, .inl (i_c 4 22)),
  (22, .inl (i_bin (fun a b => a - b) 23)),
  (23, .inl (i_cmp 4 684 26)),
  (26, .inl (i_al 0 27)),
  (27, .inl (i_il 3 28)),
  (28, .inl (i_ld [20, 30] 29)),
  (29, .inl (i_c 31 31)),
  (31, .inl (i_and 32)),
  (32, .inl (i_sw 0 19 [128, 161, 194, 227, 260, 283, 326, 369, 412, 455, 488, 511, 524, 547, 570, 593, 616, 639, 652, 665] 678)),
  (128, .inl (i_al 1 129)),
  (129, .inl (i_al 0 130)),
  (130, .inl (i_il 3 131)),
  (131, .inl (i_c 1 132)),
  (132, .inl (i_bin (fun a b => a + b) 133)),
  (133, .inl (i_ld [20, 30] 134)),
  (134, .inl (i_al 0 135)),
  (135, .inl (i_il 3 136))]
noncomputable def l_0_1 : List (Nat × ME) := [(136, .inl (i_c 2 137)),
  (137, .inl (i_bin (fun a b => a + b) 138)),
  (138, .inl (i_ld [20, 30] 139)),
  (139, .inr (.inl (false, 3, [(1, 2)], 142))),
  (142, .inl (i_al 2 143)),
  (143, .inl (i_al 0 144)),
  (144, .inl (i_il 3 145)),
  (145, .inl (i_c 1 146)),
  (146, .inl (i_bin (fun a b => a + b) 147)),
  (147, .inl (i_ld [20, 30] 148)),
  (148, .inl (i_al 0 149)),
  (149, .inl (i_il 3 150)),
  (150, .inl (i_c 2 151)),
  (151, .inl (i_bin (fun a b => a + b) 152)),
  (152, .inl (i_ld [20, 30] 153)),
  (153, .inr (.inl (false, 3, [(7, 42)], 156))),
  (156, .inl (i_cmp 0 678 159)),
  (159, .inl (i_c 0 160)),
  (160, .inr (.inr 1)),
  (161, .inl (i_al 1 162)),
  (162, .inl (i_al 0 163)),
  (163, .inl (i_il 3 164)),
  (164, .inl (i_c 1 165)),
  (165, .inl (i_bin (fun a b => a + b) 166)),
  (166, .inl (i_ld [20, 30] 167)),
  (167, .inl (i_al 0 168)),
  (168, .inl (i_il 3 169)),
  (169, .inl (i_c 2 170)),
  (170, .inl (i_bin (fun a b => a + b) 171)),
  (171, .inl (i_ld [20, 30] 172))]
noncomputable def l_0_2 : List (Nat × ME) := [(172, .inr (.inl (false, 3, [(1, 3)], 175))),
  (175, .inl (i_al 2 176)),
  (176, .inl (i_al 0 177)),
  (177, .inl (i_il 3 178)),
  (178, .inl (i_c 1 179)),
  (179, .inl (i_bin (fun a b => a + b) 180)),
  (180, .inl (i_ld [20, 30] 181)),
  (181, .inl (i_al 0 182)),
  (182, .inl (i_il 3 183)),
  (183, .inl (i_c 2 184)),
  (184, .inl (i_bin (fun a b => a + b) 185)),
  (185, .inl (i_ld [20, 30] 186)),
  (186, .inr (.inl (false, 3, [(7, 43)], 189))),
  (189, .inl (i_cmp 0 678 192)),
  (192, .inl (i_c 0 193)),
  (193, .inr (.inr 1)),
  (194, .inl (i_al 1 195)),
  (195, .inl (i_al 0 196)),
  (196, .inl (i_il 3 197)),
  (197, .inl (i_c 1 198)),
  (198, .inl (i_bin (fun a b => a + b) 199)),
  (199, .inl (i_ld [20, 30] 200)),
  (200, .inl (i_al 0 201)),
  (201, .inl (i_il 3 202)),
  (202, .inl (i_c 2 203)),
  (203, .inl (i_bin (fun a b => a + b) 204)),
  (204, .inl (i_ld [20, 30] 205)),
  (205, .inr (.inl (false, 3, [(1, 4)], 208))),
  (208, .inl (i_al 2 209)),
  (209, .inl (i_al 0 210))]
noncomputable def l_0_3 : List (Nat × ME) := [(210, .inl (i_il 3 211)),
  (211, .inl (i_c 1 212)),
  (212, .inl (i_bin (fun a b => a + b) 213)),
  (213, .inl (i_ld [20, 30] 214)),
  (214, .inl (i_al 0 215)),
  (215, .inl (i_il 3 216)),
  (216, .inl (i_c 2 217)),
  (217, .inl (i_bin (fun a b => a + b) 218)),
  (218, .inl (i_ld [20, 30] 219)),
  (219, .inr (.inl (false, 3, [(7, 47)], 222))),
  (222, .inl (i_cmp 0 678 225)),
  (225, .inl (i_c 0 226)),
  (226, .inr (.inr 1)),
  (227, .inl (i_al 1 228)),
  (228, .inl (i_al 0 229)),
  (229, .inl (i_il 3 230)),
  (230, .inl (i_c 1 231)),
  (231, .inl (i_bin (fun a b => a + b) 232)),
  (232, .inl (i_ld [20, 30] 233)),
  (233, .inl (i_al 0 234)),
  (234, .inl (i_il 3 235)),
  (235, .inl (i_c 2 236)),
  (236, .inl (i_bin (fun a b => a + b) 237)),
  (237, .inl (i_ld [20, 30] 238)),
  (238, .inr (.inl (false, 3, [(1, 5)], 241))),
  (241, .inl (i_al 2 242)),
  (242, .inl (i_al 0 243)),
  (243, .inl (i_il 3 244)),
  (244, .inl (i_c 1 245)),
  (245, .inl (i_bin (fun a b => a + b) 246))]
noncomputable def l_0_4 : List (Nat × ME) := [(246, .inl (i_ld [20, 30] 247)),
  (247, .inl (i_al 0 248)),
  (248, .inl (i_il 3 249)),
  (249, .inl (i_c 2 250)),
  (250, .inl (i_bin (fun a b => a + b) 251)),
  (251, .inl (i_ld [20, 30] 252)),
  (252, .inr (.inl (false, 3, [(7, 48)], 255))),
  (255, .inl (i_cmp 0 678 258)),
  (258, .inl (i_c 0 259)),
  (259, .inr (.inr 1)),
  (260, .inl (i_al 1 261)),
  (261, .inl (i_al 0 262)),
  (262, .inl (i_il 3 263)),
  (263, .inl (i_c 1 264)),
  (264, .inl (i_bin (fun a b => a + b) 265)),
  (265, .inl (i_ld [20, 30] 266)),
  (266, .inr (.inl (false, 2, [(1, 6)], 269))),
  (269, .inl (i_al 2 270)),
  (270, .inl (i_al 0 271)),
  (271, .inl (i_il 3 272)),
  (272, .inl (i_c 1 273)),
  (273, .inl (i_bin (fun a b => a + b) 274)),
  (274, .inl (i_ld [20, 30] 275)),
  (275, .inr (.inl (false, 2, [(7, 49)], 278))),
  (278, .inl (i_cmp 0 678 281)),
  (281, .inl (i_c 0 282)),
  (282, .inr (.inr 1)),
  (283, .inl (i_al 1 284)),
  (284, .inl (i_al 0 285)),
  (285, .inl (i_il 3 286))]
noncomputable def l_0_5 : List (Nat × ME) := [(286, .inl (i_c 1 287)),
  (287, .inl (i_bin (fun a b => a + b) 288)),
  (288, .inl (i_ld [20, 30] 289)),
  (289, .inl (i_al 0 290)),
  (290, .inl (i_il 3 291)),
  (291, .inl (i_c 2 292)),
  (292, .inl (i_bin (fun a b => a + b) 293)),
  (293, .inl (i_ld [20, 30] 294)),
  (294, .inl (i_al 0 295)),
  (295, .inl (i_il 3 296)),
  (296, .inl (i_c 3 297)),
  (297, .inl (i_bin (fun a b => a + b) 298)),
  (298, .inl (i_ld [20, 30] 299)),
  (299, .inr (.inl (false, 4, [(1, 7)], 302))),
  (302, .inl (i_al 2 303)),
  (303, .inl (i_al 0 304)),
  (304, .inl (i_il 3 305)),
  (305, .inl (i_c 1 306)),
  (306, .inl (i_bin (fun a b => a + b) 307)),
  (307, .inl (i_ld [20, 30] 308)),
  (308, .inl (i_al 0 309)),
  (309, .inl (i_il 3 310)),
  (310, .inl (i_c 2 311)),
  (311, .inl (i_bin (fun a b => a + b) 312)),
  (312, .inl (i_ld [20, 30] 313)),
  (313, .inl (i_al 0 314)),
  (314, .inl (i_il 3 315)),
  (315, .inl (i_c 3 316)),
  (316, .inl (i_bin (fun a b => a + b) 317)),
  (317, .inl (i_ld [20, 30] 318))]
noncomputable def l_0_6 : List (Nat × ME) := [(318, .inr (.inl (false, 4, [(7, 50)], 321))),
  (321, .inl (i_cmp 0 678 324)),
  (324, .inl (i_c 0 325)),
  (325, .inr (.inr 1)),
  (326, .inl (i_al 1 327)),
  (327, .inl (i_al 0 328)),
  (328, .inl (i_il 3 329)),
  (329, .inl (i_c 1 330)),
  (330, .inl (i_bin (fun a b => a + b) 331)),
  (331, .inl (i_ld [20, 30] 332)),
  (332, .inl (i_al 0 333)),
  (333, .inl (i_il 3 334)),
  (334, .inl (i_c 2 335)),
  (335, .inl (i_bin (fun a b => a + b) 336)),
  (336, .inl (i_ld [20, 30] 337)),
  (337, .inl (i_al 0 338)),
  (338, .inl (i_il 3 339)),
  (339, .inl (i_c 3 340)),
  (340, .inl (i_bin (fun a b => a + b) 341)),
  (341, .inl (i_ld [20, 30] 342)),
  (342, .inr (.inl (false, 4, [(1, 8)], 345))),
  (345, .inl (i_al 2 346)),
  (346, .inl (i_al 0 347)),
  (347, .inl (i_il 3 348)),
  (348, .inl (i_c 1 349)),
  (349, .inl (i_bin (fun a b => a + b) 350)),
  (350, .inl (i_ld [20, 30] 351)),
  (351, .inl (i_al 0 352)),
  (352, .inl (i_il 3 353)),
  (353, .inl (i_c 2 354))]
noncomputable def l_0_7 : List (Nat × ME) := [(354, .inl (i_bin (fun a b => a + b) 355)),
  (355, .inl (i_ld [20, 30] 356)),
  (356, .inl (i_al 0 357)),
  (357, .inl (i_il 3 358)),
  (358, .inl (i_c 3 359)),
  (359, .inl (i_bin (fun a b => a + b) 360)),
  (360, .inl (i_ld [20, 30] 361)),
  (361, .inr (.inl (false, 4, [(7, 51)], 364))),
  (364, .inl (i_cmp 0 678 367)),
  (367, .inl (i_c 0 368)),
  (368, .inr (.inr 1)),
  (369, .inl (i_al 1 370)),
  (370, .inl (i_al 0 371)),
  (371, .inl (i_il 3 372)),
  (372, .inl (i_c 1 373)),
  (373, .inl (i_bin (fun a b => a + b) 374)),
  (374, .inl (i_ld [20, 30] 375)),
  (375, .inl (i_al 0 376)),
  (376, .inl (i_il 3 377)),
  (377, .inl (i_c 2 378)),
  (378, .inl (i_bin (fun a b => a + b) 379)),
  (379, .inl (i_ld [20, 30] 380)),
  (380, .inl (i_al 0 381)),
  (381, .inl (i_il 3 382)),
  (382, .inl (i_c 3 383)),
  (383, .inl (i_bin (fun a b => a + b) 384)),
  (384, .inl (i_ld [20, 30] 385)),
  (385, .inr (.inl (false, 4, [(1, 9)], 388))),
  (388, .inl (i_al 2 389)),
  (389, .inl (i_al 0 390))]
noncomputable def l_0_8 : List (Nat × ME) := [(390, .inl (i_il 3 391)),
  (391, .inl (i_c 1 392)),
  (392, .inl (i_bin (fun a b => a + b) 393)),
  (393, .inl (i_ld [20, 30] 394)),
  (394, .inl (i_al 0 395)),
  (395, .inl (i_il 3 396)),
  (396, .inl (i_c 2 397)),
  (397, .inl (i_bin (fun a b => a + b) 398)),
  (398, .inl (i_ld [20, 30] 399)),
  (399, .inl (i_al 0 400)),
  (400, .inl (i_il 3 401)),
  (401, .inl (i_c 3 402)),
  (402, .inl (i_bin (fun a b => a + b) 403)),
  (403, .inl (i_ld [20, 30] 404)),
  (404, .inr (.inl (false, 4, [(7, 53)], 407))),
  (407, .inl (i_cmp 0 678 410)),
  (410, .inl (i_c 0 411)),
  (411, .inr (.inr 1)),
  (412, .inl (i_al 1 413)),
  (413, .inl (i_al 0 414)),
  (414, .inl (i_il 3 415)),
  (415, .inl (i_c 1 416)),
  (416, .inl (i_bin (fun a b => a + b) 417)),
  (417, .inl (i_ld [20, 30] 418)),
  (418, .inl (i_al 0 419)),
  (419, .inl (i_il 3 420)),
  (420, .inl (i_c 2 421)),
  (421, .inl (i_bin (fun a b => a + b) 422)),
  (422, .inl (i_ld [20, 30] 423)),
  (423, .inl (i_al 0 424))]
noncomputable def l_0_9 : List (Nat × ME) := [(424, .inl (i_il 3 425)),
  (425, .inl (i_c 3 426)),
  (426, .inl (i_bin (fun a b => a + b) 427)),
  (427, .inl (i_ld [20, 30] 428)),
  (428, .inr (.inl (false, 4, [(1, 10)], 431))),
  (431, .inl (i_al 2 432)),
  (432, .inl (i_al 0 433)),
  (433, .inl (i_il 3 434)),
  (434, .inl (i_c 1 435)),
  (435, .inl (i_bin (fun a b => a + b) 436)),
  (436, .inl (i_ld [20, 30] 437)),
  (437, .inl (i_al 0 438)),
  (438, .inl (i_il 3 439)),
  (439, .inl (i_c 2 440)),
  (440, .inl (i_bin (fun a b => a + b) 441)),
  (441, .inl (i_ld [20, 30] 442)),
  (442, .inl (i_al 0 443)),
  (443, .inl (i_il 3 444)),
  (444, .inl (i_c 3 445)),
  (445, .inl (i_bin (fun a b => a + b) 446)),
  (446, .inl (i_ld [20, 30] 447)),
  (447, .inr (.inl (false, 4, [(7, 54)], 450))),
  (450, .inl (i_cmp 0 678 453)),
  (453, .inl (i_c 0 454)),
  (454, .inr (.inr 1)),
  (455, .inl (i_al 1 456)),
  (456, .inl (i_al 0 457)),
  (457, .inl (i_il 3 458)),
  (458, .inl (i_c 1 459)),
  (459, .inl (i_bin (fun a b => a + b) 460))]
noncomputable def l_0_10 : List (Nat × ME) := [(460, .inl (i_ld [20, 30] 461)),
  (461, .inl (i_al 0 462)),
  (462, .inl (i_il 3 463)),
  (463, .inl (i_c 2 464)),
  (464, .inl (i_bin (fun a b => a + b) 465)),
  (465, .inl (i_ld [20, 30] 466)),
  (466, .inr (.inl (false, 3, [(1, 11)], 469))),
  (469, .inl (i_al 2 470)),
  (470, .inl (i_al 0 471)),
  (471, .inl (i_il 3 472)),
  (472, .inl (i_c 1 473)),
  (473, .inl (i_bin (fun a b => a + b) 474)),
  (474, .inl (i_ld [20, 30] 475)),
  (475, .inl (i_al 0 476)),
  (476, .inl (i_il 3 477)),
  (477, .inl (i_c 2 478)),
  (478, .inl (i_bin (fun a b => a + b) 479)),
  (479, .inl (i_ld [20, 30] 480)),
  (480, .inr (.inl (false, 3, [(7, 55)], 483))),
  (483, .inl (i_cmp 0 678 486)),
  (486, .inl (i_c 0 487)),
  (487, .inr (.inr 1)),
  (488, .inl (i_al 1 489)),
  (489, .inl (i_al 0 490)),
  (490, .inl (i_il 3 491)),
  (491, .inl (i_c 1 492)),
  (492, .inl (i_bin (fun a b => a + b) 493)),
  (493, .inl (i_ld [20, 30] 494)),
  (494, .inr (.inl (false, 2, [(1, 12)], 497))),
  (497, .inl (i_al 2 498))]
noncomputable def l_0_11 : List (Nat × ME) := [(498, .inl (i_al 0 499)),
  (499, .inl (i_il 3 500)),
  (500, .inl (i_c 1 501)),
  (501, .inl (i_bin (fun a b => a + b) 502)),
  (502, .inl (i_ld [20, 30] 503)),
  (503, .inr (.inl (false, 2, [(7, 56)], 506))),
  (506, .inl (i_cmp 0 678 509)),
  (509, .inl (i_c 0 510)),
  (510, .inr (.inr 1)),
  (511, .inl (i_al 1 512)),
  (512, .inr (.inl (false, 1, [(1, 13)], 515))),
  (515, .inl (i_al 2 516)),
  (516, .inr (.inl (false, 1, [(7, 66)], 519))),
  (519, .inl (i_cmp 0 678 522)),
  (522, .inl (i_c 0 523)),
  (523, .inr (.inr 1)),
  (524, .inl (i_al 1 525)),
  (525, .inl (i_al 0 526)),
  (526, .inl (i_il 3 527)),
  (527, .inl (i_c 1 528)),
  (528, .inl (i_bin (fun a b => a + b) 529)),
  (529, .inl (i_ld [20, 30] 530)),
  (530, .inr (.inl (false, 2, [(1, 14)], 533))),
  (533, .inl (i_al 2 534)),
  (534, .inl (i_al 0 535)),
  (535, .inl (i_il 3 536)),
  (536, .inl (i_c 1 537)),
  (537, .inl (i_bin (fun a b => a + b) 538)),
  (538, .inl (i_ld [20, 30] 539)),
  (539, .inr (.inl (false, 2, [(7, 67)], 542)))]
noncomputable def l_0_12 : List (Nat × ME) := [(542, .inl (i_cmp 0 678 545)),
  (545, .inl (i_c 0 546)),
  (546, .inr (.inr 1)),
  (547, .inl (i_al 1 548)),
  (548, .inl (i_al 0 549)),
  (549, .inl (i_il 3 550)),
  (550, .inl (i_c 1 551)),
  (551, .inl (i_bin (fun a b => a + b) 552)),
  (552, .inl (i_ld [20, 30] 553)),
  (553, .inr (.inl (false, 2, [(1, 15)], 556))),
  (556, .inl (i_al 2 557)),
  (557, .inl (i_al 0 558)),
  (558, .inl (i_il 3 559)),
  (559, .inl (i_c 1 560)),
  (560, .inl (i_bin (fun a b => a + b) 561)),
  (561, .inl (i_ld [20, 30] 562)),
  (562, .inr (.inl (false, 2, [(7, 68)], 565))),
  (565, .inl (i_cmp 0 678 568)),
  (568, .inl (i_c 0 569)),
  (569, .inr (.inr 1)),
  (570, .inl (i_al 1 571)),
  (571, .inl (i_al 0 572)),
  (572, .inl (i_il 3 573)),
  (573, .inl (i_c 1 574)),
  (574, .inl (i_bin (fun a b => a + b) 575)),
  (575, .inl (i_ld [20, 30] 576)),
  (576, .inr (.inl (false, 2, [(1, 16)], 579))),
  (579, .inl (i_al 2 580)),
  (580, .inl (i_al 0 581)),
  (581, .inl (i_il 3 582))]
noncomputable def l_0_13 : List (Nat × ME) := [(582, .inl (i_c 1 583)),
  (583, .inl (i_bin (fun a b => a + b) 584)),
  (584, .inl (i_ld [20, 30] 585)),
  (585, .inr (.inl (false, 2, [(7, 69)], 588))),
  (588, .inl (i_cmp 0 678 591)),
  (591, .inl (i_c 0 592)),
  (592, .inr (.inr 1)),
  (593, .inl (i_al 1 594)),
  (594, .inl (i_al 0 595)),
  (595, .inl (i_il 3 596)),
  (596, .inl (i_c 1 597)),
  (597, .inl (i_bin (fun a b => a + b) 598)),
  (598, .inl (i_ld [20, 30] 599)),
  (599, .inr (.inl (false, 2, [(1, 17)], 602))),
  (602, .inl (i_al 2 603)),
  (603, .inl (i_al 0 604)),
  (604, .inl (i_il 3 605)),
  (605, .inl (i_c 1 606)),
  (606, .inl (i_bin (fun a b => a + b) 607)),
  (607, .inl (i_ld [20, 30] 608)),
  (608, .inr (.inl (false, 2, [(7, 70)], 611))),
  (611, .inl (i_cmp 0 678 614)),
  (614, .inl (i_c 0 615)),
  (615, .inr (.inr 1)),
  (616, .inl (i_al 1 617)),
  (617, .inl (i_al 0 618)),
  (618, .inl (i_il 3 619)),
  (619, .inl (i_c 1 620)),
  (620, .inl (i_bin (fun a b => a + b) 621)),
  (621, .inl (i_ld [20, 30] 622))]
noncomputable def l_0_14 : List (Nat × ME) := [(622, .inr (.inl (false, 2, [(1, 18)], 625))),
  (625, .inl (i_al 2 626)),
  (626, .inl (i_al 0 627)),
  (627, .inl (i_il 3 628)),
  (628, .inl (i_c 1 629)),
  (629, .inl (i_bin (fun a b => a + b) 630)),
  (630, .inl (i_ld [20, 30] 631)),
  (631, .inr (.inl (false, 2, [(7, 71)], 634))),
  (634, .inl (i_cmp 0 678 637)),
  (637, .inl (i_c 0 638)),
  (638, .inr (.inr 1)),
  (639, .inl (i_al 1 640)),
  (640, .inr (.inl (false, 1, [(1, 19)], 643))),
  (643, .inl (i_al 2 644)),
  (644, .inr (.inl (false, 1, [(7, 72)], 647))),
  (647, .inl (i_cmp 0 678 650)),
  (650, .inl (i_c 0 651)),
  (651, .inr (.inr 1)),
  (652, .inl (i_al 1 653)),
  (653, .inr (.inl (false, 1, [(1, 20)], 656))),
  (656, .inl (i_al 2 657)),
  (657, .inr (.inl (false, 1, [(7, 73)], 660))),
  (660, .inl (i_cmp 0 678 663)),
  (663, .inl (i_c 0 664)),
  (664, .inr (.inr 1)),
  (665, .inl (i_al 1 666)),
  (666, .inr (.inl (false, 1, [(1, 21)], 669))),
  (669, .inl (i_al 2 670)),
  (670, .inr (.inl (false, 1, [(7, 74)], 673))),
  (673, .inl (i_cmp 0 678 676))]
noncomputable def l_0_15 : List (Nat × ME) := [(676, .inl (i_c 0 677)),
  (677, .inr (.inr 1)),
  (678, .inl (i_ii 3 4 681)),
  (681, .inl (i_go 18)),
  (684, .inl (i_c 1 685)),
  (685, .inr (.inr 1))]
noncomputable def l_0 : List (Nat × ME) := l_0_0 ++ (l_0_1 ++ (l_0_2 ++ (l_0_3 ++ (l_0_4 ++ (l_0_5 ++ (l_0_6 ++ (l_0_7 ++ (l_0_8 ++ (l_0_9 ++ (l_0_10 ++ (l_0_11 ++ (l_0_12 ++ (l_0_13 ++ (l_0_14 ++ (l_0_15)))))))))))))))
noncomputable def l_1 : List (Nat × ME) := [(0, .inl (i_al 0 1)),
  (1, .inl (i_obj 4)),
  (4, .inl (i_al 0 5)),
  (5, .inl (i_c 6 7)),
  (7, .inl (i_newa 23 (.inr none) 10)),
  (10, .inl (i_put [1] 0 2 13)),
  (13, .inl (i_al 0 14)),
  (14, .inl (i_new 6 2 df_R 17)),
  (17, .inl (i_dup 18)),
  (18, .inl (i_c 20 20)),
  (20, .inr (.inl (false, 2, [(6, 77)], 23))),
  (23, .inl (i_put [1] 1 2 26)),
  (26, .inl (i_al 0 27)),
  (27, .inl (i_new 6 2 df_R 30)),
  (30, .inl (i_dup 31)),
  (31, .inl (i_c 8 33)),
  (33, .inr (.inl (false, 2, [(6, 77)], 36))),
  (36, .inl (i_put [1] 2 2 39)),
  (39, .inl (i_al 0 40)),
  (40, .inl (i_new 6 2 df_R 43)),
  (43, .inl (i_dup 44)),
  (44, .inl (i_c 8 46)),
  (46, .inr (.inl (false, 2, [(6, 77)], 49))),
  (49, .inl (i_put [1] 3 2 52)),
  (52, .inr (.inr 3))]
noncomputable def l_2 : List (Nat × ME) := [(0, .inl (i_il 1 1)),
  (1, .inr (.inl (true, 1, [(0, 22)], 4))),
  (4, .inl (i_z 0 19 7)),
  (7, .inl (i_il 2 8)),
  (8, .inl (i_c (-1000000) 10)),
  (10, .inl (i_cmp 2 19 13)),
  (13, .inl (i_il 2 14)),
  (14, .inl (i_c (1000000) 16)),
  (16, .inl (i_cmp 5 21 19)),
  (19, .inl (i_c 0 20)),
  (20, .inr (.inr 1)),
  (21, .inl (i_al 0 22)),
  (22, .inl (i_get [1] 0 25)),
  (25, .inl (i_il 1 26)),
  (26, .inl (i_new 2 1 df_N 29)),
  (29, .inl (i_dup 30)),
  (30, .inl (i_il 2 31)),
  (31, .inr (.inl (false, 2, [(2, 75)], 34))),
  (34, .inl (i_ast [(22, [3, 4, 5]), (23, [2, 3, 4, 5])] 35)),
  (35, .inl (i_c 1 36)),
  (36, .inr (.inr 1))]
noncomputable def l_3 : List (Nat × ME) := [(0, .inl (i_il 1 1)),
  (1, .inr (.inl (true, 1, [(0, 22)], 4))),
  (4, .inl (i_z 0 19 7)),
  (7, .inl (i_il 2 8)),
  (8, .inl (i_c (-1) 9)),
  (9, .inl (i_cmp 0 21 12)),
  (12, .inl (i_il 2 13)),
  (13, .inr (.inl (true, 1, [(0, 22)], 16))),
  (16, .inl (i_z 1 21 19)),
  (19, .inl (i_c 0 20)),
  (20, .inr (.inr 1)),
  (21, .inl (i_al 0 22)),
  (22, .inl (i_get [1] 0 25)),
  (25, .inl (i_il 1 26)),
  (26, .inl (i_al 0 27)),
  (27, .inl (i_il 2 28)),
  (28, .inr (.inl (false, 2, [(1, 23)], 31))),
  (31, .inl (i_ast [(22, [3, 4, 5]), (23, [2, 3, 4, 5])] 32)),
  (32, .inl (i_c 1 33)),
  (33, .inr (.inr 1))]
noncomputable def l_4_0 : List (Nat × ME) := [(0, .inl (i_il 1 1)),
  (1, .inr (.inl (true, 1, [(0, 22)], 4))),
  (4, .inl (i_z 0 17 7)),
  (7, .inl (i_il 2 8)),
  (8, .inl (i_c 1 9)),
  (9, .inl (i_cmp 2 17 12)),
  (12, .inl (i_il 2 13)),
  (13, .inl (i_c 4 14)),
  (14, .inl (i_cmp 5 19 17)),
  (17, .inl (i_c (-1) 18)),
  (18, .inr (.inr 0)),
  (19, .inl (i_al 0 20)),
  (20, .inl (i_c 2 21)),
  (21, .inl (i_il 2 22)),
  (22, .inl (i_bin (fun a b => a + b) 23)),
  (23, .inr (.inl (false, 2, [(1, 25)], 26))),
  (26, .inl (i_z 1 32 29)),
  (29, .inl (i_c (-2) 31)),
  (31, .inr (.inr 0)),
  (32, .inl (i_al 0 33)),
  (33, .inl (i_il 1 34)),
  (34, .inl (i_new 3 7 df_V 37)),
  (37, .inl (i_dup 38)),
  (38, .inl (i_al 0 39)),
  (39, .inl (i_get [1] 5 42)),
  (42, .inl (i_c 1 43)),
  (43, .inl (i_bin (fun a b => a + b) 44)),
  (44, .inl (i_il 2 45)),
  (45, .inr (.inl (false, 3, [(3, 94)], 48))),
  (48, .inr (.inl (false, 3, [(1, 26)], 51)))]
noncomputable def l_4_1 : List (Nat × ME) := [(51, .inr (.inr 0))]
noncomputable def l_4 : List (Nat × ME) := l_4_0 ++ (l_4_1)
noncomputable def l_5 : List (Nat × ME) := [(0, .inl (i_al 0 1)),
  (1, .inl (i_il 2 2)),
  (2, .inr (.inl (false, 2, [(1, 24)], 5))),
  (5, .inl (i_as 3 6)),
  (6, .inl (i_il 1 7)),
  (7, .inr (.inl (true, 1, [(0, 22)], 10))),
  (10, .inl (i_z 0 17 13)),
  (13, .inl (i_al 3 14)),
  (14, .inl (i_nul 17 19)),
  (17, .inl (i_c (-1) 18)),
  (18, .inr (.inr 0)),
  (19, .inl (i_al 0 20)),
  (20, .inl (i_c 3 21)),
  (21, .inr (.inl (false, 2, [(1, 25)], 24))),
  (24, .inl (i_z 1 30 27)),
  (27, .inl (i_c (-2) 29)),
  (29, .inr (.inr 0)),
  (30, .inl (i_al 0 31)),
  (31, .inl (i_il 1 32)),
  (32, .inl (i_new 4 7 df_K 35)),
  (35, .inl (i_dup 36)),
  (36, .inl (i_al 0 37)),
  (37, .inl (i_get [1] 5 40)),
  (40, .inl (i_c 1 41)),
  (41, .inl (i_bin (fun a b => a + b) 42)),
  (42, .inl (i_al 3 43)),
  (43, .inr (.inl (false, 3, [(4, 100)], 46))),
  (46, .inr (.inl (false, 3, [(1, 26)], 49))),
  (49, .inr (.inr 0))]
noncomputable def l_6 : List (Nat × ME) := [(0, .inl (i_il 1 1)),
  (1, .inr (.inl (true, 1, [(0, 22)], 4))),
  (4, .inl (i_z 1 9 7)),
  (7, .inl (i_c (-1) 8)),
  (8, .inr (.inr 0)),
  (9, .inl (i_al 0 10)),
  (10, .inl (i_c 8 12)),
  (12, .inr (.inl (false, 2, [(1, 25)], 15))),
  (15, .inl (i_z 1 21 18)),
  (18, .inl (i_c (-2) 20)),
  (20, .inr (.inr 0)),
  (21, .inl (i_al 0 22)),
  (22, .inl (i_il 1 23)),
  (23, .inl (i_new 5 9 df_T 26)),
  (26, .inl (i_dup 27)),
  (27, .inl (i_al 0 28)),
  (28, .inl (i_get [1] 5 31)),
  (31, .inl (i_c 1 32)),
  (32, .inl (i_bin (fun a b => a + b) 33)),
  (33, .inr (.inl (false, 2, [(5, 84)], 36))),
  (36, .inr (.inl (false, 3, [(1, 26)], 39))),
  (39, .inr (.inr 0))]
noncomputable def l_7 : List (Nat × ME) := [(0, .inl (i_il 3 1)),
  (1, .inr (.inl (true, 1, [(0, 22)], 4))),
  (4, .inl (i_z 1 9 7)),
  (7, .inl (i_c 0 8)),
  (8, .inr (.inr 1)),
  (9, .inl (i_al 0 10)),
  (10, .inl (i_il 1 11)),
  (11, .inr (.inl (false, 2, [(1, 23)], 14))),
  (14, .inl (i_as 5 16)),
  (16, .inl (i_al 5 18)),
  (18, .inl (i_ins [3] [2, 4, 5] 21)),
  (21, .inl (i_z 0 54 24)),
  (24, .inl (i_al 5 26)),
  (26, .inl (i_cst [3] 29)),
  (29, .inl (i_as 4 31)),
  (31, .inl (i_al 4 33)),
  (33, .inl (i_il 2 34)),
  (34, .inr (.inl (false, 2, [(3, 95)], 37))),
  (37, .inl (i_z 0 54 40)),
  (40, .inl (i_al 4 42)),
  (42, .inl (i_get [3] 6 45)),
  (45, .inl (i_il 2 46)),
  (46, .inl (i_al 0 47)),
  (47, .inl (i_il 3 48)),
  (48, .inr (.inl (false, 2, [(1, 23)], 51))),
  (51, .inl (i_ast [(22, [3, 4, 5]), (23, [2, 3, 4, 5])] 52)),
  (52, .inl (i_c 1 53)),
  (53, .inr (.inr 1)),
  (54, .inl (i_c 0 55)),
  (55, .inr (.inr 1))]
noncomputable def l_8_0 : List (Nat × ME) := [(0, .inl (i_il 1 1)),
  (1, .inr (.inl (true, 1, [(0, 22)], 4))),
  (4, .inl (i_z 1 9 7)),
  (7, .inl (i_c 0 8)),
  (8, .inr (.inr 1)),
  (9, .inl (i_al 0 10)),
  (10, .inl (i_il 2 11)),
  (11, .inr (.inl (false, 2, [(1, 23)], 14))),
  (14, .inl (i_as 4 16)),
  (16, .inl (i_al 4 18)),
  (18, .inl (i_ins [3] [2, 4, 5] 21)),
  (21, .inl (i_z 0 55 24)),
  (24, .inl (i_al 4 26)),
  (26, .inl (i_cst [3] 29)),
  (29, .inl (i_as 5 31)),
  (31, .inl (i_al 5 33)),
  (33, .inl (i_il 3 34)),
  (34, .inr (.inl (false, 2, [(3, 95)], 37))),
  (37, .inl (i_z 0 55 40)),
  (40, .inl (i_al 0 41)),
  (41, .inl (i_get [1] 0 44)),
  (44, .inl (i_il 1 45)),
  (45, .inl (i_al 5 47)),
  (47, .inl (i_get [3] 6 50)),
  (50, .inl (i_il 3 51)),
  (51, .inl (i_ld [22, 23] 52)),
  (52, .inl (i_ast [(22, [3, 4, 5]), (23, [2, 3, 4, 5])] 53)),
  (53, .inl (i_c 1 54)),
  (54, .inr (.inr 1)),
  (55, .inl (i_al 4 57))]
noncomputable def l_8_1 : List (Nat × ME) := [(57, .inl (i_ins [4] [2, 3, 5] 60)),
  (60, .inl (i_z 0 87 63)),
  (63, .inl (i_al 4 65)),
  (65, .inl (i_cst [4] 68)),
  (68, .inl (i_as 5 70)),
  (70, .inl (i_il 3 71)),
  (71, .inl (i_z 1 87 74)),
  (74, .inl (i_al 0 75)),
  (75, .inl (i_get [1] 0 78)),
  (78, .inl (i_il 1 79)),
  (79, .inl (i_al 5 81)),
  (81, .inl (i_get [4] 6 84)),
  (84, .inl (i_ast [(22, [3, 4, 5]), (23, [2, 3, 4, 5])] 85)),
  (85, .inl (i_c 1 86)),
  (86, .inr (.inr 1)),
  (87, .inl (i_c 0 88)),
  (88, .inr (.inr 1))]
noncomputable def l_8 : List (Nat × ME) := l_8_0 ++ (l_8_1)
noncomputable def l_9_0 : List (Nat × ME) := [(0, .inl (i_al 0 1)),
  (1, .inl (i_il 2 2)),
  (2, .inr (.inl (false, 2, [(1, 24)], 5))),
  (5, .inl (i_as 4 7)),
  (7, .inl (i_il 3 8)),
  (8, .inr (.inl (true, 1, [(0, 22)], 11))),
  (11, .inl (i_z 0 19 14)),
  (14, .inl (i_al 4 16)),
  (16, .inl (i_nul 19 21)),
  (19, .inl (i_c 0 20)),
  (20, .inr (.inr 1)),
  (21, .inl (i_al 0 22)),
  (22, .inl (i_il 1 23)),
  (23, .inr (.inl (false, 2, [(1, 23)], 26))),
  (26, .inl (i_as 6 28)),
  (28, .inl (i_al 6 30)),
  (30, .inl (i_ins [5] [2, 3, 4] 33)),
  (33, .inl (i_z 0 62 36)),
  (36, .inl (i_al 6 38)),
  (38, .inl (i_cst [5] 41)),
  (41, .inl (i_as 5 43)),
  (43, .inl (i_al 5 45)),
  (45, .inl (i_al 4 47)),
  (47, .inl (i_al 0 48)),
  (48, .inl (i_il 3 49)),
  (49, .inr (.inl (false, 2, [(1, 23)], 52))),
  (52, .inr (.inl (false, 3, [(5, 85)], 55))),
  (55, .inl (i_z 0 62 58)),
  (58, .inl (i_c 1 59)),
  (59, .inl (i_go 63))]
noncomputable def l_9_1 : List (Nat × ME) := [(62, .inl (i_c 0 63)),
  (63, .inr (.inr 1))]
noncomputable def l_9 : List (Nat × ME) := l_9_0 ++ (l_9_1)
noncomputable def l_10_0 : List (Nat × ME) := [(0, .inl (i_al 0 1)),
  (1, .inl (i_il 3 2)),
  (2, .inr (.inl (false, 2, [(1, 24)], 5))),
  (5, .inl (i_as 4 7)),
  (7, .inl (i_il 1 8)),
  (8, .inr (.inl (true, 1, [(0, 22)], 11))),
  (11, .inl (i_z 0 19 14)),
  (14, .inl (i_al 4 16)),
  (16, .inl (i_nul 19 21)),
  (19, .inl (i_c 0 20)),
  (20, .inr (.inr 1)),
  (21, .inl (i_al 0 22)),
  (22, .inl (i_il 2 23)),
  (23, .inr (.inl (false, 2, [(1, 23)], 26))),
  (26, .inl (i_as 6 28)),
  (28, .inl (i_al 6 30)),
  (30, .inl (i_ins [5] [2, 3, 4] 33)),
  (33, .inl (i_z 0 58 36)),
  (36, .inl (i_al 6 38)),
  (38, .inl (i_cst [5] 41)),
  (41, .inl (i_as 5 43)),
  (43, .inl (i_al 0 44)),
  (44, .inl (i_get [1] 0 47)),
  (47, .inl (i_il 1 48)),
  (48, .inl (i_al 5 50)),
  (50, .inl (i_al 4 52)),
  (52, .inr (.inl (false, 2, [(5, 86)], 55))),
  (55, .inl (i_ast [(22, [3, 4, 5]), (23, [2, 3, 4, 5])] 56)),
  (56, .inl (i_c 1 57)),
  (57, .inr (.inr 1))]
noncomputable def l_10_1 : List (Nat × ME) := [(58, .inl (i_c 0 59)),
  (59, .inr (.inr 1))]
noncomputable def l_10 : List (Nat × ME) := l_10_0 ++ (l_10_1)
noncomputable def l_11_0 : List (Nat × ME) := [(0, .inl (i_al 0 1)),
  (1, .inl (i_il 1 2)),
  (2, .inr (.inl (false, 2, [(1, 24)], 5))),
  (5, .inl (i_as 3 6)),
  (6, .inl (i_al 3 7)),
  (7, .inl (i_nul 20 10)),
  (10, .inl (i_il 2 11)),
  (11, .inl (i_z 2 20 14)),
  (14, .inl (i_il 2 15)),
  (15, .inl (i_c 99 17)),
  (17, .inl (i_cmp 5 22 20)),
  (20, .inl (i_c 0 21)),
  (21, .inr (.inr 1)),
  (22, .inl (i_al 3 23)),
  (23, .inl (i_get [3, 4, 5] 4 26)),
  (26, .inl (i_z 1 49 29)),
  (29, .inl (i_al 0 30)),
  (30, .inl (i_get [1] 2 33)),
  (33, .inr (.inl (false, 1, [(6, 78)], 36))),
  (36, .inl (i_al 0 37)),
  (37, .inl (i_get [1] 3 40)),
  (40, .inr (.inl (false, 1, [(6, 78)], 43))),
  (43, .inl (i_bin (fun a b => a + b) 44)),
  (44, .inl (i_c 8 46)),
  (46, .inl (i_cmp 2 51 49)),
  (49, .inl (i_c 0 50)),
  (50, .inr (.inr 1)),
  (51, .inl (i_al 3 52)),
  (52, .inl (i_c 1 53)),
  (53, .inl (i_put [3, 4, 5] 4 1 56))]
noncomputable def l_11_1 : List (Nat × ME) := [(56, .inl (i_al 3 57)),
  (57, .inl (i_il 2 58)),
  (58, .inl (i_put [3, 4, 5] 5 0 61)),
  (61, .inl (i_al 0 62)),
  (62, .inl (i_get [1] 2 65)),
  (65, .inl (i_al 3 66)),
  (66, .inr (.inl (false, 2, [(6, 80)], 69))),
  (69, .inl (i_c 1 70)),
  (70, .inr (.inr 1))]
noncomputable def l_11 : List (Nat × ME) := l_11_0 ++ (l_11_1)
noncomputable def l_12 : List (Nat × ME) := [(0, .inl (i_il 1 1)),
  (1, .inr (.inl (true, 1, [(0, 22)], 4))),
  (4, .inl (i_z 1 9 7)),
  (7, .inl (i_c (-1) 8)),
  (8, .inr (.inr 0)),
  (9, .inl (i_al 0 10)),
  (10, .inl (i_get [1] 3 13)),
  (13, .inr (.inl (false, 1, [(6, 81)], 16))),
  (16, .inl (i_as 2 17)),
  (17, .inl (i_al 2 18)),
  (18, .inl (i_nul 21 23)),
  (21, .inl (i_c (-1) 22)),
  (22, .inr (.inr 0)),
  (23, .inl (i_al 2 24)),
  (24, .inl (i_c 0 25)),
  (25, .inl (i_put [3, 4, 5] 4 1 28)),
  (28, .inl (i_al 0 29)),
  (29, .inl (i_get [1] 0 32)),
  (32, .inl (i_il 1 33)),
  (33, .inl (i_al 2 34)),
  (34, .inl (i_ast [(22, [3, 4, 5]), (23, [2, 3, 4, 5])] 35)),
  (35, .inl (i_al 2 36)),
  (36, .inl (i_get [3, 4, 5] 5 39)),
  (39, .inr (.inr 0))]
noncomputable def l_13 : List (Nat × ME) := [(0, .inl (i_al 0 1)),
  (1, .inr (.inl (false, 1, [(1, 27)], 4))),
  (4, .inr (.inr 0))]
noncomputable def l_14 : List (Nat × ME) := [(0, .inl (i_il 1 1)),
  (1, .inr (.inl (true, 1, [(0, 22)], 4))),
  (4, .inl (i_z 1 9 7)),
  (7, .inl (i_c (-1) 8)),
  (8, .inr (.inr 0)),
  (9, .inl (i_al 0 10)),
  (10, .inl (i_il 1 11)),
  (11, .inr (.inl (false, 2, [(1, 23)], 14))),
  (14, .inl (i_as 2 15)),
  (15, .inl (i_al 2 16)),
  (16, .inl (i_nul 19 23)),
  (19, .inl (i_c 0 20)),
  (20, .inl (i_go 27)),
  (23, .inl (i_al 2 24)),
  (24, .inr (.inl (false, 1, [(2, 76), (3, 96), (4, 101), (5, 88)], 27))),
  (27, .inr (.inr 0))]
noncomputable def l_15 : List (Nat × ME) := [(0, .inl (i_al 0 1)),
  (1, .inl (i_il 1 2)),
  (2, .inr (.inl (false, 2, [(1, 23)], 5))),
  (5, .inl (i_as 3 6)),
  (6, .inl (i_al 3 7)),
  (7, .inl (i_ins [2] [3, 4, 5] 10)),
  (10, .inl (i_z 0 25 13)),
  (13, .inl (i_al 3 14)),
  (14, .inl (i_cst [2] 17)),
  (17, .inl (i_as 2 18)),
  (18, .inl (i_al 2 19)),
  (19, .inl (i_get [2] 0 22)),
  (22, .inl (i_go 26)),
  (25, .inl (i_c 0 26)),
  (26, .inr (.inr 0))]
noncomputable def l_16 : List (Nat × ME) := [(0, .inl (i_al 0 1)),
  (1, .inl (i_il 1 2)),
  (2, .inr (.inl (false, 2, [(1, 24)], 5))),
  (5, .inl (i_as 2 6)),
  (6, .inl (i_al 2 7)),
  (7, .inl (i_nul 10 14)),
  (10, .inl (i_c 0 11)),
  (11, .inl (i_go 18)),
  (14, .inl (i_al 2 15)),
  (15, .inl (i_get [3, 4, 5] 0 18)),
  (18, .inr (.inr 0))]
noncomputable def l_17 : List (Nat × ME) := [(0, .inl (i_al 0 1)),
  (1, .inl (i_il 1 2)),
  (2, .inr (.inl (false, 2, [(1, 24)], 5))),
  (5, .inl (i_as 2 6)),
  (6, .inl (i_al 2 7)),
  (7, .inl (i_nul 10 14)),
  (10, .inl (i_c (-1) 11)),
  (11, .inl (i_go 18)),
  (14, .inl (i_al 2 15)),
  (15, .inl (i_get [3, 4, 5] 2 18)),
  (18, .inr (.inr 0))]
noncomputable def l_18 : List (Nat × ME) := [(0, .inl (i_al 0 1)),
  (1, .inl (i_il 1 2)),
  (2, .inr (.inl (false, 2, [(1, 24)], 5))),
  (5, .inl (i_as 2 6)),
  (6, .inl (i_al 2 7)),
  (7, .inl (i_nul 10 14)),
  (10, .inl (i_c (-1) 11)),
  (11, .inl (i_go 18)),
  (14, .inl (i_al 2 15)),
  (15, .inr (.inl (false, 1, [(3, 97), (4, 102), (5, 89)], 18))),
  (18, .inr (.inr 0))]
noncomputable def l_19 : List (Nat × ME) := [(0, .inl (i_al 0 1)),
  (1, .inl (i_get [1] 4 4)),
  (4, .inr (.inr 0))]
noncomputable def l_20 : List (Nat × ME) := [(0, .inl (i_al 0 1)),
  (1, .inl (i_get [1] 3 4)),
  (4, .inr (.inl (false, 1, [(6, 78)], 7))),
  (7, .inr (.inr 0))]
noncomputable def l_21 : List (Nat × ME) := [(0, .inl (i_al 0 1)),
  (1, .inl (i_get [1] 6 4)),
  (4, .inr (.inr 0))]
noncomputable def l_22 : List (Nat × ME) := [(0, .inl (i_il 0 1)),
  (1, .inl (i_z 2 14 4)),
  (4, .inl (i_il 0 5)),
  (5, .inl (i_c 6 7)),
  (7, .inl (i_cmp 3 14 10)),
  (10, .inl (i_c 1 11)),
  (11, .inl (i_go 15)),
  (14, .inl (i_c 0 15)),
  (15, .inr (.inr 1))]
noncomputable def l_23 : List (Nat × ME) := [(0, .inl (i_il 1 1)),
  (1, .inr (.inl (true, 1, [(0, 22)], 4))),
  (4, .inl (i_z 0 16 7)),
  (7, .inl (i_al 0 8)),
  (8, .inl (i_get [1] 0 11)),
  (11, .inl (i_il 1 12)),
  (12, .inl (i_ld [22, 23] 13)),
  (13, .inl (i_go 17)),
  (16, .inl (i_n 17)),
  (17, .inr (.inr 2))]
noncomputable def l_24 : List (Nat × ME) := [(0, .inl (i_al 0 1)),
  (1, .inl (i_il 1 2)),
  (2, .inr (.inl (false, 2, [(1, 23)], 5))),
  (5, .inl (i_as 3 6)),
  (6, .inl (i_al 3 7)),
  (7, .inl (i_ins [3, 4, 5] [2] 10)),
  (10, .inl (i_z 0 22 13)),
  (13, .inl (i_al 3 14)),
  (14, .inl (i_cst [3, 4, 5] 17)),
  (17, .inl (i_as 2 18)),
  (18, .inl (i_al 2 19)),
  (19, .inl (i_go 23)),
  (22, .inl (i_n 23)),
  (23, .inr (.inr 2))]
noncomputable def l_25 : List (Nat × ME) := [(0, .inl (i_c 60 2)),
  (2, .inl (i_al 0 3)),
  (3, .inl (i_get [1] 4 6)),
  (6, .inl (i_bin (fun a b => a - b) 7)),
  (7, .inl (i_il 1 8)),
  (8, .inl (i_cmp 3 16 11)),
  (11, .inl (i_al 0 12)),
  (12, .inr (.inl (false, 1, [(1, 27)], 15))),
  (15, .inl (i_pop 16)),
  (16, .inl (i_c 60 18)),
  (18, .inl (i_al 0 19)),
  (19, .inl (i_get [1] 4 22)),
  (22, .inl (i_bin (fun a b => a - b) 23)),
  (23, .inl (i_il 1 24)),
  (24, .inl (i_cmp 2 31 27)),
  (27, .inl (i_c 1 28)),
  (28, .inl (i_go 32)),
  (31, .inl (i_c 0 32)),
  (32, .inr (.inr 1))]
noncomputable def l_26 : List (Nat × ME) := [(0, .inl (i_al 0 1)),
  (1, .inl (i_dup 2)),
  (2, .inl (i_get [1] 5 5)),
  (5, .inl (i_c 1 6)),
  (6, .inl (i_bin (fun a b => a + b) 7)),
  (7, .inl (i_put [1] 5 0 10)),
  (10, .inl (i_al 0 11)),
  (11, .inl (i_get [1] 1 14)),
  (14, .inl (i_al 2 15)),
  (15, .inr (.inl (false, 2, [(6, 80)], 18))),
  (18, .inl (i_al 2 19)),
  (19, .inl (i_al 0 20)),
  (20, .inl (i_get [1] 4 23)),
  (23, .inl (i_put [3, 4, 5] 2 0 26)),
  (26, .inl (i_al 0 27)),
  (27, .inl (i_dup 28)),
  (28, .inl (i_get [1] 4 31)),
  (31, .inl (i_al 2 32)),
  (32, .inl (i_get [3, 4, 5] 1 35)),
  (35, .inl (i_bin (fun a b => a + b) 36)),
  (36, .inl (i_put [1] 4 0 39)),
  (39, .inl (i_al 0 40)),
  (40, .inl (i_get [1] 0 43)),
  (43, .inl (i_il 1 44)),
  (44, .inl (i_al 2 45)),
  (45, .inl (i_ast [(22, [3, 4, 5]), (23, [2, 3, 4, 5])] 46)),
  (46, .inl (i_al 2 47)),
  (47, .inl (i_get [3, 4, 5] 0 50)),
  (50, .inr (.inr 0))]
noncomputable def l_27 : List (Nat × ME) := [(0, .inl (i_al 0 1)),
  (1, .inl (i_dup 2)),
  (2, .inl (i_get [1] 6 5)),
  (5, .inl (i_c 1 6)),
  (6, .inl (i_bin (fun a b => a + b) 7)),
  (7, .inl (i_put [1] 6 0 10)),
  (10, .inl (i_al 0 11)),
  (11, .inr (.inl (false, 1, [(1, 28)], 14))),
  (14, .inl (i_al 0 15)),
  (15, .inr (.inl (false, 1, [(1, 29)], 18))),
  (18, .inl (i_al 0 19)),
  (19, .inl (i_get [1] 3 22)),
  (22, .inr (.inl (false, 1, [(6, 82)], 25))),
  (25, .inl (i_al 0 26)),
  (26, .inr (.inl (false, 1, [(1, 30)], 29))),
  (29, .inl (i_al 0 30)),
  (30, .inr (.inl (false, 1, [(1, 32)], 33))),
  (33, .inl (i_al 0 34)),
  (34, .inr (.inl (false, 1, [(1, 33)], 37))),
  (37, .inl (i_al 0 38)),
  (38, .inr (.inl (false, 1, [(1, 30)], 41))),
  (41, .inl (i_al 0 42)),
  (42, .inl (i_get [1] 1 45)),
  (45, .inr (.inl (false, 1, [(6, 83)], 48))),
  (48, .inl (i_is 1 49)),
  (49, .inl (i_al 0 50)),
  (50, .inr (.inl (false, 1, [(1, 34)], 53))),
  (53, .inl (i_il 1 54)),
  (54, .inr (.inr 0))]
noncomputable def l_28 : List (Nat × ME) := [(0, .inl (i_c 0 1)),
  (1, .inl (i_is 1 2)),
  (2, .inl (i_il 1 3)),
  (3, .inl (i_al 0 4)),
  (4, .inl (i_get [1] 1 7)),
  (7, .inr (.inl (false, 1, [(6, 78)], 10))),
  (10, .inl (i_cmp 3 37 13)),
  (13, .inl (i_al 0 14)),
  (14, .inl (i_get [1] 1 17)),
  (17, .inl (i_il 1 18)),
  (18, .inr (.inl (false, 2, [(6, 79)], 21))),
  (21, .inl (i_as 2 22)),
  (22, .inl (i_al 2 23)),
  (23, .inl (i_nul 31 26)),
  (26, .inl (i_al 2 27)),
  (27, .inl (i_c 0 28)),
  (28, .inl (i_put [3, 4, 5] 3 1 31)),
  (31, .inl (i_ii 1 1 34)),
  (34, .inl (i_go 2)),
  (37, .inr (.inr 3))]
noncomputable def l_29 : List (Nat × ME) := [(0, .inl (i_c 0 1)),
  (1, .inl (i_is 1 2)),
  (2, .inl (i_il 1 3)),
  (3, .inl (i_c 6 5)),
  (5, .inl (i_cmp 3 24 8)),
  (8, .inl (i_al 0 9)),
  (9, .inl (i_get [1] 0 12)),
  (12, .inl (i_il 1 13)),
  (13, .inl (i_ld [22, 23] 14)),
  (14, .inr (.inl (true, 1, [(0, 35)], 17))),
  (17, .inl (i_pop 18)),
  (18, .inl (i_ii 1 1 21)),
  (21, .inl (i_go 2)),
  (24, .inr (.inr 3))]
noncomputable def l_30 : List (Nat × ME) := [(0, .inl (i_c 1 1)),
  (1, .inl (i_is 1 2)),
  (2, .inl (i_c 0 3)),
  (3, .inl (i_is 2 4)),
  (4, .inl (i_il 1 5)),
  (5, .inl (i_z 0 25 8)),
  (8, .inl (i_il 2 9)),
  (9, .inl (i_c 20 11)),
  (11, .inl (i_cmp 4 25 14)),
  (14, .inl (i_al 0 15)),
  (15, .inr (.inl (false, 1, [(1, 31)], 18))),
  (18, .inl (i_is 1 19)),
  (19, .inl (i_ii 2 1 22)),
  (22, .inl (i_go 4)),
  (25, .inr (.inr 3))]
noncomputable def l_31 : List (Nat × ME) := [(0, .inl (i_c 0 1)),
  (1, .inl (i_is 1 2)),
  (2, .inl (i_c 0 3)),
  (3, .inl (i_is 2 4)),
  (4, .inl (i_il 2 5)),
  (5, .inl (i_al 0 6)),
  (6, .inl (i_get [1] 1 9)),
  (9, .inr (.inl (false, 1, [(6, 78)], 12))),
  (12, .inl (i_cmp 3 50 15)),
  (15, .inl (i_al 0 16)),
  (16, .inl (i_get [1] 1 19)),
  (19, .inl (i_il 2 20)),
  (20, .inr (.inl (false, 2, [(6, 79)], 23))),
  (23, .inl (i_as 3 24)),
  (24, .inl (i_al 3 25)),
  (25, .inl (i_nul 44 28)),
  (28, .inl (i_al 3 29)),
  (29, .inl (i_get [3, 4, 5] 3 32)),
  (32, .inl (i_z 0 44 35)),
  (35, .inl (i_al 3 36)),
  (36, .inr (.inl (false, 1, [(3, 98), (4, 103), (5, 90)], 39))),
  (39, .inl (i_z 0 44 42)),
  (42, .inl (i_c 1 43)),
  (43, .inl (i_is 1 44)),
  (44, .inl (i_ii 2 1 47)),
  (47, .inl (i_go 4)),
  (50, .inl (i_il 1 51)),
  (51, .inr (.inr 1))]
noncomputable def l_32 : List (Nat × ME) := [(0, .inl (i_c 0 1)),
  (1, .inl (i_is 1 2)),
  (2, .inl (i_il 1 3)),
  (3, .inl (i_al 0 4)),
  (4, .inl (i_get [1] 1 7)),
  (7, .inr (.inl (false, 1, [(6, 78)], 10))),
  (10, .inl (i_cmp 3 36 13)),
  (13, .inl (i_al 0 14)),
  (14, .inl (i_get [1] 1 17)),
  (17, .inl (i_il 1 18)),
  (18, .inr (.inl (false, 2, [(6, 79)], 21))),
  (21, .inl (i_as 2 22)),
  (22, .inl (i_al 2 23)),
  (23, .inl (i_nul 30 26)),
  (26, .inl (i_al 2 27)),
  (27, .inr (.inl (false, 1, [(3, 99), (4, 104), (5, 91)], 30))),
  (30, .inl (i_ii 1 1 33)),
  (33, .inl (i_go 2)),
  (36, .inr (.inr 3))]
noncomputable def l_33_0 : List (Nat × ME) := [(0, .inl (i_c 0 1)),
  (1, .inl (i_is 1 2)),
  (2, .inl (i_il 1 3)),
  (3, .inl (i_al 0 4)),
  (4, .inl (i_get [1] 2 7)),
  (7, .inr (.inl (false, 1, [(6, 78)], 10))),
  (10, .inl (i_cmp 3 47 13)),
  (13, .inl (i_al 0 14)),
  (14, .inl (i_get [1] 2 17)),
  (17, .inl (i_il 1 18)),
  (18, .inr (.inl (false, 2, [(6, 79)], 21))),
  (21, .inl (i_as 2 22)),
  (22, .inl (i_al 2 23)),
  (23, .inl (i_nul 41 26)),
  (26, .inl (i_al 2 27)),
  (27, .inl (i_get [3, 4, 5] 3 30)),
  (30, .inl (i_z 1 41 33)),
  (33, .inl (i_al 0 34)),
  (34, .inl (i_get [1] 3 37)),
  (37, .inl (i_al 2 38)),
  (38, .inr (.inl (false, 2, [(6, 80)], 41))),
  (41, .inl (i_ii 1 1 44)),
  (44, .inl (i_go 2)),
  (47, .inl (i_al 0 48)),
  (48, .inl (i_get [1] 2 51)),
  (51, .inr (.inl (false, 1, [(6, 83)], 54))),
  (54, .inl (i_pop 55)),
  (55, .inl (i_al 0 56)),
  (56, .inl (i_get [1] 3 59)),
  (59, .inr (.inl (false, 1, [(6, 82)], 62)))]
noncomputable def l_33_1 : List (Nat × ME) := [(62, .inr (.inr 3))]
noncomputable def l_33 : List (Nat × ME) := l_33_0 ++ (l_33_1)
noncomputable def l_34_0 : List (Nat × ME) := [(0, .inl (i_al 0 1)),
  (1, .inl (i_c 0 2)),
  (2, .inl (i_put [1] 4 0 5)),
  (5, .inl (i_c 0 6)),
  (6, .inl (i_is 1 7)),
  (7, .inl (i_il 1 8)),
  (8, .inl (i_al 0 9)),
  (9, .inl (i_get [1] 1 12)),
  (12, .inr (.inl (false, 1, [(6, 78)], 15))),
  (15, .inl (i_cmp 3 58 18)),
  (18, .inl (i_al 0 19)),
  (19, .inl (i_get [1] 1 22)),
  (22, .inl (i_il 1 23)),
  (23, .inr (.inl (false, 2, [(6, 79)], 26))),
  (26, .inl (i_as 2 27)),
  (27, .inl (i_al 2 28)),
  (28, .inl (i_nul 52 31)),
  (31, .inl (i_al 2 32)),
  (32, .inl (i_al 0 33)),
  (33, .inl (i_get [1] 4 36)),
  (36, .inl (i_put [3, 4, 5] 2 0 39)),
  (39, .inl (i_al 0 40)),
  (40, .inl (i_dup 41)),
  (41, .inl (i_get [1] 4 44)),
  (44, .inl (i_al 2 45)),
  (45, .inl (i_get [3, 4, 5] 1 48)),
  (48, .inl (i_bin (fun a b => a + b) 49)),
  (49, .inl (i_put [1] 4 0 52)),
  (52, .inl (i_ii 1 1 55)),
  (55, .inl (i_go 7))]
noncomputable def l_34_1 : List (Nat × ME) := [(58, .inr (.inr 3))]
noncomputable def l_34 : List (Nat × ME) := l_34_0 ++ (l_34_1)
noncomputable def l_35 : List (Nat × ME) := [(0, .inl (i_al 0 1)),
  (1, .inl (i_ins [3, 4, 5] [2] 4)),
  (4, .inl (i_z 0 26 7)),
  (7, .inl (i_al 0 8)),
  (8, .inl (i_cst [3, 4, 5] 11)),
  (11, .inl (i_as 1 12)),
  (12, .inl (i_al 1 13)),
  (13, .inl (i_get [3, 4, 5] 3 16)),
  (16, .inl (i_z 1 26 19)),
  (19, .inl (i_al 1 20)),
  (20, .inl (i_c 1 21)),
  (21, .inl (i_put [3, 4, 5] 3 1 24)),
  (24, .inl (i_c 1 25)),
  (25, .inr (.inr 1)),
  (26, .inl (i_c 0 27)),
  (27, .inr (.inr 1))]
noncomputable def l_36_0 : List (Nat × ME) := [(0, .inl (i_al 0 1)),
  (1, .inl (i_obj 4)),
  (4, .inl (i_al 0 5)),
  (5, .inl (i_c 6 7)),
  (7, .inl (i_newa 20 (.inl 0) 9)),
  (9, .inl (i_put [7] 0 2 12)),
  (12, .inl (i_al 0 13)),
  (13, .inl (i_c 6 15)),
  (15, .inl (i_newa 20 (.inl 0) 17)),
  (17, .inl (i_put [7] 1 2 20)),
  (20, .inl (i_al 0 21)),
  (21, .inl (i_c 20 23)),
  (23, .inl (i_newa 20 (.inl 0) 25)),
  (25, .inl (i_put [7] 4 2 28)),
  (28, .inl (i_al 0 29)),
  (29, .inl (i_c 20 31)),
  (31, .inl (i_newa 20 (.inl 0) 33)),
  (33, .inl (i_put [7] 5 2 36)),
  (36, .inl (i_al 0 37)),
  (37, .inl (i_c 20 39)),
  (39, .inl (i_newa 20 (.inl 0) 41)),
  (41, .inl (i_put [7] 6 2 44)),
  (44, .inl (i_al 0 45)),
  (45, .inl (i_c 80 47)),
  (47, .inl (i_newa 20 (.inl 0) 49)),
  (49, .inl (i_put [7] 7 2 52)),
  (52, .inl (i_al 0 53)),
  (53, .inl (i_c 80 55)),
  (55, .inl (i_newa 20 (.inl 0) 57)),
  (57, .inl (i_put [7] 8 2 60))]
noncomputable def l_36_1 : List (Nat × ME) := [(60, .inl (i_al 0 61)),
  (61, .inl (i_c 80 63)),
  (63, .inl (i_newa 20 (.inl 0) 65)),
  (65, .inl (i_put [7] 9 2 68)),
  (68, .inl (i_al 0 69)),
  (69, .inl (i_c 20 71)),
  (71, .inl (i_newa 21 (.inl 0) 73)),
  (73, .inl (i_put [7] 10 2 76)),
  (76, .inl (i_al 0 77)),
  (77, .inl (i_c 8 79)),
  (79, .inl (i_newa 20 (.inl 0) 81)),
  (81, .inl (i_put [7] 12 2 84)),
  (84, .inl (i_al 0 85)),
  (85, .inl (i_c 8 87)),
  (87, .inl (i_newa 20 (.inl 0) 89)),
  (89, .inl (i_put [7] 13 2 92)),
  (92, .inl (i_al 0 93)),
  (93, .inl (i_c 8 95)),
  (95, .inl (i_newa 20 (.inl 0) 97)),
  (97, .inl (i_put [7] 15 2 100)),
  (100, .inl (i_al 0 101)),
  (101, .inl (i_c 8 103)),
  (103, .inl (i_newa 20 (.inl 0) 105)),
  (105, .inl (i_put [7] 16 2 108)),
  (108, .inr (.inr 3))]
noncomputable def l_36 : List (Nat × ME) := l_36_0 ++ (l_36_1)
noncomputable def l_37 : List (Nat × ME) := [(0, .inl (i_il 0 1)),
  (1, .inl (i_z 2 13 4)),
  (4, .inl (i_il 0 5)),
  (5, .inl (i_c 5 6)),
  (6, .inl (i_cmp 4 13 9)),
  (9, .inl (i_c 1 10)),
  (10, .inl (i_go 14)),
  (13, .inl (i_c 0 14)),
  (14, .inr (.inr 1))]
noncomputable def l_38 : List (Nat × ME) := [(0, .inl (i_c (-1) 1)),
  (1, .inl (i_is 2 2)),
  (2, .inl (i_c 0 3)),
  (3, .inl (i_is 3 4)),
  (4, .inl (i_il 3 5)),
  (5, .inl (i_al 0 6)),
  (6, .inl (i_get [7] 2 9)),
  (9, .inl (i_cmp 3 34 12)),
  (12, .inl (i_al 0 13)),
  (13, .inl (i_get [7] 4 16)),
  (16, .inl (i_il 3 17)),
  (17, .inl (i_ld [20, 30] 18)),
  (18, .inl (i_il 1 19)),
  (19, .inl (i_cmp 1 26 22)),
  (22, .inl (i_il 3 23)),
  (23, .inl (i_go 27)),
  (26, .inl (i_il 2 27)),
  (27, .inl (i_is 2 28)),
  (28, .inl (i_ii 3 1 31)),
  (31, .inl (i_go 4)),
  (34, .inl (i_il 2 35)),
  (35, .inr (.inr 0))]
noncomputable def l_39 : List (Nat × ME) := [(0, .inl (i_il 1 1)),
  (1, .inr (.inl (true, 1, [(0, 37)], 4))),
  (4, .inl (i_z 0 31 7)),
  (7, .inl (i_al 0 8)),
  (8, .inl (i_get [7] 0 11)),
  (11, .inl (i_il 1 12)),
  (12, .inl (i_ld [20, 30] 13)),
  (13, .inl (i_c 9 15)),
  (15, .inl (i_cmp 1 31 18)),
  (18, .inl (i_al 0 19)),
  (19, .inl (i_al 0 20)),
  (20, .inl (i_get [7] 1 23)),
  (23, .inl (i_il 1 24)),
  (24, .inl (i_ld [20, 30] 25)),
  (25, .inr (.inl (false, 2, [(7, 38)], 28))),
  (28, .inl (i_go 32)),
  (31, .inl (i_c (-1) 32)),
  (32, .inr (.inr 0))]
noncomputable def l_40 : List (Nat × ME) := [(0, .inl (i_al 0 1)),
  (1, .inl (i_il 1 2)),
  (2, .inr (.inl (false, 2, [(7, 39)], 5))),
  (5, .inl (i_is 3 6)),
  (6, .inl (i_il 3 7)),
  (7, .inl (i_z 2 24 10)),
  (10, .inl (i_al 0 11)),
  (11, .inl (i_get [7] 5 14)),
  (14, .inl (i_il 3 15)),
  (15, .inl (i_ld [20, 30] 16)),
  (16, .inl (i_il 2 17)),
  (17, .inl (i_cmp 1 24 20)),
  (20, .inl (i_il 3 21)),
  (21, .inl (i_go 25)),
  (24, .inl (i_c (-1) 25)),
  (25, .inr (.inr 0))]
noncomputable def l_41 : List (Nat × ME) := [(0, .inl (i_al 0 1)),
  (1, .inl (i_get [7] 0 4)),
  (4, .inl (i_il 1 5)),
  (5, .inl (i_il 2 6)),
  (6, .inl (i_ist 7)),
  (7, .inl (i_al 0 8)),
  (8, .inl (i_get [7] 1 11)),
  (11, .inl (i_il 1 12)),
  (12, .inl (i_il 3 13)),
  (13, .inl (i_ist 14)),
  (14, .inr (.inr 3))]
noncomputable def l_42 : List (Nat × ME) := [(0, .inl (i_il 1 1)),
  (1, .inr (.inl (true, 1, [(0, 37)], 4))),
  (4, .inl (i_z 0 19 7)),
  (7, .inl (i_il 2 8)),
  (8, .inl (i_c (-1000000) 10)),
  (10, .inl (i_cmp 2 19 13)),
  (13, .inl (i_il 2 14)),
  (14, .inl (i_c (1000000) 16)),
  (16, .inl (i_cmp 5 21 19)),
  (19, .inl (i_c 0 20)),
  (20, .inr (.inr 1)),
  (21, .inl (i_al 0 22)),
  (22, .inl (i_il 1 23)),
  (23, .inl (i_c 1 24)),
  (24, .inl (i_il 2 25)),
  (25, .inr (.inl (false, 4, [(7, 41)], 28))),
  (28, .inl (i_c 1 29)),
  (29, .inr (.inr 1))]
noncomputable def l_43_0 : List (Nat × ME) := [(0, .inl (i_il 1 1)),
  (1, .inr (.inl (true, 1, [(0, 37)], 4))),
  (4, .inl (i_z 0 19 7)),
  (7, .inl (i_il 2 8)),
  (8, .inl (i_c (-1) 9)),
  (9, .inl (i_cmp 0 21 12)),
  (12, .inl (i_il 2 13)),
  (13, .inr (.inl (true, 1, [(0, 37)], 16))),
  (16, .inl (i_z 1 21 19)),
  (19, .inl (i_c 0 20)),
  (20, .inr (.inr 1)),
  (21, .inl (i_il 2 22)),
  (22, .inl (i_z 3 35 25)),
  (25, .inl (i_al 0 26)),
  (26, .inl (i_il 1 27)),
  (27, .inl (i_c 0 28)),
  (28, .inl (i_c 0 29)),
  (29, .inr (.inl (false, 4, [(7, 41)], 32))),
  (32, .inl (i_go 52)),
  (35, .inl (i_al 0 36)),
  (36, .inl (i_il 1 37)),
  (37, .inl (i_al 0 38)),
  (38, .inl (i_get [7] 0 41)),
  (41, .inl (i_il 2 42)),
  (42, .inl (i_ld [20, 30] 43)),
  (43, .inl (i_al 0 44)),
  (44, .inl (i_get [7] 1 47)),
  (47, .inl (i_il 2 48)),
  (48, .inl (i_ld [20, 30] 49)),
  (49, .inr (.inl (false, 4, [(7, 41)], 52)))]
noncomputable def l_43_1 : List (Nat × ME) := [(52, .inl (i_c 1 53)),
  (53, .inr (.inr 1))]
noncomputable def l_43 : List (Nat × ME) := l_43_0 ++ (l_43_1)
noncomputable def l_44 : List (Nat × ME) := [(0, .inl (i_al 0 1)),
  (1, .inl (i_get [7] 5 4)),
  (4, .inl (i_il 1 5)),
  (5, .inl (i_ld [20, 30] 6)),
  (6, .inl (i_c 2 7)),
  (7, .inl (i_cmp 1 21 10)),
  (10, .inl (i_c 2 11)),
  (11, .inl (i_al 0 12)),
  (12, .inl (i_get [7] 6 15)),
  (15, .inl (i_il 1 16)),
  (16, .inl (i_ld [20, 30] 17)),
  (17, .inl (i_bin (fun a b => a + b) 18)),
  (18, .inl (i_go 37)),
  (21, .inl (i_al 0 22)),
  (22, .inl (i_get [7] 5 25)),
  (25, .inl (i_il 1 26)),
  (26, .inl (i_ld [20, 30] 27)),
  (27, .inl (i_c 3 28)),
  (28, .inl (i_cmp 1 35 31)),
  (31, .inl (i_c 3 32)),
  (32, .inl (i_go 37)),
  (35, .inl (i_c 8 37)),
  (37, .inr (.inr 0))]
noncomputable def l_45 : List (Nat × ME) := [(0, .inl (i_c 0 1)),
  (1, .inl (i_is 2 2)),
  (2, .inl (i_c 0 3)),
  (3, .inl (i_is 3 4)),
  (4, .inl (i_il 3 5)),
  (5, .inl (i_il 1 6)),
  (6, .inl (i_cmp 3 23 9)),
  (9, .inl (i_il 2 10)),
  (10, .inl (i_al 0 11)),
  (11, .inl (i_il 3 12)),
  (12, .inr (.inl (false, 2, [(7, 44)], 15))),
  (15, .inl (i_bin (fun a b => a + b) 16)),
  (16, .inl (i_is 2 17)),
  (17, .inl (i_ii 3 1 20)),
  (20, .inl (i_go 4)),
  (23, .inl (i_il 2 24)),
  (24, .inr (.inr 0))]
noncomputable def l_46_0 : List (Nat × ME) := [(0, .inl (i_al 0 1)),
  (1, .inl (i_al 0 2)),
  (2, .inl (i_get [7] 2 5)),
  (5, .inr (.inl (false, 2, [(7, 45)], 8))),
  (8, .inl (i_il 3 9)),
  (9, .inl (i_bin (fun a b => a + b) 10)),
  (10, .inl (i_c 60 12)),
  (12, .inl (i_cmp 5 37 15)),
  (15, .inl (i_al 0 16)),
  (16, .inr (.inl (false, 1, [(7, 66)], 19))),
  (19, .inl (i_pop 20)),
  (20, .inl (i_al 0 21)),
  (21, .inl (i_al 0 22)),
  (22, .inl (i_get [7] 2 25)),
  (25, .inr (.inl (false, 2, [(7, 45)], 28))),
  (28, .inl (i_il 3 29)),
  (29, .inl (i_bin (fun a b => a + b) 30)),
  (30, .inl (i_c 60 32)),
  (32, .inl (i_cmp 5 37 35)),
  (35, .inl (i_c (-1) 36)),
  (36, .inr (.inr 0)),
  (37, .inl (i_al 0 38)),
  (38, .inl (i_get [7] 2 41)),
  (41, .inl (i_is 4 43)),
  (43, .inl (i_al 0 44)),
  (44, .inl (i_dup 45)),
  (45, .inl (i_get [7] 2 48)),
  (48, .inl (i_c 1 49)),
  (49, .inl (i_bin (fun a b => a + b) 50)),
  (50, .inl (i_put [7] 2 0 53))]
noncomputable def l_46_1 : List (Nat × ME) := [(53, .inl (i_al 0 54)),
  (54, .inl (i_dup 55)),
  (55, .inl (i_get [7] 3 58)),
  (58, .inl (i_c 1 59)),
  (59, .inl (i_bin (fun a b => a + b) 60)),
  (60, .inl (i_put [7] 3 0 63)),
  (63, .inl (i_al 0 64)),
  (64, .inl (i_get [7] 4 67)),
  (67, .inl (i_il 4 69)),
  (69, .inl (i_al 0 70)),
  (70, .inl (i_get [7] 3 73)),
  (73, .inl (i_ist 74)),
  (74, .inl (i_al 0 75)),
  (75, .inl (i_get [7] 5 78)),
  (78, .inl (i_il 4 80)),
  (80, .inl (i_il 1 81)),
  (81, .inl (i_ist 82)),
  (82, .inl (i_al 0 83)),
  (83, .inl (i_get [7] 6 86)),
  (86, .inl (i_il 4 88)),
  (88, .inl (i_il 2 89)),
  (89, .inl (i_ist 90)),
  (90, .inl (i_c 0 91)),
  (91, .inl (i_is 5 93)),
  (93, .inl (i_il 5 95)),
  (95, .inl (i_c 4 96)),
  (96, .inl (i_cmp 3 144 99)),
  (99, .inl (i_al 0 100)),
  (100, .inl (i_get [7] 7 103)),
  (103, .inl (i_c 4 104))]
noncomputable def l_46_2 : List (Nat × ME) := [(104, .inl (i_il 4 106)),
  (106, .inl (i_bin (fun a b => a * b) 107)),
  (107, .inl (i_il 5 109)),
  (109, .inl (i_bin (fun a b => a + b) 110)),
  (110, .inl (i_c 0 111)),
  (111, .inl (i_ist 112)),
  (112, .inl (i_al 0 113)),
  (113, .inl (i_get [7] 8 116)),
  (116, .inl (i_c 4 117)),
  (117, .inl (i_il 4 119)),
  (119, .inl (i_bin (fun a b => a * b) 120)),
  (120, .inl (i_il 5 122)),
  (122, .inl (i_bin (fun a b => a + b) 123)),
  (123, .inl (i_c 0 124)),
  (124, .inl (i_ist 125)),
  (125, .inl (i_al 0 126)),
  (126, .inl (i_get [7] 9 129)),
  (129, .inl (i_c 4 130)),
  (130, .inl (i_il 4 132)),
  (132, .inl (i_bin (fun a b => a * b) 133)),
  (133, .inl (i_il 5 135)),
  (135, .inl (i_bin (fun a b => a + b) 136)),
  (136, .inl (i_c 0 137)),
  (137, .inl (i_ist 138)),
  (138, .inl (i_ii 5 1 141)),
  (141, .inl (i_go 93)),
  (144, .inl (i_il 4 146)),
  (146, .inr (.inr 0))]
noncomputable def l_46 : List (Nat × ME) := l_46_0 ++ (l_46_1 ++ (l_46_2))
noncomputable def l_47_0 : List (Nat × ME) := [(0, .inl (i_il 1 1)),
  (1, .inr (.inl (true, 1, [(0, 37)], 4))),
  (4, .inl (i_z 0 17 7)),
  (7, .inl (i_il 2 8)),
  (8, .inl (i_c 1 9)),
  (9, .inl (i_cmp 2 17 12)),
  (12, .inl (i_il 2 13)),
  (13, .inl (i_c 4 14)),
  (14, .inl (i_cmp 5 19 17)),
  (17, .inl (i_c (-1) 18)),
  (18, .inr (.inr 0)),
  (19, .inl (i_al 0 20)),
  (20, .inl (i_c 2 21)),
  (21, .inl (i_il 2 22)),
  (22, .inl (i_c 2 23)),
  (23, .inl (i_il 2 24)),
  (24, .inl (i_bin (fun a b => a + b) 25)),
  (25, .inr (.inl (false, 4, [(7, 46)], 28))),
  (28, .inl (i_is 3 29)),
  (29, .inl (i_il 3 30)),
  (30, .inl (i_z 3 36 33)),
  (33, .inl (i_c (-2) 35)),
  (35, .inr (.inr 0)),
  (36, .inl (i_al 0 37)),
  (37, .inl (i_il 1 38)),
  (38, .inl (i_c 9 40)),
  (40, .inl (i_al 0 41)),
  (41, .inl (i_get [7] 4 44)),
  (44, .inl (i_il 3 45)),
  (45, .inl (i_ld [20, 30] 46))]
noncomputable def l_47_1 : List (Nat × ME) := [(46, .inr (.inl (false, 4, [(7, 41)], 49))),
  (49, .inl (i_al 0 50)),
  (50, .inl (i_get [7] 4 53)),
  (53, .inl (i_il 3 54)),
  (54, .inl (i_ld [20, 30] 55)),
  (55, .inr (.inr 0))]
noncomputable def l_47 : List (Nat × ME) := l_47_0 ++ (l_47_1)
noncomputable def l_48_0 : List (Nat × ME) := [(0, .inl (i_il 1 1)),
  (1, .inr (.inl (true, 1, [(0, 37)], 4))),
  (4, .inl (i_z 0 15 7)),
  (7, .inl (i_al 0 8)),
  (8, .inl (i_il 2 9)),
  (9, .inr (.inl (false, 2, [(7, 39)], 12))),
  (12, .inl (i_z 3 17 15)),
  (15, .inl (i_c (-1) 16)),
  (16, .inr (.inr 0)),
  (17, .inl (i_al 0 18)),
  (18, .inl (i_c 3 19)),
  (19, .inl (i_c 1 20)),
  (20, .inl (i_c 3 21)),
  (21, .inr (.inl (false, 4, [(7, 46)], 24))),
  (24, .inl (i_is 3 25)),
  (25, .inl (i_il 3 26)),
  (26, .inl (i_z 3 32 29)),
  (29, .inl (i_c (-2) 31)),
  (31, .inr (.inr 0)),
  (32, .inl (i_al 0 33)),
  (33, .inl (i_get [7] 7 36)),
  (36, .inl (i_c 4 37)),
  (37, .inl (i_il 3 38)),
  (38, .inl (i_bin (fun a b => a * b) 39)),
  (39, .inl (i_c 9 41)),
  (41, .inl (i_ist 42)),
  (42, .inl (i_al 0 43)),
  (43, .inl (i_get [7] 8 46)),
  (46, .inl (i_c 4 47)),
  (47, .inl (i_il 3 48))]
noncomputable def l_48_1 : List (Nat × ME) := [(48, .inl (i_bin (fun a b => a * b) 49)),
  (49, .inl (i_al 0 50)),
  (50, .inl (i_get [7] 1 53)),
  (53, .inl (i_il 2 54)),
  (54, .inl (i_ld [20, 30] 55)),
  (55, .inl (i_ist 56)),
  (56, .inl (i_al 0 57)),
  (57, .inl (i_il 1 58)),
  (58, .inl (i_c 9 60)),
  (60, .inl (i_al 0 61)),
  (61, .inl (i_get [7] 4 64)),
  (64, .inl (i_il 3 65)),
  (65, .inl (i_ld [20, 30] 66)),
  (66, .inr (.inl (false, 4, [(7, 41)], 69))),
  (69, .inl (i_al 0 70)),
  (70, .inl (i_get [7] 4 73)),
  (73, .inl (i_il 3 74)),
  (74, .inl (i_ld [20, 30] 75)),
  (75, .inr (.inr 0))]
noncomputable def l_48 : List (Nat × ME) := l_48_0 ++ (l_48_1)
noncomputable def l_49 : List (Nat × ME) := [(0, .inl (i_il 1 1)),
  (1, .inr (.inl (true, 1, [(0, 37)], 4))),
  (4, .inl (i_z 1 9 7)),
  (7, .inl (i_c (-1) 8)),
  (8, .inr (.inr 0)),
  (9, .inl (i_al 0 10)),
  (10, .inl (i_c 4 11)),
  (11, .inl (i_c 0 12)),
  (12, .inl (i_c 8 14)),
  (14, .inr (.inl (false, 4, [(7, 46)], 17))),
  (17, .inl (i_is 2 18)),
  (18, .inl (i_il 2 19)),
  (19, .inl (i_z 3 25 22)),
  (22, .inl (i_c (-2) 24)),
  (24, .inr (.inr 0)),
  (25, .inl (i_al 0 26)),
  (26, .inl (i_il 1 27)),
  (27, .inl (i_c 9 29)),
  (29, .inl (i_al 0 30)),
  (30, .inl (i_get [7] 4 33)),
  (33, .inl (i_il 2 34)),
  (34, .inl (i_ld [20, 30] 35)),
  (35, .inr (.inl (false, 4, [(7, 41)], 38))),
  (38, .inl (i_al 0 39)),
  (39, .inl (i_get [7] 4 42)),
  (42, .inl (i_il 2 43)),
  (43, .inl (i_ld [20, 30] 44)),
  (44, .inr (.inr 0))]
noncomputable def l_50_0 : List (Nat × ME) := [(0, .inl (i_al 0 1)),
  (1, .inl (i_il 1 2)),
  (2, .inl (i_c 2 3)),
  (3, .inr (.inl (false, 3, [(7, 40)], 6))),
  (6, .inl (i_is 4 8)),
  (8, .inl (i_il 4 10)),
  (10, .inl (i_z 2 35 13)),
  (13, .inl (i_il 2 14)),
  (14, .inl (i_z 2 35 17)),
  (17, .inl (i_il 2 18)),
  (18, .inl (i_al 0 19)),
  (19, .inl (i_get [7] 6 22)),
  (22, .inl (i_il 4 24)),
  (24, .inl (i_ld [20, 30] 25)),
  (25, .inl (i_cmp 3 35 28)),
  (28, .inl (i_il 3 29)),
  (29, .inr (.inl (true, 1, [(0, 37)], 32))),
  (32, .inl (i_z 1 37 35)),
  (35, .inl (i_c 0 36)),
  (36, .inr (.inr 1)),
  (37, .inl (i_al 0 38)),
  (38, .inl (i_get [7] 7 41)),
  (41, .inl (i_c 4 42)),
  (42, .inl (i_il 4 44)),
  (44, .inl (i_bin (fun a b => a * b) 45)),
  (45, .inl (i_il 2 46)),
  (46, .inl (i_bin (fun a b => a + b) 47)),
  (47, .inl (i_al 0 48)),
  (48, .inl (i_get [7] 0 51)),
  (51, .inl (i_il 3 52))]
noncomputable def l_50_1 : List (Nat × ME) := [(52, .inl (i_ld [20, 30] 53)),
  (53, .inl (i_ist 54)),
  (54, .inl (i_al 0 55)),
  (55, .inl (i_get [7] 8 58)),
  (58, .inl (i_c 4 59)),
  (59, .inl (i_il 4 61)),
  (61, .inl (i_bin (fun a b => a * b) 62)),
  (62, .inl (i_il 2 63)),
  (63, .inl (i_bin (fun a b => a + b) 64)),
  (64, .inl (i_al 0 65)),
  (65, .inl (i_get [7] 1 68)),
  (68, .inl (i_il 3 69)),
  (69, .inl (i_ld [20, 30] 70)),
  (70, .inl (i_ist 71)),
  (71, .inl (i_c 1 72)),
  (72, .inr (.inr 1))]
noncomputable def l_50 : List (Nat × ME) := l_50_0 ++ (l_50_1)
noncomputable def l_51_0 : List (Nat × ME) := [(0, .inl (i_al 0 1)),
  (1, .inl (i_il 2 2)),
  (2, .inr (.inl (false, 2, [(7, 39)], 5))),
  (5, .inl (i_is 4 7)),
  (7, .inl (i_il 1 8)),
  (8, .inr (.inl (true, 1, [(0, 37)], 11))),
  (11, .inl (i_z 0 45 14)),
  (14, .inl (i_il 4 16)),
  (16, .inl (i_z 2 45 19)),
  (19, .inl (i_al 0 20)),
  (20, .inl (i_get [7] 5 23)),
  (23, .inl (i_il 4 25)),
  (25, .inl (i_ld [20, 30] 26)),
  (26, .inl (i_c 4 27)),
  (27, .inl (i_cmp 0 45 30)),
  (30, .inl (i_il 3 31)),
  (31, .inl (i_z 2 45 34)),
  (34, .inl (i_il 3 35)),
  (35, .inl (i_al 0 36)),
  (36, .inl (i_get [7] 6 39)),
  (39, .inl (i_il 4 41)),
  (41, .inl (i_ld [20, 30] 42)),
  (42, .inl (i_cmp 2 47 45)),
  (45, .inl (i_c 0 46)),
  (46, .inr (.inr 1)),
  (47, .inl (i_al 0 48)),
  (48, .inl (i_il 1 49)),
  (49, .inl (i_al 0 50)),
  (50, .inl (i_get [7] 7 53)),
  (53, .inl (i_c 4 54))]
noncomputable def l_51_1 : List (Nat × ME) := [(54, .inl (i_il 4 56)),
  (56, .inl (i_bin (fun a b => a * b) 57)),
  (57, .inl (i_il 3 58)),
  (58, .inl (i_bin (fun a b => a + b) 59)),
  (59, .inl (i_ld [20, 30] 60)),
  (60, .inl (i_al 0 61)),
  (61, .inl (i_get [7] 8 64)),
  (64, .inl (i_c 4 65)),
  (65, .inl (i_il 4 67)),
  (67, .inl (i_bin (fun a b => a * b) 68)),
  (68, .inl (i_il 3 69)),
  (69, .inl (i_bin (fun a b => a + b) 70)),
  (70, .inl (i_ld [20, 30] 71)),
  (71, .inr (.inl (false, 4, [(7, 41)], 74))),
  (74, .inl (i_c 1 75)),
  (75, .inr (.inr 1))]
noncomputable def l_51 : List (Nat × ME) := l_51_0 ++ (l_51_1)
noncomputable def l_52 : List (Nat × ME) := [(0, .inl (i_c (-1) 1)),
  (1, .inl (i_is 3 2)),
  (2, .inl (i_c 0 3)),
  (3, .inl (i_is 4 5)),
  (5, .inl (i_il 4 7)),
  (7, .inl (i_al 0 8)),
  (8, .inl (i_get [7] 6 11)),
  (11, .inl (i_il 1 12)),
  (12, .inl (i_ld [20, 30] 13)),
  (13, .inl (i_cmp 3 44 16)),
  (16, .inl (i_al 0 17)),
  (17, .inl (i_get [7] 9 20)),
  (20, .inl (i_c 4 21)),
  (21, .inl (i_il 1 22)),
  (22, .inl (i_bin (fun a b => a * b) 23)),
  (23, .inl (i_il 4 25)),
  (25, .inl (i_bin (fun a b => a + b) 26)),
  (26, .inl (i_ld [20, 30] 27)),
  (27, .inl (i_il 2 28)),
  (28, .inl (i_cmp 1 36 31)),
  (31, .inl (i_il 4 33)),
  (33, .inl (i_go 37)),
  (36, .inl (i_il 3 37)),
  (37, .inl (i_is 3 38)),
  (38, .inl (i_ii 4 1 41)),
  (41, .inl (i_go 5)),
  (44, .inl (i_il 3 45)),
  (45, .inr (.inr 0))]
noncomputable def l_53_0 : List (Nat × ME) := [(0, .inl (i_al 0 1)),
  (1, .inl (i_il 1 2)),
  (2, .inl (i_c 4 3)),
  (3, .inr (.inl (false, 3, [(7, 40)], 6))),
  (6, .inl (i_is 4 8)),
  (8, .inl (i_il 4 10)),
  (10, .inl (i_z 2 28 13)),
  (13, .inl (i_al 0 14)),
  (14, .inl (i_il 2 15)),
  (15, .inr (.inl (false, 2, [(7, 39)], 18))),
  (18, .inl (i_z 2 28 21)),
  (21, .inl (i_il 3 22)),
  (22, .inr (.inl (true, 1, [(0, 37)], 25))),
  (25, .inl (i_z 1 30 28)),
  (28, .inl (i_c 0 29)),
  (29, .inr (.inr 1)),
  (30, .inl (i_al 0 31)),
  (31, .inl (i_il 4 33)),
  (33, .inl (i_al 0 34)),
  (34, .inl (i_get [7] 1 37)),
  (37, .inl (i_il 2 38)),
  (38, .inl (i_ld [20, 30] 39)),
  (39, .inr (.inl (false, 3, [(7, 52)], 42))),
  (42, .inl (i_is 5 44)),
  (44, .inl (i_il 5 46)),
  (46, .inl (i_z 3 82 49)),
  (49, .inl (i_al 0 50)),
  (50, .inl (i_get [7] 6 53)),
  (53, .inl (i_il 4 55)),
  (55, .inl (i_ld [20, 30] 56))]
noncomputable def l_53_1 : List (Nat × ME) := [(56, .inl (i_c 3 57)),
  (57, .inl (i_cmp 1 62 60)),
  (60, .inl (i_c 0 61)),
  (61, .inr (.inr 1)),
  (62, .inl (i_al 0 63)),
  (63, .inl (i_get [7] 6 66)),
  (66, .inl (i_il 4 68)),
  (68, .inl (i_ld [20, 30] 69)),
  (69, .inl (i_is 5 71)),
  (71, .inl (i_al 0 72)),
  (72, .inl (i_get [7] 6 75)),
  (75, .inl (i_il 4 77)),
  (77, .inl (i_dup2 78)),
  (78, .inl (i_ld [20, 30] 79)),
  (79, .inl (i_c 1 80)),
  (80, .inl (i_bin (fun a b => a + b) 81)),
  (81, .inl (i_ist 82)),
  (82, .inl (i_al 0 83)),
  (83, .inl (i_get [7] 9 86)),
  (86, .inl (i_c 4 87)),
  (87, .inl (i_il 4 89)),
  (89, .inl (i_bin (fun a b => a * b) 90)),
  (90, .inl (i_il 5 92)),
  (92, .inl (i_bin (fun a b => a + b) 93)),
  (93, .inl (i_al 0 94)),
  (94, .inl (i_get [7] 1 97)),
  (97, .inl (i_il 2 98)),
  (98, .inl (i_ld [20, 30] 99)),
  (99, .inl (i_ist 100)),
  (100, .inl (i_al 0 101))]
noncomputable def l_53_2 : List (Nat × ME) := [(101, .inl (i_get [7] 7 104)),
  (104, .inl (i_c 4 105)),
  (105, .inl (i_il 4 107)),
  (107, .inl (i_bin (fun a b => a * b) 108)),
  (108, .inl (i_il 5 110)),
  (110, .inl (i_bin (fun a b => a + b) 111)),
  (111, .inl (i_al 0 112)),
  (112, .inl (i_get [7] 0 115)),
  (115, .inl (i_il 3 116)),
  (116, .inl (i_ld [20, 30] 117)),
  (117, .inl (i_ist 118)),
  (118, .inl (i_al 0 119)),
  (119, .inl (i_get [7] 8 122)),
  (122, .inl (i_c 4 123)),
  (123, .inl (i_il 4 125)),
  (125, .inl (i_bin (fun a b => a * b) 126)),
  (126, .inl (i_il 5 128)),
  (128, .inl (i_bin (fun a b => a + b) 129)),
  (129, .inl (i_al 0 130)),
  (130, .inl (i_get [7] 1 133)),
  (133, .inl (i_il 3 134)),
  (134, .inl (i_ld [20, 30] 135)),
  (135, .inl (i_ist 136)),
  (136, .inl (i_c 1 137)),
  (137, .inr (.inr 1))]
noncomputable def l_53 : List (Nat × ME) := l_53_0 ++ (l_53_1 ++ (l_53_2))
noncomputable def l_54_0 : List (Nat × ME) := [(0, .inl (i_al 0 1)),
  (1, .inl (i_il 2 2)),
  (2, .inl (i_c 4 3)),
  (3, .inr (.inl (false, 3, [(7, 40)], 6))),
  (6, .inl (i_is 4 8)),
  (8, .inl (i_il 4 10)),
  (10, .inl (i_z 2 28 13)),
  (13, .inl (i_al 0 14)),
  (14, .inl (i_il 3 15)),
  (15, .inr (.inl (false, 2, [(7, 39)], 18))),
  (18, .inl (i_z 2 28 21)),
  (21, .inl (i_il 1 22)),
  (22, .inr (.inl (true, 1, [(0, 37)], 25))),
  (25, .inl (i_z 1 30 28)),
  (28, .inl (i_c 0 29)),
  (29, .inr (.inr 1)),
  (30, .inl (i_al 0 31)),
  (31, .inl (i_il 4 33)),
  (33, .inl (i_al 0 34)),
  (34, .inl (i_get [7] 1 37)),
  (37, .inl (i_il 3 38)),
  (38, .inl (i_ld [20, 30] 39)),
  (39, .inr (.inl (false, 3, [(7, 52)], 42))),
  (42, .inl (i_is 5 44)),
  (44, .inl (i_il 5 46)),
  (46, .inl (i_z 3 59 49)),
  (49, .inl (i_al 0 50)),
  (50, .inl (i_il 1 51)),
  (51, .inl (i_c 0 52)),
  (52, .inl (i_c 0 53))]
noncomputable def l_54_1 : List (Nat × ME) := [(53, .inr (.inl (false, 4, [(7, 41)], 56))),
  (56, .inl (i_go 88)),
  (59, .inl (i_al 0 60)),
  (60, .inl (i_il 1 61)),
  (61, .inl (i_al 0 62)),
  (62, .inl (i_get [7] 7 65)),
  (65, .inl (i_c 4 66)),
  (66, .inl (i_il 4 68)),
  (68, .inl (i_bin (fun a b => a * b) 69)),
  (69, .inl (i_il 5 71)),
  (71, .inl (i_bin (fun a b => a + b) 72)),
  (72, .inl (i_ld [20, 30] 73)),
  (73, .inl (i_al 0 74)),
  (74, .inl (i_get [7] 8 77)),
  (77, .inl (i_c 4 78)),
  (78, .inl (i_il 4 80)),
  (80, .inl (i_bin (fun a b => a * b) 81)),
  (81, .inl (i_il 5 83)),
  (83, .inl (i_bin (fun a b => a + b) 84)),
  (84, .inl (i_ld [20, 30] 85)),
  (85, .inr (.inl (false, 4, [(7, 41)], 88))),
  (88, .inl (i_c 1 89)),
  (89, .inr (.inr 1))]
noncomputable def l_54 : List (Nat × ME) := l_54_0 ++ (l_54_1)
noncomputable def l_55_0 : List (Nat × ME) := [(0, .inl (i_al 0 1)),
  (1, .inl (i_il 1 2)),
  (2, .inr (.inl (false, 2, [(7, 39)], 5))),
  (5, .inl (i_is 3 6)),
  (6, .inl (i_il 3 7)),
  (7, .inl (i_z 2 34 10)),
  (10, .inl (i_il 2 11)),
  (11, .inl (i_z 2 34 14)),
  (14, .inl (i_il 2 15)),
  (15, .inl (i_c 99 17)),
  (17, .inl (i_cmp 4 34 20)),
  (20, .inl (i_al 0 21)),
  (21, .inl (i_get [7] 11 24)),
  (24, .inl (i_al 0 25)),
  (25, .inl (i_get [7] 14 28)),
  (28, .inl (i_bin (fun a b => a + b) 29)),
  (29, .inl (i_c 8 31)),
  (31, .inl (i_cmp 2 36 34)),
  (34, .inl (i_c 0 35)),
  (35, .inr (.inr 1)),
  (36, .inl (i_c 0 37)),
  (37, .inl (i_is 4 39)),
  (39, .inl (i_il 4 41)),
  (41, .inl (i_al 0 42)),
  (42, .inl (i_get [7] 11 45)),
  (45, .inl (i_cmp 3 72 48)),
  (48, .inl (i_al 0 49)),
  (49, .inl (i_get [7] 12 52)),
  (52, .inl (i_il 4 54)),
  (54, .inl (i_ld [20, 30] 55))]
noncomputable def l_55_1 : List (Nat × ME) := [(55, .inl (i_al 0 56)),
  (56, .inl (i_get [7] 4 59)),
  (59, .inl (i_il 3 60)),
  (60, .inl (i_ld [20, 30] 61)),
  (61, .inl (i_cmp 1 66 64)),
  (64, .inl (i_c 0 65)),
  (65, .inr (.inr 1)),
  (66, .inl (i_ii 4 1 69)),
  (69, .inl (i_go 39)),
  (72, .inl (i_c 0 73)),
  (73, .inl (i_is 4 75)),
  (75, .inl (i_il 4 77)),
  (77, .inl (i_al 0 78)),
  (78, .inl (i_get [7] 14 81)),
  (81, .inl (i_cmp 3 108 84)),
  (84, .inl (i_al 0 85)),
  (85, .inl (i_get [7] 15 88)),
  (88, .inl (i_il 4 90)),
  (90, .inl (i_ld [20, 30] 91)),
  (91, .inl (i_al 0 92)),
  (92, .inl (i_get [7] 4 95)),
  (95, .inl (i_il 3 96)),
  (96, .inl (i_ld [20, 30] 97)),
  (97, .inl (i_cmp 1 102 100)),
  (100, .inl (i_c 0 101)),
  (101, .inr (.inr 1)),
  (102, .inl (i_ii 4 1 105)),
  (105, .inl (i_go 75)),
  (108, .inl (i_al 0 109)),
  (109, .inl (i_get [7] 12 112))]
noncomputable def l_55_2 : List (Nat × ME) := [(112, .inl (i_al 0 113)),
  (113, .inl (i_get [7] 11 116)),
  (116, .inl (i_al 0 117)),
  (117, .inl (i_get [7] 4 120)),
  (120, .inl (i_il 3 121)),
  (121, .inl (i_ld [20, 30] 122)),
  (122, .inl (i_ist 123)),
  (123, .inl (i_al 0 124)),
  (124, .inl (i_get [7] 13 127)),
  (127, .inl (i_al 0 128)),
  (128, .inl (i_get [7] 11 131)),
  (131, .inl (i_il 2 132)),
  (132, .inl (i_ist 133)),
  (133, .inl (i_al 0 134)),
  (134, .inl (i_dup 135)),
  (135, .inl (i_get [7] 11 138)),
  (138, .inl (i_c 1 139)),
  (139, .inl (i_bin (fun a b => a + b) 140)),
  (140, .inl (i_put [7] 11 0 143)),
  (143, .inl (i_c 1 144)),
  (144, .inr (.inr 1))]
noncomputable def l_55 : List (Nat × ME) := l_55_0 ++ (l_55_1 ++ (l_55_2))
noncomputable def l_56_0 : List (Nat × ME) := [(0, .inl (i_il 1 1)),
  (1, .inr (.inl (true, 1, [(0, 37)], 4))),
  (4, .inl (i_z 0 14 7)),
  (7, .inl (i_al 0 8)),
  (8, .inl (i_get [7] 14 11)),
  (11, .inl (i_z 1 16 14)),
  (14, .inl (i_c (-1) 15)),
  (15, .inr (.inr 0)),
  (16, .inl (i_al 0 17)),
  (17, .inl (i_get [7] 16 20)),
  (20, .inl (i_c 0 21)),
  (21, .inl (i_ld [20, 30] 22)),
  (22, .inl (i_is 2 23)),
  (23, .inl (i_al 0 24)),
  (24, .inl (i_il 1 25)),
  (25, .inl (i_c 9 27)),
  (27, .inl (i_al 0 28)),
  (28, .inl (i_get [7] 15 31)),
  (31, .inl (i_c 0 32)),
  (32, .inl (i_ld [20, 30] 33)),
  (33, .inr (.inl (false, 4, [(7, 41)], 36))),
  (36, .inl (i_al 0 37)),
  (37, .inl (i_dup 38)),
  (38, .inl (i_get [7] 14 41)),
  (41, .inl (i_c 1 42)),
  (42, .inl (i_bin (fun a b => a - b) 43)),
  (43, .inl (i_put [7] 14 0 46)),
  (46, .inl (i_c 0 47)),
  (47, .inl (i_is 3 48)),
  (48, .inl (i_il 3 49))]
noncomputable def l_56_1 : List (Nat × ME) := [(49, .inl (i_al 0 50)),
  (50, .inl (i_get [7] 14 53)),
  (53, .inl (i_cmp 3 90 56)),
  (56, .inl (i_al 0 57)),
  (57, .inl (i_get [7] 15 60)),
  (60, .inl (i_il 3 61)),
  (61, .inl (i_al 0 62)),
  (62, .inl (i_get [7] 15 65)),
  (65, .inl (i_il 3 66)),
  (66, .inl (i_c 1 67)),
  (67, .inl (i_bin (fun a b => a + b) 68)),
  (68, .inl (i_ld [20, 30] 69)),
  (69, .inl (i_ist 70)),
  (70, .inl (i_al 0 71)),
  (71, .inl (i_get [7] 16 74)),
  (74, .inl (i_il 3 75)),
  (75, .inl (i_al 0 76)),
  (76, .inl (i_get [7] 16 79)),
  (79, .inl (i_il 3 80)),
  (80, .inl (i_c 1 81)),
  (81, .inl (i_bin (fun a b => a + b) 82)),
  (82, .inl (i_ld [20, 30] 83)),
  (83, .inl (i_ist 84)),
  (84, .inl (i_ii 3 1 87)),
  (87, .inl (i_go 48)),
  (90, .inl (i_il 2 91)),
  (91, .inr (.inr 0))]
noncomputable def l_56 : List (Nat × ME) := l_56_0 ++ (l_56_1)
noncomputable def l_57 : List (Nat × ME) := [(0, .inl (i_al 0 1)),
  (1, .inl (i_il 1 2)),
  (2, .inr (.inl (false, 2, [(7, 38)], 5))),
  (5, .inl (i_is 2 6)),
  (6, .inl (i_il 2 7)),
  (7, .inl (i_z 2 23 10)),
  (10, .inl (i_al 0 11)),
  (11, .inl (i_get [7] 10 14)),
  (14, .inl (i_il 2 15)),
  (15, .inl (i_ld [21] 16)),
  (16, .inl (i_z 0 23 19)),
  (19, .inl (i_c 1 20)),
  (20, .inl (i_go 24)),
  (23, .inl (i_c 0 24)),
  (24, .inr (.inr 1))]
noncomputable def l_58 : List (Nat × ME) := [(0, .inl (i_al 0 1)),
  (1, .inl (i_il 1 2)),
  (2, .inr (.inl (false, 2, [(7, 38)], 5))),
  (5, .inl (i_is 2 6)),
  (6, .inl (i_il 2 7)),
  (7, .inl (i_z 2 19 10)),
  (10, .inl (i_al 0 11)),
  (11, .inl (i_get [7] 10 14)),
  (14, .inl (i_il 2 15)),
  (15, .inl (i_ld [21] 16)),
  (16, .inl (i_z 0 21 19)),
  (19, .inl (i_c 0 20)),
  (20, .inr (.inr 1)),
  (21, .inl (i_al 0 22)),
  (22, .inl (i_get [7] 10 25)),
  (25, .inl (i_il 2 26)),
  (26, .inl (i_c 1 27)),
  (27, .inl (i_zst 28)),
  (28, .inl (i_c 1 29)),
  (29, .inr (.inr 1))]
noncomputable def l_59 : List (Nat × ME) := [(0, .inl (i_c 0 1)),
  (1, .inl (i_is 1 2)),
  (2, .inl (i_il 1 3)),
  (3, .inl (i_c 6 5)),
  (5, .inl (i_cmp 3 36 8)),
  (8, .inl (i_al 0 9)),
  (9, .inl (i_get [7] 0 12)),
  (12, .inl (i_il 1 13)),
  (13, .inl (i_ld [20, 30] 14)),
  (14, .inl (i_c 9 16)),
  (16, .inl (i_cmp 1 30 19)),
  (19, .inl (i_al 0 20)),
  (20, .inl (i_al 0 21)),
  (21, .inl (i_get [7] 1 24)),
  (24, .inl (i_il 1 25)),
  (25, .inl (i_ld [20, 30] 26)),
  (26, .inr (.inl (false, 2, [(7, 58)], 29))),
  (29, .inl (i_pop 30)),
  (30, .inl (i_ii 1 1 33)),
  (33, .inl (i_go 2)),
  (36, .inl (i_al 0 37)),
  (37, .inr (.inl (false, 1, [(7, 60)], 40))),
  (40, .inr (.inr 3))]
noncomputable def l_60 : List (Nat × ME) := [(0, .inl (i_c 0 1)),
  (1, .inl (i_is 1 2)),
  (2, .inl (i_il 1 3)),
  (3, .inl (i_al 0 4)),
  (4, .inl (i_get [7] 14 7)),
  (7, .inl (i_cmp 3 27 10)),
  (10, .inl (i_al 0 11)),
  (11, .inl (i_al 0 12)),
  (12, .inl (i_get [7] 15 15)),
  (15, .inl (i_il 1 16)),
  (16, .inl (i_ld [20, 30] 17)),
  (17, .inr (.inl (false, 2, [(7, 58)], 20))),
  (20, .inl (i_pop 21)),
  (21, .inl (i_ii 1 1 24)),
  (24, .inl (i_go 2)),
  (27, .inr (.inr 3))]
noncomputable def l_61_0 : List (Nat × ME) := [(0, .inl (i_c 0 1)),
  (1, .inl (i_is 2 2)),
  (2, .inl (i_c 0 3)),
  (3, .inl (i_is 3 4)),
  (4, .inl (i_il 3 5)),
  (5, .inl (i_al 0 6)),
  (6, .inl (i_get [7] 2 9)),
  (9, .inl (i_cmp 3 149 12)),
  (12, .inl (i_c 0 13)),
  (13, .inl (i_is 4 15)),
  (15, .inl (i_il 4 17)),
  (17, .inl (i_al 0 18)),
  (18, .inl (i_get [7] 6 21)),
  (21, .inl (i_il 3 22)),
  (22, .inl (i_ld [20, 30] 23)),
  (23, .inl (i_cmp 3 143 26)),
  (26, .inl (i_al 0 27)),
  (27, .inl (i_get [7] 5 30)),
  (30, .inl (i_il 3 31)),
  (31, .inl (i_ld [20, 30] 32)),
  (32, .inl (i_c 2 33)),
  (33, .inl (i_cmp 0 68 36)),
  (36, .inl (i_al 0 37)),
  (37, .inl (i_get [7] 5 40)),
  (40, .inl (i_il 3 41)),
  (41, .inl (i_ld [20, 30] 42)),
  (42, .inl (i_c 4 43)),
  (43, .inl (i_cmp 1 72 46)),
  (46, .inl (i_il 1 47)),
  (47, .inl (i_z 1 68 50))]
noncomputable def l_61_1 : List (Nat × ME) := [(50, .inl (i_al 0 51)),
  (51, .inl (i_al 0 52)),
  (52, .inl (i_get [7] 9 55)),
  (55, .inl (i_c 4 56)),
  (56, .inl (i_il 3 57)),
  (57, .inl (i_bin (fun a b => a * b) 58)),
  (58, .inl (i_il 4 60)),
  (60, .inl (i_bin (fun a b => a + b) 61)),
  (61, .inl (i_ld [20, 30] 62)),
  (62, .inr (.inl (false, 2, [(7, 57)], 65))),
  (65, .inl (i_z 0 72 68)),
  (68, .inl (i_c 1 69)),
  (69, .inl (i_go 73)),
  (72, .inl (i_c 0 73)),
  (73, .inl (i_is 5 75)),
  (75, .inl (i_al 0 76)),
  (76, .inl (i_get [7] 10 79)),
  (79, .inl (i_il 3 80)),
  (80, .inl (i_ld [21] 81)),
  (81, .inl (i_z 0 137 84)),
  (84, .inl (i_il 5 86)),
  (86, .inl (i_z 0 137 89)),
  (89, .inl (i_al 0 90)),
  (90, .inl (i_get [7] 7 93)),
  (93, .inl (i_c 4 94)),
  (94, .inl (i_il 3 95)),
  (95, .inl (i_bin (fun a b => a * b) 96)),
  (96, .inl (i_il 4 98)),
  (98, .inl (i_bin (fun a b => a + b) 99)),
  (99, .inl (i_ld [20, 30] 100))]
noncomputable def l_61_2 : List (Nat × ME) := [(100, .inl (i_c 9 102)),
  (102, .inl (i_cmp 1 137 105)),
  (105, .inl (i_al 0 106)),
  (106, .inl (i_al 0 107)),
  (107, .inl (i_get [7] 8 110)),
  (110, .inl (i_c 4 111)),
  (111, .inl (i_il 3 112)),
  (112, .inl (i_bin (fun a b => a * b) 113)),
  (113, .inl (i_il 4 115)),
  (115, .inl (i_bin (fun a b => a + b) 116)),
  (116, .inl (i_ld [20, 30] 117)),
  (117, .inr (.inl (false, 2, [(7, 58)], 120))),
  (120, .inl (i_is 6 122)),
  (122, .inl (i_il 2 123)),
  (123, .inl (i_z 1 131 126)),
  (126, .inl (i_il 6 128)),
  (128, .inl (i_z 0 135 131)),
  (131, .inl (i_c 1 132)),
  (132, .inl (i_go 136)),
  (135, .inl (i_c 0 136)),
  (136, .inl (i_is 2 137)),
  (137, .inl (i_ii 4 1 140)),
  (140, .inl (i_go 15)),
  (143, .inl (i_ii 3 1 146)),
  (146, .inl (i_go 4)),
  (149, .inl (i_il 2 150)),
  (150, .inr (.inr 1))]
noncomputable def l_61 : List (Nat × ME) := l_61_0 ++ (l_61_1 ++ (l_61_2))
noncomputable def l_62 : List (Nat × ME) := [(0, .inl (i_c 0 1)),
  (1, .inl (i_is 2 2)),
  (2, .inl (i_il 2 3)),
  (3, .inl (i_c 21 5)),
  (5, .inl (i_cmp 3 23 8)),
  (8, .inl (i_al 0 9)),
  (9, .inl (i_il 1 10)),
  (10, .inr (.inl (false, 2, [(7, 61)], 13))),
  (13, .inl (i_z 1 17 16)),
  (16, .inr (.inr 3)),
  (17, .inl (i_ii 2 1 20)),
  (20, .inl (i_go 2)),
  (23, .inr (.inr 3))]
noncomputable def l_63_0 : List (Nat × ME) := [(0, .inl (i_c 0 1)),
  (1, .inl (i_is 1 2)),
  (2, .inl (i_il 1 3)),
  (3, .inl (i_al 0 4)),
  (4, .inl (i_get [7] 2 7)),
  (7, .inl (i_cmp 3 189 10)),
  (10, .inl (i_al 0 11)),
  (11, .inl (i_get [7] 5 14)),
  (14, .inl (i_il 1 15)),
  (15, .inl (i_ld [20, 30] 16)),
  (16, .inl (i_c 3 17)),
  (17, .inl (i_cmp 1 66 20)),
  (20, .inl (i_al 0 21)),
  (21, .inl (i_get [7] 7 24)),
  (24, .inl (i_c 4 25)),
  (25, .inl (i_il 1 26)),
  (26, .inl (i_bin (fun a b => a * b) 27)),
  (27, .inl (i_ld [20, 30] 28)),
  (28, .inl (i_c 9 30)),
  (30, .inl (i_cmp 1 66 33)),
  (33, .inl (i_al 0 34)),
  (34, .inl (i_al 0 35)),
  (35, .inl (i_get [7] 8 38)),
  (38, .inl (i_c 4 39)),
  (39, .inl (i_il 1 40)),
  (40, .inl (i_bin (fun a b => a * b) 41)),
  (41, .inl (i_ld [20, 30] 42)),
  (42, .inr (.inl (false, 2, [(7, 57)], 45))),
  (45, .inl (i_z 1 66 48)),
  (48, .inl (i_al 0 49))]
noncomputable def l_63_1 : List (Nat × ME) := [(49, .inl (i_get [7] 7 52)),
  (52, .inl (i_c 4 53)),
  (53, .inl (i_il 1 54)),
  (54, .inl (i_bin (fun a b => a * b) 55)),
  (55, .inl (i_c 0 56)),
  (56, .inl (i_ist 57)),
  (57, .inl (i_al 0 58)),
  (58, .inl (i_get [7] 8 61)),
  (61, .inl (i_c 4 62)),
  (62, .inl (i_il 1 63)),
  (63, .inl (i_bin (fun a b => a * b) 64)),
  (64, .inl (i_c 0 65)),
  (65, .inl (i_ist 66)),
  (66, .inl (i_al 0 67)),
  (67, .inl (i_get [7] 5 70)),
  (70, .inl (i_il 1 71)),
  (71, .inl (i_ld [20, 30] 72)),
  (72, .inl (i_c 4 73)),
  (73, .inl (i_cmp 1 183 76)),
  (76, .inl (i_c 0 77)),
  (77, .inl (i_is 2 78)),
  (78, .inl (i_c 0 79)),
  (79, .inl (i_is 3 80)),
  (80, .inl (i_il 3 81)),
  (81, .inl (i_al 0 82)),
  (82, .inl (i_get [7] 6 85)),
  (85, .inl (i_il 1 86)),
  (86, .inl (i_ld [20, 30] 87)),
  (87, .inl (i_cmp 3 176 90)),
  (90, .inl (i_al 0 91))]
noncomputable def l_63_2 : List (Nat × ME) := [(91, .inl (i_al 0 92)),
  (92, .inl (i_get [7] 9 95)),
  (95, .inl (i_c 4 96)),
  (96, .inl (i_il 1 97)),
  (97, .inl (i_bin (fun a b => a * b) 98)),
  (98, .inl (i_il 3 99)),
  (99, .inl (i_bin (fun a b => a + b) 100)),
  (100, .inl (i_ld [20, 30] 101)),
  (101, .inr (.inl (false, 2, [(7, 57)], 104))),
  (104, .inl (i_z 0 170 107)),
  (107, .inl (i_al 0 108)),
  (108, .inl (i_get [7] 9 111)),
  (111, .inl (i_c 4 112)),
  (112, .inl (i_il 1 113)),
  (113, .inl (i_bin (fun a b => a * b) 114)),
  (114, .inl (i_il 2 115)),
  (115, .inl (i_bin (fun a b => a + b) 116)),
  (116, .inl (i_al 0 117)),
  (117, .inl (i_get [7] 9 120)),
  (120, .inl (i_c 4 121)),
  (121, .inl (i_il 1 122)),
  (122, .inl (i_bin (fun a b => a * b) 123)),
  (123, .inl (i_il 3 124)),
  (124, .inl (i_bin (fun a b => a + b) 125)),
  (125, .inl (i_ld [20, 30] 126)),
  (126, .inl (i_ist 127)),
  (127, .inl (i_al 0 128)),
  (128, .inl (i_get [7] 7 131)),
  (131, .inl (i_c 4 132)),
  (132, .inl (i_il 1 133))]
noncomputable def l_63_3 : List (Nat × ME) := [(133, .inl (i_bin (fun a b => a * b) 134)),
  (134, .inl (i_il 2 135)),
  (135, .inl (i_bin (fun a b => a + b) 136)),
  (136, .inl (i_al 0 137)),
  (137, .inl (i_get [7] 7 140)),
  (140, .inl (i_c 4 141)),
  (141, .inl (i_il 1 142)),
  (142, .inl (i_bin (fun a b => a * b) 143)),
  (143, .inl (i_il 3 144)),
  (144, .inl (i_bin (fun a b => a + b) 145)),
  (145, .inl (i_ld [20, 30] 146)),
  (146, .inl (i_ist 147)),
  (147, .inl (i_al 0 148)),
  (148, .inl (i_get [7] 8 151)),
  (151, .inl (i_c 4 152)),
  (152, .inl (i_il 1 153)),
  (153, .inl (i_bin (fun a b => a * b) 154)),
  (154, .inl (i_il 2 155)),
  (155, .inl (i_bin (fun a b => a + b) 156)),
  (156, .inl (i_al 0 157)),
  (157, .inl (i_get [7] 8 160)),
  (160, .inl (i_c 4 161)),
  (161, .inl (i_il 1 162)),
  (162, .inl (i_bin (fun a b => a * b) 163)),
  (163, .inl (i_il 3 164)),
  (164, .inl (i_bin (fun a b => a + b) 165)),
  (165, .inl (i_ld [20, 30] 166)),
  (166, .inl (i_ist 167)),
  (167, .inl (i_ii 2 1 170)),
  (170, .inl (i_ii 3 1 173))]
noncomputable def l_63_4 : List (Nat × ME) := [(173, .inl (i_go 80)),
  (176, .inl (i_al 0 177)),
  (177, .inl (i_get [7] 6 180)),
  (180, .inl (i_il 1 181)),
  (181, .inl (i_il 2 182)),
  (182, .inl (i_ist 183)),
  (183, .inl (i_ii 1 1 186)),
  (186, .inl (i_go 2)),
  (189, .inr (.inr 3))]
noncomputable def l_63 : List (Nat × ME) := l_63_0 ++ (l_63_1 ++ (l_63_2 ++ (l_63_3 ++ (l_63_4))))
noncomputable def l_64_0 : List (Nat × ME) := [(0, .inl (i_c 0 1)),
  (1, .inl (i_is 1 2)),
  (2, .inl (i_c 0 3)),
  (3, .inl (i_is 2 4)),
  (4, .inl (i_il 2 5)),
  (5, .inl (i_al 0 6)),
  (6, .inl (i_get [7] 11 9)),
  (9, .inl (i_cmp 3 101 12)),
  (12, .inl (i_al 0 13)),
  (13, .inl (i_al 0 14)),
  (14, .inl (i_get [7] 12 17)),
  (17, .inl (i_il 2 18)),
  (18, .inl (i_ld [20, 30] 19)),
  (19, .inr (.inl (false, 2, [(7, 57)], 22))),
  (22, .inl (i_z 0 55 25)),
  (25, .inl (i_al 0 26)),
  (26, .inl (i_get [7] 12 29)),
  (29, .inl (i_il 1 30)),
  (30, .inl (i_al 0 31)),
  (31, .inl (i_get [7] 12 34)),
  (34, .inl (i_il 2 35)),
  (35, .inl (i_ld [20, 30] 36)),
  (36, .inl (i_ist 37)),
  (37, .inl (i_al 0 38)),
  (38, .inl (i_get [7] 13 41)),
  (41, .inl (i_il 1 42)),
  (42, .inl (i_al 0 43)),
  (43, .inl (i_get [7] 13 46)),
  (46, .inl (i_il 2 47)),
  (47, .inl (i_ld [20, 30] 48))]
noncomputable def l_64_1 : List (Nat × ME) := [(48, .inl (i_ist 49)),
  (49, .inl (i_ii 1 1 52)),
  (52, .inl (i_go 95)),
  (55, .inl (i_al 0 56)),
  (56, .inl (i_get [7] 15 59)),
  (59, .inl (i_al 0 60)),
  (60, .inl (i_get [7] 14 63)),
  (63, .inl (i_al 0 64)),
  (64, .inl (i_get [7] 12 67)),
  (67, .inl (i_il 2 68)),
  (68, .inl (i_ld [20, 30] 69)),
  (69, .inl (i_ist 70)),
  (70, .inl (i_al 0 71)),
  (71, .inl (i_get [7] 16 74)),
  (74, .inl (i_al 0 75)),
  (75, .inl (i_get [7] 14 78)),
  (78, .inl (i_al 0 79)),
  (79, .inl (i_get [7] 13 82)),
  (82, .inl (i_il 2 83)),
  (83, .inl (i_ld [20, 30] 84)),
  (84, .inl (i_ist 85)),
  (85, .inl (i_al 0 86)),
  (86, .inl (i_dup 87)),
  (87, .inl (i_get [7] 14 90)),
  (90, .inl (i_c 1 91)),
  (91, .inl (i_bin (fun a b => a + b) 92)),
  (92, .inl (i_put [7] 14 0 95)),
  (95, .inl (i_ii 2 1 98)),
  (98, .inl (i_go 4)),
  (101, .inl (i_al 0 102))]
noncomputable def l_64_2 : List (Nat × ME) := [(102, .inl (i_il 1 103)),
  (103, .inl (i_put [7] 11 0 106)),
  (106, .inr (.inr 3))]
noncomputable def l_64 : List (Nat × ME) := l_64_0 ++ (l_64_1 ++ (l_64_2))
noncomputable def l_65_0 : List (Nat × ME) := [(0, .inl (i_c 0 1)),
  (1, .inl (i_is 1 2)),
  (2, .inl (i_c 0 3)),
  (3, .inl (i_is 2 4)),
  (4, .inl (i_il 2 5)),
  (5, .inl (i_al 0 6)),
  (6, .inl (i_get [7] 2 9)),
  (9, .inl (i_cmp 3 139 12)),
  (12, .inl (i_al 0 13)),
  (13, .inl (i_get [7] 10 16)),
  (16, .inl (i_il 2 17)),
  (17, .inl (i_ld [21] 18)),
  (18, .inl (i_z 0 133 21)),
  (21, .inl (i_al 0 22)),
  (22, .inl (i_get [7] 4 25)),
  (25, .inl (i_il 1 26)),
  (26, .inl (i_al 0 27)),
  (27, .inl (i_get [7] 4 30)),
  (30, .inl (i_il 2 31)),
  (31, .inl (i_ld [20, 30] 32)),
  (32, .inl (i_ist 33)),
  (33, .inl (i_al 0 34)),
  (34, .inl (i_get [7] 5 37)),
  (37, .inl (i_il 1 38)),
  (38, .inl (i_al 0 39)),
  (39, .inl (i_get [7] 5 42)),
  (42, .inl (i_il 2 43)),
  (43, .inl (i_ld [20, 30] 44)),
  (44, .inl (i_ist 45)),
  (45, .inl (i_al 0 46))]
noncomputable def l_65_1 : List (Nat × ME) := [(46, .inl (i_get [7] 6 49)),
  (49, .inl (i_il 1 50)),
  (50, .inl (i_al 0 51)),
  (51, .inl (i_get [7] 6 54)),
  (54, .inl (i_il 2 55)),
  (55, .inl (i_ld [20, 30] 56)),
  (56, .inl (i_ist 57)),
  (57, .inl (i_c 0 58)),
  (58, .inl (i_is 3 59)),
  (59, .inl (i_il 3 60)),
  (60, .inl (i_c 4 61)),
  (61, .inl (i_cmp 3 130 64)),
  (64, .inl (i_al 0 65)),
  (65, .inl (i_get [7] 7 68)),
  (68, .inl (i_c 4 69)),
  (69, .inl (i_il 1 70)),
  (70, .inl (i_bin (fun a b => a * b) 71)),
  (71, .inl (i_il 3 72)),
  (72, .inl (i_bin (fun a b => a + b) 73)),
  (73, .inl (i_al 0 74)),
  (74, .inl (i_get [7] 7 77)),
  (77, .inl (i_c 4 78)),
  (78, .inl (i_il 2 79)),
  (79, .inl (i_bin (fun a b => a * b) 80)),
  (80, .inl (i_il 3 81)),
  (81, .inl (i_bin (fun a b => a + b) 82)),
  (82, .inl (i_ld [20, 30] 83)),
  (83, .inl (i_ist 84)),
  (84, .inl (i_al 0 85)),
  (85, .inl (i_get [7] 8 88))]
noncomputable def l_65_2 : List (Nat × ME) := [(88, .inl (i_c 4 89)),
  (89, .inl (i_il 1 90)),
  (90, .inl (i_bin (fun a b => a * b) 91)),
  (91, .inl (i_il 3 92)),
  (92, .inl (i_bin (fun a b => a + b) 93)),
  (93, .inl (i_al 0 94)),
  (94, .inl (i_get [7] 8 97)),
  (97, .inl (i_c 4 98)),
  (98, .inl (i_il 2 99)),
  (99, .inl (i_bin (fun a b => a * b) 100)),
  (100, .inl (i_il 3 101)),
  (101, .inl (i_bin (fun a b => a + b) 102)),
  (102, .inl (i_ld [20, 30] 103)),
  (103, .inl (i_ist 104)),
  (104, .inl (i_al 0 105)),
  (105, .inl (i_get [7] 9 108)),
  (108, .inl (i_c 4 109)),
  (109, .inl (i_il 1 110)),
  (110, .inl (i_bin (fun a b => a * b) 111)),
  (111, .inl (i_il 3 112)),
  (112, .inl (i_bin (fun a b => a + b) 113)),
  (113, .inl (i_al 0 114)),
  (114, .inl (i_get [7] 9 117)),
  (117, .inl (i_c 4 118)),
  (118, .inl (i_il 2 119)),
  (119, .inl (i_bin (fun a b => a * b) 120)),
  (120, .inl (i_il 3 121)),
  (121, .inl (i_bin (fun a b => a + b) 122)),
  (122, .inl (i_ld [20, 30] 123)),
  (123, .inl (i_ist 124))]
noncomputable def l_65_3 : List (Nat × ME) := [(124, .inl (i_ii 3 1 127)),
  (127, .inl (i_go 59)),
  (130, .inl (i_ii 1 1 133)),
  (133, .inl (i_ii 2 1 136)),
  (136, .inl (i_go 4)),
  (139, .inl (i_al 0 140)),
  (140, .inl (i_get [7] 2 143)),
  (143, .inl (i_il 1 144)),
  (144, .inl (i_bin (fun a b => a - b) 145)),
  (145, .inl (i_is 2 146)),
  (146, .inl (i_al 0 147)),
  (147, .inl (i_il 1 148)),
  (148, .inl (i_put [7] 2 0 151)),
  (151, .inl (i_il 2 152)),
  (152, .inr (.inr 0))]
noncomputable def l_65 : List (Nat × ME) := l_65_0 ++ (l_65_1 ++ (l_65_2 ++ (l_65_3)))
noncomputable def l_66_0 : List (Nat × ME) := [(0, .inl (i_al 0 1)),
  (1, .inl (i_dup 2)),
  (2, .inl (i_get [7] 17 5)),
  (5, .inl (i_c 1 6)),
  (6, .inl (i_bin (fun a b => a + b) 7)),
  (7, .inl (i_put [7] 17 0 10)),
  (10, .inl (i_c 0 11)),
  (11, .inl (i_is 1 12)),
  (12, .inl (i_il 1 13)),
  (13, .inl (i_al 0 14)),
  (14, .inl (i_get [7] 2 17)),
  (17, .inl (i_cmp 3 33 20)),
  (20, .inl (i_al 0 21)),
  (21, .inl (i_get [7] 10 24)),
  (24, .inl (i_il 1 25)),
  (25, .inl (i_c 0 26)),
  (26, .inl (i_zst 27)),
  (27, .inl (i_ii 1 1 30)),
  (30, .inl (i_go 12)),
  (33, .inl (i_al 0 34)),
  (34, .inr (.inl (false, 1, [(7, 59)], 37))),
  (37, .inl (i_al 0 38)),
  (38, .inl (i_c 0 39)),
  (39, .inr (.inl (false, 2, [(7, 62)], 42))),
  (42, .inl (i_al 0 43)),
  (43, .inr (.inl (false, 1, [(7, 63)], 46))),
  (46, .inl (i_al 0 47)),
  (47, .inr (.inl (false, 1, [(7, 64)], 50))),
  (50, .inl (i_al 0 51)),
  (51, .inr (.inl (false, 1, [(7, 60)], 54)))]
noncomputable def l_66_1 : List (Nat × ME) := [(54, .inl (i_al 0 55)),
  (55, .inl (i_c 1 56)),
  (56, .inr (.inl (false, 2, [(7, 62)], 59))),
  (59, .inl (i_al 0 60)),
  (60, .inr (.inl (false, 1, [(7, 65)], 63))),
  (63, .inr (.inr 0))]
noncomputable def l_66 : List (Nat × ME) := l_66_0 ++ (l_66_1)
noncomputable def l_67 : List (Nat × ME) := [(0, .inl (i_il 1 1)),
  (1, .inr (.inl (true, 1, [(0, 37)], 4))),
  (4, .inl (i_z 1 9 7)),
  (7, .inl (i_c (-1) 8)),
  (8, .inr (.inr 0)),
  (9, .inl (i_al 0 10)),
  (10, .inl (i_il 1 11)),
  (11, .inr (.inl (false, 2, [(7, 39)], 14))),
  (14, .inl (i_is 2 15)),
  (15, .inl (i_il 2 16)),
  (16, .inl (i_z 2 28 19)),
  (19, .inl (i_al 0 20)),
  (20, .inl (i_get [7] 5 23)),
  (23, .inl (i_il 2 24)),
  (24, .inl (i_ld [20, 30] 25)),
  (25, .inl (i_go 34)),
  (28, .inl (i_al 0 29)),
  (29, .inl (i_get [7] 0 32)),
  (32, .inl (i_il 1 33)),
  (33, .inl (i_ld [20, 30] 34)),
  (34, .inr (.inr 0))]
noncomputable def l_68 : List (Nat × ME) := [(0, .inl (i_il 1 1)),
  (1, .inr (.inl (true, 1, [(0, 37)], 4))),
  (4, .inl (i_z 0 26 7)),
  (7, .inl (i_al 0 8)),
  (8, .inl (i_get [7] 0 11)),
  (11, .inl (i_il 1 12)),
  (12, .inl (i_ld [20, 30] 13)),
  (13, .inl (i_c 1 14)),
  (14, .inl (i_cmp 1 26 17)),
  (17, .inl (i_al 0 18)),
  (18, .inl (i_get [7] 1 21)),
  (21, .inl (i_il 1 22)),
  (22, .inl (i_ld [20, 30] 23)),
  (23, .inl (i_go 27)),
  (26, .inl (i_c 0 27)),
  (27, .inr (.inr 0))]
noncomputable def l_69 : List (Nat × ME) := [(0, .inl (i_al 0 1)),
  (1, .inl (i_il 1 2)),
  (2, .inr (.inl (false, 2, [(7, 39)], 5))),
  (5, .inl (i_z 2 17 8)),
  (8, .inl (i_al 0 9)),
  (9, .inl (i_get [7] 1 12)),
  (12, .inl (i_il 1 13)),
  (13, .inl (i_ld [20, 30] 14)),
  (14, .inl (i_go 18)),
  (17, .inl (i_c 0 18)),
  (18, .inr (.inr 0))]
noncomputable def l_70 : List (Nat × ME) := [(0, .inl (i_al 0 1)),
  (1, .inl (i_il 1 2)),
  (2, .inr (.inl (false, 2, [(7, 39)], 5))),
  (5, .inl (i_is 2 6)),
  (6, .inl (i_il 2 7)),
  (7, .inl (i_z 3 14 10)),
  (10, .inl (i_c (-1) 11)),
  (11, .inl (i_go 19)),
  (14, .inl (i_al 0 15)),
  (15, .inl (i_il 2 16)),
  (16, .inr (.inl (false, 2, [(7, 45)], 19))),
  (19, .inr (.inr 0))]
noncomputable def l_71_0 : List (Nat × ME) := [(0, .inl (i_al 0 1)),
  (1, .inl (i_il 1 2)),
  (2, .inr (.inl (false, 2, [(7, 39)], 5))),
  (5, .inl (i_is 2 6)),
  (6, .inl (i_il 2 7)),
  (7, .inl (i_z 3 12 10)),
  (10, .inl (i_c (-1) 11)),
  (11, .inr (.inr 0)),
  (12, .inl (i_al 0 13)),
  (13, .inl (i_get [7] 5 16)),
  (16, .inl (i_il 2 17)),
  (17, .inl (i_ld [20, 30] 18)),
  (18, .inl (i_c 3 19)),
  (19, .inl (i_cmp 1 43 22)),
  (22, .inl (i_al 0 23)),
  (23, .inl (i_get [7] 7 26)),
  (26, .inl (i_c 4 27)),
  (27, .inl (i_il 2 28)),
  (28, .inl (i_bin (fun a b => a * b) 29)),
  (29, .inl (i_ld [20, 30] 30)),
  (30, .inl (i_c 9 32)),
  (32, .inl (i_cmp 1 39 35)),
  (35, .inl (i_c 1 36)),
  (36, .inl (i_go 49)),
  (39, .inl (i_c 0 40)),
  (40, .inl (i_go 49)),
  (43, .inl (i_al 0 44)),
  (44, .inl (i_get [7] 6 47)),
  (47, .inl (i_il 2 48)),
  (48, .inl (i_ld [20, 30] 49))]
noncomputable def l_71_1 : List (Nat × ME) := [(49, .inr (.inr 0))]
noncomputable def l_71 : List (Nat × ME) := l_71_0 ++ (l_71_1)
noncomputable def l_72 : List (Nat × ME) := [(0, .inl (i_al 0 1)),
  (1, .inl (i_al 0 2)),
  (2, .inl (i_get [7] 2 5)),
  (5, .inr (.inl (false, 2, [(7, 45)], 8))),
  (8, .inr (.inr 0))]
noncomputable def l_73 : List (Nat × ME) := [(0, .inl (i_al 0 1)),
  (1, .inl (i_get [7] 14 4)),
  (4, .inr (.inr 0))]
noncomputable def l_74 : List (Nat × ME) := [(0, .inl (i_al 0 1)),
  (1, .inl (i_get [7] 17 4)),
  (4, .inr (.inr 0))]
noncomputable def l_75 : List (Nat × ME) := [(0, .inl (i_al 0 1)),
  (1, .inr (.inl (false, 1, [(2, 93), (3, 93), (4, 93), (5, 93)], 4))),
  (4, .inl (i_al 0 5)),
  (5, .inl (i_il 1 6)),
  (6, .inl (i_put [2] 0 0 9)),
  (9, .inr (.inr 3))]
noncomputable def l_76 : List (Nat × ME) := [(0, .inl (i_c 1 1)),
  (1, .inr (.inr 0))]
noncomputable def l_77 : List (Nat × ME) := [(0, .inl (i_al 0 1)),
  (1, .inl (i_obj 4)),
  (4, .inl (i_al 0 5)),
  (5, .inl (i_il 1 6)),
  (6, .inl (i_newa 22 (.inr none) 9)),
  (9, .inl (i_put [6] 0 2 12)),
  (12, .inr (.inr 3))]
noncomputable def l_78 : List (Nat × ME) := [(0, .inl (i_al 0 1)),
  (1, .inl (i_get [6] 1 4)),
  (4, .inr (.inr 0))]
noncomputable def l_79 : List (Nat × ME) := [(0, .inl (i_il 1 1)),
  (1, .inl (i_z 2 21 4)),
  (4, .inl (i_il 1 5)),
  (5, .inl (i_al 0 6)),
  (6, .inl (i_get [6] 1 9)),
  (9, .inl (i_cmp 3 21 12)),
  (12, .inl (i_al 0 13)),
  (13, .inl (i_get [6] 0 16)),
  (16, .inl (i_il 1 17)),
  (17, .inl (i_ld [22, 23] 18)),
  (18, .inl (i_go 22)),
  (21, .inl (i_n 22)),
  (22, .inr (.inr 2))]
noncomputable def l_80 : List (Nat × ME) := [(0, .inl (i_al 0 1)),
  (1, .inl (i_get [6] 1 4)),
  (4, .inl (i_al 0 5)),
  (5, .inl (i_get [6] 0 8)),
  (8, .inl (i_len 9)),
  (9, .inl (i_cmp 3 32 12)),
  (12, .inl (i_al 0 13)),
  (13, .inl (i_get [6] 0 16)),
  (16, .inl (i_al 0 17)),
  (17, .inl (i_get [6] 1 20)),
  (20, .inl (i_al 1 21)),
  (21, .inl (i_ast [(22, [3, 4, 5]), (23, [2, 3, 4, 5])] 22)),
  (22, .inl (i_al 0 23)),
  (23, .inl (i_dup 24)),
  (24, .inl (i_get [6] 1 27)),
  (27, .inl (i_c 1 28)),
  (28, .inl (i_bin (fun a b => a + b) 29)),
  (29, .inl (i_put [6] 1 0 32)),
  (32, .inr (.inr 3))]
noncomputable def l_81_0 : List (Nat × ME) := [(0, .inl (i_al 0 1)),
  (1, .inl (i_get [6] 1 4)),
  (4, .inl (i_z 1 9 7)),
  (7, .inl (i_n 8)),
  (8, .inr (.inr 2)),
  (9, .inl (i_al 0 10)),
  (10, .inl (i_get [6] 0 13)),
  (13, .inl (i_c 0 14)),
  (14, .inl (i_ld [22, 23] 15)),
  (15, .inl (i_as 1 16)),
  (16, .inl (i_c 1 17)),
  (17, .inl (i_is 2 18)),
  (18, .inl (i_il 2 19)),
  (19, .inl (i_al 0 20)),
  (20, .inl (i_get [6] 1 23)),
  (23, .inl (i_cmp 3 46 26)),
  (26, .inl (i_al 0 27)),
  (27, .inl (i_get [6] 0 30)),
  (30, .inl (i_il 2 31)),
  (31, .inl (i_c 1 32)),
  (32, .inl (i_bin (fun a b => a - b) 33)),
  (33, .inl (i_al 0 34)),
  (34, .inl (i_get [6] 0 37)),
  (37, .inl (i_il 2 38)),
  (38, .inl (i_ld [22, 23] 39)),
  (39, .inl (i_ast [(22, [3, 4, 5]), (23, [2, 3, 4, 5])] 40)),
  (40, .inl (i_ii 2 1 43)),
  (43, .inl (i_go 18)),
  (46, .inl (i_al 0 47)),
  (47, .inl (i_dup 48))]
noncomputable def l_81_1 : List (Nat × ME) := [(48, .inl (i_get [6] 1 51)),
  (51, .inl (i_c 1 52)),
  (52, .inl (i_bin (fun a b => a - b) 53)),
  (53, .inl (i_put [6] 1 0 56)),
  (56, .inl (i_al 1 57)),
  (57, .inr (.inr 2))]
noncomputable def l_81 : List (Nat × ME) := l_81_0 ++ (l_81_1)
noncomputable def l_82 : List (Nat × ME) := [(0, .inl (i_c 0 1)),
  (1, .inl (i_is 1 2)),
  (2, .inl (i_il 1 3)),
  (3, .inl (i_al 0 4)),
  (4, .inl (i_get [6] 1 7)),
  (7, .inl (i_cmp 3 26 10)),
  (10, .inl (i_al 0 11)),
  (11, .inl (i_get [6] 0 14)),
  (14, .inl (i_il 1 15)),
  (15, .inl (i_ld [22, 23] 16)),
  (16, .inr (.inl (true, 1, [(0, 35)], 19))),
  (19, .inl (i_pop 20)),
  (20, .inl (i_ii 1 1 23)),
  (23, .inl (i_go 2)),
  (26, .inr (.inr 3))]
noncomputable def l_83_0 : List (Nat × ME) := [(0, .inl (i_c 0 1)),
  (1, .inl (i_is 1 2)),
  (2, .inl (i_c 0 3)),
  (3, .inl (i_is 2 4)),
  (4, .inl (i_il 2 5)),
  (5, .inl (i_al 0 6)),
  (6, .inl (i_get [6] 1 9)),
  (9, .inl (i_cmp 3 46 12)),
  (12, .inl (i_al 0 13)),
  (13, .inl (i_get [6] 0 16)),
  (16, .inl (i_il 2 17)),
  (17, .inl (i_ld [22, 23] 18)),
  (18, .inl (i_as 3 19)),
  (19, .inl (i_al 3 20)),
  (20, .inl (i_nul 40 23)),
  (23, .inl (i_al 3 24)),
  (24, .inl (i_get [3, 4, 5] 3 27)),
  (27, .inl (i_z 0 40 30)),
  (30, .inl (i_al 0 31)),
  (31, .inl (i_get [6] 0 34)),
  (34, .inl (i_il 1 35)),
  (35, .inl (i_al 3 36)),
  (36, .inl (i_ast [(22, [3, 4, 5]), (23, [2, 3, 4, 5])] 37)),
  (37, .inl (i_ii 1 1 40)),
  (40, .inl (i_ii 2 1 43)),
  (43, .inl (i_go 4)),
  (46, .inl (i_al 0 47)),
  (47, .inl (i_get [6] 1 50)),
  (50, .inl (i_il 1 51)),
  (51, .inl (i_bin (fun a b => a - b) 52))]
noncomputable def l_83_1 : List (Nat × ME) := [(52, .inl (i_is 2 53)),
  (53, .inl (i_al 0 54)),
  (54, .inl (i_il 1 55)),
  (55, .inl (i_put [6] 1 0 58)),
  (58, .inl (i_il 2 59)),
  (59, .inr (.inr 0))]
noncomputable def l_83 : List (Nat × ME) := l_83_0 ++ (l_83_1)
noncomputable def l_84 : List (Nat × ME) := [(0, .inl (i_al 0 1)),
  (1, .inl (i_il 1 2)),
  (2, .inl (i_c 8 4)),
  (4, .inr (.inl (false, 3, [(3, 92), (4, 92), (5, 92)], 7))),
  (7, .inl (i_al 0 8)),
  (8, .inl (i_c 3 9)),
  (9, .inl (i_newa 22 (.inr none) 12)),
  (12, .inl (i_put [5] 6 2 15)),
  (15, .inl (i_al 0 16)),
  (16, .inl (i_c 3 17)),
  (17, .inl (i_newa 23 (.inr none) 20)),
  (20, .inl (i_put [5] 7 2 23)),
  (23, .inr (.inr 3))]
noncomputable def l_85_0 : List (Nat × ME) := [(0, .inl (i_al 0 1)),
  (1, .inl (i_al 1 2)),
  (2, .inr (.inl (false, 2, [(5, 87)], 5))),
  (5, .inl (i_is 3 6)),
  (6, .inl (i_il 3 7)),
  (7, .inl (i_c 3 8)),
  (8, .inl (i_cmp 2 13 11)),
  (11, .inl (i_c 0 12)),
  (12, .inr (.inr 1)),
  (13, .inl (i_il 3 14)),
  (14, .inl (i_al 0 15)),
  (15, .inl (i_get [5] 8 18)),
  (18, .inl (i_cmp 1 38 21)),
  (21, .inl (i_al 0 22)),
  (22, .inl (i_get [5] 6 25)),
  (25, .inl (i_il 3 26)),
  (26, .inl (i_al 1 27)),
  (27, .inl (i_ast [(22, [3, 4, 5]), (23, [2, 3, 4, 5])] 28)),
  (28, .inl (i_al 0 29)),
  (29, .inl (i_dup 30)),
  (30, .inl (i_get [5] 8 33)),
  (33, .inl (i_c 1 34)),
  (34, .inl (i_bin (fun a b => a + b) 35)),
  (35, .inl (i_put [5] 8 0 38)),
  (38, .inl (i_al 0 39)),
  (39, .inl (i_get [5] 7 42)),
  (42, .inl (i_il 3 43)),
  (43, .inl (i_al 2 44)),
  (44, .inl (i_ast [(22, [3, 4, 5]), (23, [2, 3, 4, 5])] 45)),
  (45, .inl (i_c 1 46))]
noncomputable def l_85_1 : List (Nat × ME) := [(46, .inr (.inr 1))]
noncomputable def l_85 : List (Nat × ME) := l_85_0 ++ (l_85_1)
noncomputable def l_86 : List (Nat × ME) := [(0, .inl (i_al 0 1)),
  (1, .inl (i_al 1 2)),
  (2, .inr (.inl (false, 2, [(5, 87)], 5))),
  (5, .inl (i_is 2 6)),
  (6, .inl (i_il 2 7)),
  (7, .inl (i_al 0 8)),
  (8, .inl (i_get [5] 8 11)),
  (11, .inl (i_cmp 3 23 14)),
  (14, .inl (i_al 0 15)),
  (15, .inl (i_get [5] 7 18)),
  (18, .inl (i_il 2 19)),
  (19, .inl (i_ld [22, 23] 20)),
  (20, .inl (i_go 24)),
  (23, .inl (i_n 24)),
  (24, .inr (.inr 2))]
noncomputable def l_87 : List (Nat × ME) := [(0, .inl (i_c 0 1)),
  (1, .inl (i_is 2 2)),
  (2, .inl (i_il 2 3)),
  (3, .inl (i_al 0 4)),
  (4, .inl (i_get [5] 8 7)),
  (7, .inl (i_cmp 3 28 10)),
  (10, .inl (i_al 0 11)),
  (11, .inl (i_get [5] 6 14)),
  (14, .inl (i_il 2 15)),
  (15, .inl (i_ld [22, 23] 16)),
  (16, .inl (i_al 1 17)),
  (17, .inl (i_aeq 20 22)),
  (20, .inl (i_il 2 21)),
  (21, .inr (.inr 0)),
  (22, .inl (i_ii 2 1 25)),
  (25, .inl (i_go 2)),
  (28, .inl (i_al 0 29)),
  (29, .inl (i_get [5] 8 32)),
  (32, .inr (.inr 0))]
noncomputable def l_88 : List (Nat × ME) := [(0, .inl (i_c 4 1)),
  (1, .inr (.inr 0))]
noncomputable def l_89 : List (Nat × ME) := [(0, .inl (i_al 0 1)),
  (1, .inl (i_get [5] 8 4)),
  (4, .inr (.inr 0))]
noncomputable def l_90 : List (Nat × ME) := [(0, .inl (i_c 0 1)),
  (1, .inl (i_is 1 2)),
  (2, .inl (i_c 0 3)),
  (3, .inl (i_is 2 4)),
  (4, .inl (i_il 2 5)),
  (5, .inl (i_al 0 6)),
  (6, .inl (i_get [5] 8 9)),
  (9, .inl (i_cmp 3 50 12)),
  (12, .inl (i_al 0 13)),
  (13, .inl (i_get [5] 6 16)),
  (16, .inl (i_il 2 17)),
  (17, .inl (i_ld [22, 23] 18)),
  (18, .inl (i_as 3 19)),
  (19, .inl (i_al 3 20)),
  (20, .inl (i_nul 44 23)),
  (23, .inl (i_al 3 24)),
  (24, .inl (i_get [3, 4, 5] 3 27)),
  (27, .inl (i_z 0 44 30)),
  (30, .inl (i_al 0 31)),
  (31, .inl (i_get [5] 7 34)),
  (34, .inl (i_il 2 35)),
  (35, .inl (i_ld [22, 23] 36)),
  (36, .inr (.inl (true, 1, [(0, 35)], 39))),
  (39, .inl (i_z 0 44 42)),
  (42, .inl (i_c 1 43)),
  (43, .inl (i_is 1 44)),
  (44, .inl (i_ii 2 1 47)),
  (47, .inl (i_go 4)),
  (50, .inl (i_il 1 51)),
  (51, .inr (.inr 1))]
noncomputable def l_91_0 : List (Nat × ME) := [(0, .inl (i_c 0 1)),
  (1, .inl (i_is 1 2)),
  (2, .inl (i_c 0 3)),
  (3, .inl (i_is 2 4)),
  (4, .inl (i_il 2 5)),
  (5, .inl (i_al 0 6)),
  (6, .inl (i_get [5] 8 9)),
  (9, .inl (i_cmp 3 58 12)),
  (12, .inl (i_al 0 13)),
  (13, .inl (i_get [5] 6 16)),
  (16, .inl (i_il 2 17)),
  (17, .inl (i_ld [22, 23] 18)),
  (18, .inl (i_as 3 19)),
  (19, .inl (i_al 3 20)),
  (20, .inl (i_nul 52 23)),
  (23, .inl (i_al 3 24)),
  (24, .inl (i_get [3, 4, 5] 3 27)),
  (27, .inl (i_z 0 52 30)),
  (30, .inl (i_al 0 31)),
  (31, .inl (i_get [5] 6 34)),
  (34, .inl (i_il 1 35)),
  (35, .inl (i_al 3 36)),
  (36, .inl (i_ast [(22, [3, 4, 5]), (23, [2, 3, 4, 5])] 37)),
  (37, .inl (i_al 0 38)),
  (38, .inl (i_get [5] 7 41)),
  (41, .inl (i_il 1 42)),
  (42, .inl (i_al 0 43)),
  (43, .inl (i_get [5] 7 46)),
  (46, .inl (i_il 2 47)),
  (47, .inl (i_ld [22, 23] 48))]
noncomputable def l_91_1 : List (Nat × ME) := [(48, .inl (i_ast [(22, [3, 4, 5]), (23, [2, 3, 4, 5])] 49)),
  (49, .inl (i_ii 1 1 52)),
  (52, .inl (i_ii 2 1 55)),
  (55, .inl (i_go 4)),
  (58, .inl (i_al 0 59)),
  (59, .inl (i_il 1 60)),
  (60, .inl (i_put [5] 8 0 63)),
  (63, .inr (.inr 3))]
noncomputable def l_91 : List (Nat × ME) := l_91_0 ++ (l_91_1)
noncomputable def l_92 : List (Nat × ME) := [(0, .inl (i_al 0 1)),
  (1, .inr (.inl (false, 1, [(2, 93), (3, 93), (4, 93), (5, 93)], 4))),
  (4, .inl (i_al 0 5)),
  (5, .inl (i_il 1 6)),
  (6, .inl (i_put [3, 4, 5] 0 0 9)),
  (9, .inl (i_al 0 10)),
  (10, .inl (i_il 2 11)),
  (11, .inl (i_put [3, 4, 5] 1 0 14)),
  (14, .inr (.inr 3))]
noncomputable def l_93 : List (Nat × ME) := [(0, .inl (i_al 0 1)),
  (1, .inl (i_obj 4)),
  (4, .inr (.inr 3))]
noncomputable def l_94 : List (Nat × ME) := [(0, .inl (i_al 0 1)),
  (1, .inl (i_il 1 2)),
  (2, .inl (i_c 2 3)),
  (3, .inl (i_il 2 4)),
  (4, .inl (i_bin (fun a b => a + b) 5)),
  (5, .inr (.inl (false, 3, [(3, 92), (4, 92), (5, 92)], 8))),
  (8, .inl (i_al 0 9)),
  (9, .inl (i_il 2 10)),
  (10, .inl (i_newa 23 (.inr none) 13)),
  (13, .inl (i_put [3] 6 2 16)),
  (16, .inr (.inr 3))]
noncomputable def l_95 : List (Nat × ME) := [(0, .inl (i_il 1 1)),
  (1, .inl (i_z 2 17 4)),
  (4, .inl (i_il 1 5)),
  (5, .inl (i_al 0 6)),
  (6, .inl (i_get [3] 6 9)),
  (9, .inl (i_len 10)),
  (10, .inl (i_cmp 3 17 13)),
  (13, .inl (i_c 1 14)),
  (14, .inl (i_go 18)),
  (17, .inl (i_c 0 18)),
  (18, .inr (.inr 1))]
noncomputable def l_96 : List (Nat × ME) := [(0, .inl (i_c 2 1)),
  (1, .inr (.inr 0))]
noncomputable def l_97 : List (Nat × ME) := [(0, .inl (i_al 0 1)),
  (1, .inl (i_get [3] 6 4)),
  (4, .inl (i_len 5)),
  (5, .inr (.inr 0))]
noncomputable def l_98 : List (Nat × ME) := [(0, .inl (i_c 0 1)),
  (1, .inl (i_is 1 2)),
  (2, .inl (i_c 0 3)),
  (3, .inl (i_is 2 4)),
  (4, .inl (i_il 2 5)),
  (5, .inl (i_al 0 6)),
  (6, .inl (i_get [3] 6 9)),
  (9, .inl (i_len 10)),
  (10, .inl (i_cmp 3 33 13)),
  (13, .inl (i_al 0 14)),
  (14, .inl (i_get [3] 6 17)),
  (17, .inl (i_il 2 18)),
  (18, .inl (i_ld [22, 23] 19)),
  (19, .inr (.inl (true, 1, [(0, 35)], 22))),
  (22, .inl (i_z 0 27 25)),
  (25, .inl (i_c 1 26)),
  (26, .inl (i_is 1 27)),
  (27, .inl (i_ii 2 1 30)),
  (30, .inl (i_go 4)),
  (33, .inl (i_il 1 34)),
  (34, .inr (.inr 1))]
noncomputable def l_99 : List (Nat × ME) := [(0, .inr (.inr 3))]
noncomputable def l_100 : List (Nat × ME) := [(0, .inl (i_al 0 1)),
  (1, .inl (i_il 1 2)),
  (2, .inl (i_c 3 3)),
  (3, .inr (.inl (false, 3, [(3, 92), (4, 92), (5, 92)], 6))),
  (6, .inl (i_al 0 7)),
  (7, .inl (i_al 2 8)),
  (8, .inl (i_put [4] 6 2 11)),
  (11, .inr (.inr 3))]
noncomputable def l_101 : List (Nat × ME) := [(0, .inl (i_c 3 1)),
  (1, .inr (.inr 0))]
noncomputable def l_102 : List (Nat × ME) := [(0, .inl (i_al 0 1)),
  (1, .inl (i_get [4] 6 4)),
  (4, .inl (i_nul 7 11)),
  (7, .inl (i_c 0 8)),
  (8, .inl (i_go 12)),
  (11, .inl (i_c 1 12)),
  (12, .inr (.inr 0))]
noncomputable def l_103 : List (Nat × ME) := [(0, .inl (i_c 0 1)),
  (1, .inr (.inr 1))]
noncomputable def l_104 : List (Nat × ME) := [(0, .inl (i_al 0 1)),
  (1, .inl (i_get [4] 6 4)),
  (4, .inl (i_nul 22 7)),
  (7, .inl (i_al 0 8)),
  (8, .inl (i_get [4] 6 11)),
  (11, .inl (i_get [3, 4, 5] 3 14)),
  (14, .inl (i_z 1 22 17)),
  (17, .inl (i_al 0 18)),
  (18, .inl (i_n 19)),
  (19, .inl (i_put [4] 6 2 22)),
  (22, .inr (.inr 3))]
noncomputable def mtab (k : Nat) : List (Nat × ME) := match k with
  | 0 => l_0
  | 1 => l_1
  | 2 => l_2
  | 3 => l_3
  | 4 => l_4
  | 5 => l_5
  | 6 => l_6
  | 7 => l_7
  | 8 => l_8
  | 9 => l_9
  | 10 => l_10
  | 11 => l_11
  | 12 => l_12
  | 13 => l_13
  | 14 => l_14
  | 15 => l_15
  | 16 => l_16
  | 17 => l_17
  | 18 => l_18
  | 19 => l_19
  | 20 => l_20
  | 21 => l_21
  | 22 => l_22
  | 23 => l_23
  | 24 => l_24
  | 25 => l_25
  | 26 => l_26
  | 27 => l_27
  | 28 => l_28
  | 29 => l_29
  | 30 => l_30
  | 31 => l_31
  | 32 => l_32
  | 33 => l_33
  | 34 => l_34
  | 35 => l_35
  | 36 => l_36
  | 37 => l_37
  | 38 => l_38
  | 39 => l_39
  | 40 => l_40
  | 41 => l_41
  | 42 => l_42
  | 43 => l_43
  | 44 => l_44
  | 45 => l_45
  | 46 => l_46
  | 47 => l_47
  | 48 => l_48
  | 49 => l_49
  | 50 => l_50
  | 51 => l_51
  | 52 => l_52
  | 53 => l_53
  | 54 => l_54
  | 55 => l_55
  | 56 => l_56
  | 57 => l_57
  | 58 => l_58
  | 59 => l_59
  | 60 => l_60
  | 61 => l_61
  | 62 => l_62
  | 63 => l_63
  | 64 => l_64
  | 65 => l_65
  | 66 => l_66
  | 67 => l_67
  | 68 => l_68
  | 69 => l_69
  | 70 => l_70
  | 71 => l_71
  | 72 => l_72
  | 73 => l_73
  | 74 => l_74
  | 75 => l_75
  | 76 => l_76
  | 77 => l_77
  | 78 => l_78
  | 79 => l_79
  | 80 => l_80
  | 81 => l_81
  | 82 => l_82
  | 83 => l_83
  | 84 => l_84
  | 85 => l_85
  | 86 => l_86
  | 87 => l_87
  | 88 => l_88
  | 89 => l_89
  | 90 => l_90
  | 91 => l_91
  | 92 => l_92
  | 93 => l_93
  | 94 => l_94
  | 95 => l_95
  | 96 => l_96
  | 97 => l_97
  | 98 => l_98
  | 99 => l_99
  | 100 => l_100
  | 101 => l_101
  | 102 => l_102
  | 103 => l_103
  | 104 => l_104
  | _ => []
noncomputable def mcd (k pc : Nat) : Option ME := (mtab k).lookup pc
end
section
/-! what the store says of the heap, and what every instruction needs -/
abbrev MG : Type := State × va_G × (Nat → ClassId) × Nat
/-- the words that stay when the tables are warmed -/
def stabB (w : Cond) : Bool := (w.onTables && w.keeps) || (w.onTables && match w with
  | .arrayClass _ => true
  | .methodLinkNest _ _ _ _ => true
  | .fieldLinkNest _ _ _ _ _ _ => true
  | .castable _ _ => true
  | .declares _ => true
  | _ => false)
theorem stab_warm {w : Cond} (h : stabB w = true) {s U : State} (hW : s.WarmedH U.vm) (hw : va_Nw w s) : va_Nw w U := by
  unfold stabB at h
  rcases (Bool.or_eq_true _ _).mp h with h1 | h1
  · exact word_at hW (Or.inl h1) hw
  · rw [Bool.and_eq_true] at h1
    obtain ⟨h0, h2⟩ := h1
    split at h2
    · exact word_at hW (Or.inr ⟨_, rfl⟩) hw
    · exact va_Nw.warmM hW hw
    · exact va_Nw.warmF hW hw
    · exact va_Nw.warmC hW hw
    · exact va_Nw.warmD hW hw
    · cases h2
theorem stab_tab {w : Cond} (h : stabB w = true) : w.onTables = true := by
  unfold stabB at h
  rcases (Bool.or_eq_true _ _).mp h with h1 | h1
  · rw [Bool.and_eq_true] at h1; exact h1.1
  · rw [Bool.and_eq_true] at h1; exact h1.1
def mWS : List Cond := lw_tbl.filter stabB
theorem inW {w : Cond} (i : Nat) (h : lw_tbl[i]? = some w) (hs : stabB w = true) : w ∈ mWS := List.mem_filter.mpr ⟨List.mem_of_getElem? h, hs⟩
def KW (G : MG) (s : State) : Prop := (∀ w ∈ mWS, va_Nw w s) ∧ G.1.vm.Alike s.vm ∧ (∀ q ∈ mNC, va_Nc q.1 q.2 s) ∧ ∀ E ∈ [mThing, mValue], va_AO E s
theorem KW.w {G : MG} {s : State} (h : KW G s) {A : Array Value} {w : Cond} (hw : w ∈ mWS) : w.before A s = true := va_Nw.use (stab_tab (List.mem_filter.mp hw).2) (h.1 w hw)
theorem KW.warm {G : MG} {s U : State} (h : KW G s) (hW : s.WarmedH U.vm) : KW G U := ⟨fun w hw => stab_warm (List.mem_filter.mp hw).2 hW (h.1 w hw), h.2.1.trans hW.alike, fun q hq => (h.2.2.1 q hq).moved hW.alike, fun E hE => (h.2.2.2 E hE).moved hW.alike⟩
theorem KW.same {G : MG} {s U : State} (h : KW G s) (e : s.vm = U.vm) : KW G U := ⟨fun w hw => va_Nw.same (stab_tab (List.mem_filter.mp hw).2) e (h.1 w hw), e ▸ h.2.1, fun q hq => (h.2.2.1 q hq).moved (e ▸ Vm.Alike.refl s.vm), fun E hE => (h.2.2.2 E hE).moved (e ▸ Vm.Alike.refl s.vm)⟩
def mtys (G : MG) : List (ClassId × FieldType) := [(G.2.2.1 0, .int), (G.2.2.1 1, .boolean), (G.2.2.1 2, .object mThing), (G.2.2.1 3, .object mValue)]
def K0 (G : MG) : Prop := va_K G.2.1 mcl (mtys G) G.1
theorem K0.at {G : MG} (h : K0 G) {s : State} (hw : KW G s) : va_K G.2.1 mcl (mtys G) s := va_K.moved hw.2.1 h
/-- what a cell is -/
def cellOK (G : MG) (t : Nat) (n : Int) (f : Int → MV) (a : Nat) (H : Heap) : Prop :=
  (∃ (ci : Nat) (r : vw_C), t = ci + 1 ∧ ci < 19 ∧ mcl[ci]? = some r ∧ n = (r.2.2 : Int) ∧ G.2.2.2 ≤ a ∧ t_OB a (G.2.1.1 ci) r.2.2 (G.2.1.2 ci) H (fun j => cv (f (j : Int)))) ∨
  (∃ (j N : Nat), t = 20 + j ∧ j < 4 ∧ n = (N : Int) ∧ G.2.2.2 ≤ a ∧ H[a]? = some (arrV (G.2.2.1 j) N (fun i => cv (f (i : Int))))) ∨
  (∃ (N : Nat), t = 30 ∧ n = (N : Int) ∧ ∃ scr : Cell, H[a]? = some scr ∧ G.1.isArrayOf scr .int ∧ scr.vm ≠ .unknown ∧ scr.slots.size = N ∧ ∀ j : Nat, j < N → scr.slots[j]? = some (cv (f (j : Int))))
theorem cellOK.lt {G : MG} {t : Nat} {n : Int} {f : Int → MV} {a : Nat} {H : Heap} (h : cellOK G t n f a H) : a < H.size := by
  rcases h with ⟨_, _, _, _, _, _, _, cell, h1, _⟩ | ⟨_, _, _, _, _, _, h1⟩ | ⟨_, _, _, scr, h1, _⟩ <;> exact (Array.getElem?_eq_some_iff.mp h1).1
theorem cellOK.kept {G : MG} {t : Nat} {n : Int} {f : Int → MV} {a : Nat} {H H' : Heap} (h : cellOK G t n f a H) (e : H'[a]? = H[a]?) : cellOK G t n f a H' := by
  rcases h with ⟨ci, r, h1, h2, h3, h4, h5, h6⟩ | ⟨j, N, h1, h2, h3, h4, h5⟩ | ⟨N, h1, h2, scr, h3, h4⟩
  · exact Or.inl ⟨ci, r, h1, h2, h3, h4, h5, h6.kept e⟩
  · exact Or.inr (Or.inl ⟨j, N, h1, h2, h3, h4, by rw [e]; exact h5⟩)
  · exact Or.inr (Or.inr ⟨N, h1, h2, scr, by rw [e]; exact h3, h4⟩)
def Rel (G : MG) (S : MS) (H : Heap) : Prop := H.size = zS S ∧ (∀ a k, okV (vS S a k)) ∧ (∀ a, tS S a ≠ 0 → cellOK G (tS S a) (lS S a) (vS S a) a H) ∧ (∀ a, inR (lS S a)) ∧ G.2.2.2 ≤ zS S
theorem mset_v (S : MS) (a : Nat) (k : Int) (v : MV) {b : Nat} (h : b ≠ a) : vS (mset S a k v) b = vS S b := by
  funext j
  show (if b = a ∧ j = k then v else vS S b j) = vS S b j
  rw [if_neg (fun q => h q.1)]
theorem mset_s (S : MS) (a : Nat) (k : Int) (v : MV) (j : Int) : vS (mset S a k v) a j = if j = k then v else vS S a j := by
  show (if a = a ∧ j = k then v else vS S a j) = _
  by_cases h : j = k
  · rw [if_pos ⟨rfl, h⟩, if_pos h]
  · rw [if_neg (fun q => h q.2), if_neg h]
theorem Rel.put {G : MG} {S : MS} {H H' : Heap} {a : Nat} {k : Int} {v : MV} (hR : Rel G S H) (hz : H'.size = H.size) (ho : ∀ q, q ≠ a → H'[q]? = H[q]?) (hv : okV v) (ha : cellOK G (tS S a) (lS S a) (vS (mset S a k v) a) a H') : Rel G (mset S a k v) H' := by
  obtain ⟨h1, h2, h3, h4, h5⟩ := hR
  refine ⟨hz.trans h1, fun b j => ?_, fun b hb => ?_, h4, h5⟩
  · show okV (if b = a ∧ j = k then v else vS S b j)
    split
    · exact hv
    · exact h2 b j
  · by_cases e : b = a
    · subst e; exact ha
    · rw [mset_v _ _ _ _ e]
      exact (h3 b hb).kept (ho b e)
theorem Rel.new {G : MG} {S : MS} {H H' : Heap} {t : Nat} {n : Int} {f : Int → MV} (hR : Rel G S H) (hz : H'.size = H.size + 1) (ho : ∀ q, q < H.size → H'[q]? = H[q]?) (hv : ∀ k, okV (f k)) (hn : inR n) (ha : cellOK G t n f (zS S) H') : Rel G (mnew S t n f) H' := by
  obtain ⟨h1, h2, h3, h4, h5⟩ := hR
  refine ⟨by rw [hz, h1]; rfl, fun b j => ?_, fun b hb => ?_, fun b => ?_, Nat.le_succ_of_le h5⟩
  · show okV ((if b = zS S then f else vS S b) j)
    split
    · exact hv j
    · exact h2 b j
  · by_cases e : b = zS S
    · have q : tS (mnew S t n f) b = t ∧ lS (mnew S t n f) b = n ∧ vS (mnew S t n f) b = f := ⟨if_pos e, if_pos e, if_pos e⟩
      rw [q.1, q.2.1, q.2.2, e]
      exact ha
    · have q : tS (mnew S t n f) b = tS S b ∧ lS (mnew S t n f) b = lS S b ∧ vS (mnew S t n f) b = vS S b := ⟨if_neg e, if_neg e, if_neg e⟩
      rw [q.1] at hb
      rw [q.1, q.2.1, q.2.2]
      have hc := h3 b hb
      exact hc.kept (ho b hc.lt)
  · show inR (if b = zS S then n else lS S b)
    split
    · exact hn
    · exact h4 b
-- the locals
def lvl (L : ML) : List (Nat × Value) := (List.range L.length).filterMap fun i => (L[i]?).bind fun x => x.map fun v => (i, cv v)
theorem mem_lvl {L : ML} {i : Nat} {v : MV} (h : L[i]? = some (some v)) : (i, cv v) ∈ lvl L := by
  refine List.mem_filterMap.mpr ⟨i, List.mem_range.mpr (List.getElem?_eq_some_iff.mp h).1, ?_⟩
  rw [h]; rfl
theorem lvl_mem {L : ML} {q : Nat × Value} (h : q ∈ lvl L) : ∃ v, L[q.1]? = some (some v) ∧ q.2 = cv v := by
  obtain ⟨i, -, hi⟩ := List.mem_filterMap.mp h
  cases hx : L[i]? with
  | none => rw [hx] at hi; cases hi
  | some x =>
    rw [hx] at hi
    cases x with
    | none => cases hi
    | some v =>
      have e : q = (i, cv v) := (Option.some.inj hi).symm
      subst e
      exact ⟨v, hx, rfl⟩
def LR (nL : Nat) (ls : Array Slot) (L : ML) : Prop := lv_has ls nL (lvl L) ∧ L.length = nL ∧ ∀ v, some v ∈ L → okV v
theorem cv_cat (v : MV) : (cv v).category = 1 := by
  rcases v with e | _ | a <;> rfl
theorem LR.get {nL : Nat} {ls : Array Slot} {L : ML} (h : LR nL ls L) {i : Nat} {v : MV} (hi : L[i]? = some (some v)) : ls[i]? = some (.val (cv v)) ∧ okV v := ⟨h.1.2.2 _ (mem_lvl hi), h.2.2 v (List.mem_of_getElem? hi)⟩
theorem LR.set {nL : Nat} {ls' : Array Slot} {L : ML} {i : Nat} {v : MV} (h2 : L.length = nL) (h3 : ∀ v, some v ∈ L → okV v) (hv : okV v) (h : lv_has ls' nL ((i, cv v) :: (lvl L).filter (fun q => !(q.1 == i) && !(q.1 + 1 == i && q.2.category == 2)))) : LR nL ls' (L.set i (some v)) := by
  refine ⟨⟨h.1, h.2.1, fun q hq => ?_⟩, by rw [List.length_set]; exact h2, fun w hw => ?_⟩
  · obtain ⟨w, e1, e2⟩ := lvl_mem hq
    by_cases e : q.1 = i
    · rw [e] at e1
      have hl : i < L.length := by
        have := (List.getElem?_eq_some_iff.mp e1).1
        rwa [List.length_set] at this
      rw [List.getElem?_set_self hl] at e1
      have e3 : v = w := Option.some.inj (Option.some.inj e1)
      refine h.2.2 q (List.mem_cons.mpr (Or.inl ?_))
      rw [e3]
      exact Prod.ext e e2
    · rw [List.getElem?_set_ne (Ne.symm e)] at e1
      refine h.2.2 q (List.mem_cons.mpr (Or.inr (List.mem_filter.mpr ⟨?_, ?_⟩)))
      · have := mem_lvl e1
        rw [← e2] at this
        exact this
      · have hc : q.2.category = 1 := by rw [e2]; exact cv_cat w
        simp [e, hc]
  · rcases List.mem_or_eq_of_mem_set hw with h' | h'
    · exact h3 w h'
    · cases h'; exact hv
-- what an instruction owes
def CX (G : MG) (k : Nat) (p : Program) (s : State) (m : MethodId) (meth : Method) (c : Code) : Prop := p.tables.exec = Jvm.exec ∧ c.code = mB k ∧ c.maxLocals = mL k ∧ s.vm.findClass (mO k) = some m.cls ∧ (mN k = true → meth.name = "<init>") ∧ KW G s
def LK (G : MG) (locs : List Loc) : Prop := ∀ q ∈ locs, G.2.2.2 ≤ q.base
theorem LK.put {G : MG} {locs : List Loc} {a i : Nat} (h : LK G locs) (ha : G.2.2.2 ≤ a) : LK G (locs ++ [⟨a, i⟩]) := by
  intro q hq
  rcases List.mem_append.mp hq with h1 | h1
  · exact h q h1
  · rw [List.mem_singleton.mp h1]; exact ha
def okS (st : List MV) : Prop := ∀ v ∈ st, okV v
theorem okS.t {v : MV} {st : List MV} (h : okS (v :: st)) : okS st := fun w hw => h w (List.mem_cons_of_mem _ hw)
theorem okS.h {v : MV} {st : List MV} (h : okS (v :: st)) : okV v := h v List.mem_cons_self
theorem okS.c {v : MV} {st : List MV} (hv : okV v) (h : okS st) : okS (v :: st) := fun w hw => by
  rcases List.mem_cons.mp hw with e | e
  · rw [e]; exact hv
  · exact h w e
def SI (G : MG) (k pc : Nat) (mi : MI) : Prop :=
  ∀ (L : ML) (st : List MV) (S : MS) (pc' : Nat) (L' : ML) (st' : List MV) (S' : MS), mi L st S = some (pc', L', st', S') → (zS S ≤ zS S' ∧ qS S ≤ qS S') ∧
    ∀ (p : Program) (l : Launch) (e : Env) (R : Room) (s : State) (m : MethodId) (args : Array Value) (below : List Frame) (meth : Method) (c : Code) (H : Heap) (ls : Array Slot) (locs : List Loc) (cells slots cells' slots' : Nat) (Q : State → Prop),
      CX G k p s m meth c → 1 ≤ R.frames → 20 ≤ R.locals → Rel G S H → LR (mL k) ls L → okS st → LK G locs → cells' + zS S = cells + zS S' → slots' + qS S = slots + qS S' → cells' ≤ R.cells → slots' ≤ R.slots →
      (∀ (H' : Heap) (ls' : Array Slot) (locs' : List Loc), Rel G S' H' → LR (mL k) ls' L' → okS st' → LK G locs' → W p l e R s m args below meth c H' locs' cells' slots' Q (F0 m pc' ls' (st'.map cv))) →
      W p l e R s m args below meth c H locs cells slots Q (F0 m pc ls (st.map cv))
/-- an instruction that leaves the store -/
theorem SI.pure {G : MG} {k pc : Nat} {mi : MI} (h : ∀ (L : ML) (st : List MV) (S : MS) (pc' : Nat) (L' : ML) (st' : List MV) (S' : MS), mi L st S = some (pc', L', st', S') → S' = S ∧
    ∀ (p : Program) (l : Launch) (e : Env) (R : Room) (s : State) (m : MethodId) (args : Array Value) (below : List Frame) (meth : Method) (c : Code) (H : Heap) (ls : Array Slot) (locs : List Loc) (cells slots : Nat) (Q : State → Prop),
      CX G k p s m meth c → 1 ≤ R.frames → 20 ≤ R.locals → Rel G S H → LR (mL k) ls L → okS st →
      (∀ (ls' : Array Slot), LR (mL k) ls' L' → okS st' → W p l e R s m args below meth c H locs cells slots Q (F0 m pc' ls' (st'.map cv))) →
      W p l e R s m args below meth c H locs cells slots Q (F0 m pc ls (st.map cv))) : SI G k pc mi := by
  intro L st S pc' L' st' S' e0
  obtain ⟨rfl, hw⟩ := h L st S pc' L' st' S' e0
  refine ⟨⟨Nat.le_refl _, Nat.le_refl _⟩, fun p l e R s m args below meth c H ls locs cells slots cells' slots' Q C r1 r2 hR hL hs hlk e1 e2 _ _ kk => ?_⟩
  have e1' : cells = cells' := by omega
  have e2' : slots = slots' := by omega
  subst e1'; subst e2'
  exact hw p l e R s m args below meth c H ls locs cells slots Q C r1 r2 hR hL hs fun ls' h1 h2 => kk H ls' locs hR h1 h2 hlk
end
section
/-! each instruction is sound -/
section MINS
variable {G : MG} {k pc : Nat}
theorem ofInt_toInt {a : Int} (h : inR a) : (Int32.ofInt a).toInt = a := Int32.toInt_ofInt_of_le (by have := h.1; omega) (by have := h.2; omega)
theorem ofInt_lt {a b : Int} (ha : inR a) (hb : inR b) : Int32.ofInt a < Int32.ofInt b ↔ a < b := by
  rw [Int32.lt_iff_toInt_lt, ofInt_toInt ha, ofInt_toInt hb]
theorem ofInt_le {a b : Int} (ha : inR a) (hb : inR b) : Int32.ofInt a ≤ Int32.ofInt b ↔ a ≤ b := by
  rw [Int32.le_iff_toInt_le, ofInt_toInt ha, ofInt_toInt hb]
theorem ofInt_eq {a b : Int} (ha : inR a) (hb : inR b) : Int32.ofInt a = Int32.ofInt b ↔ a = b := by
  constructor
  · intro h
    rw [← ofInt_toInt ha, ← ofInt_toInt hb, h]
  · intro h; rw [h]
theorem ofInt_clamp {a : Int} (ha : inR a) : (Int32.ofInt a).toNatClampNeg = a.toNat := by
  show (Int32.ofInt a).toInt.toNat = a.toNat
  rw [ofInt_toInt ha]
theorem inR0 : inR 0 := by decide
theorem ofInt_0 : Int32.ofInt 0 = 0 := by decide
theorem s_iconst {e : Int} (hd : decode (mB k) pc = .ok (.iconst e, 1)) (he : inR e) : SI G k pc (i_c e (pc + 1)) := by
  refine SI.pure fun L st S pc' L' st' S' h => ?_
  simp only [i_c, Option.some.injEq, Prod.mk.injEq] at h
  obtain ⟨rfl, rfl, rfl, rfl⟩ := h
  exact ⟨rfl, fun p l e R s m args below meth c H ls locs cells slots Q C _ _ _ hL hs kk => lv_iconst C.1 C.2.1 hd rfl (kk ls hL (okS.c he hs))⟩
theorem s_bipush {e : Int} (hd : decode (mB k) pc = .ok (.bipush e, 2)) (hv : (Int8.ofInt e).toInt32 = Int32.ofInt e) (he : inR e) : SI G k pc (i_c e (pc + 2)) := by
  refine SI.pure fun L st S pc' L' st' S' h => ?_
  simp only [i_c, Option.some.injEq, Prod.mk.injEq] at h
  obtain ⟨rfl, rfl, rfl, rfl⟩ := h
  exact ⟨rfl, fun p l e R s m args below meth c H ls locs cells slots Q C _ _ _ hL hs kk => lv_bipush C.1 C.2.1 hd hv (kk ls hL (okS.c he hs))⟩
theorem s_sipush {e : Int} (hd : decode (mB k) pc = .ok (.sipush e, 3)) (hv : (Int16.ofInt e).toInt32 = Int32.ofInt e) (he : inR e) : SI G k pc (i_c e (pc + 3)) := by
  refine SI.pure fun L st S pc' L' st' S' h => ?_
  simp only [i_c, Option.some.injEq, Prod.mk.injEq] at h
  obtain ⟨rfl, rfl, rfl, rfl⟩ := h
  exact ⟨rfl, fun p l e R s m args below meth c H ls locs cells slots Q C _ _ _ hL hs kk => lv_sipush C.1 C.2.1 hd hv (kk ls hL (okS.c he hs))⟩
theorem s_ldc {e : Int} {idx : Nat} (hd : decode (mB k) pc = .ok (.ldc idx, 2)) (hw : Cond.constant (mO k) idx (Int32.ofInt e) ∈ mWS) (he : inR e) : SI G k pc (i_c e (pc + 2)) := by
  refine SI.pure fun L st S pc' L' st' S' h => ?_
  simp only [i_c, Option.some.injEq, Prod.mk.injEq] at h
  obtain ⟨rfl, rfl, rfl, rfl⟩ := h
  exact ⟨rfl, fun p l e R s m args below meth c H ls locs cells slots Q C _ _ _ hL hs kk => lv_ldc C.1 C.2.1 C.2.2.2.1 (C.2.2.2.2.2.w hw) hd (kk ls hL (okS.c he hs))⟩
theorem s_null (hd : decode (mB k) pc = .ok (.aconst_null, 1)) : SI G k pc (i_n (pc + 1)) := by
  refine SI.pure fun L st S pc' L' st' S' h => ?_
  simp only [i_n, Option.some.injEq, Prod.mk.injEq] at h
  obtain ⟨rfl, rfl, rfl, rfl⟩ := h
  exact ⟨rfl, fun p l e R s m args below meth c H ls locs cells slots Q C _ _ _ hL hs kk => lv_null C.1 C.2.1 hd (kk ls hL (okS.c (show okV (.inr none) from trivial) hs))⟩
theorem il_inv {L L' : ML} {st st' : List MV} {S S' : MS} {j nx pc' : Nat} (h : i_il j nx L st S = some (pc', L', st', S')) : ∃ e, L[j]? = some (some (.inl e)) ∧ pc' = nx ∧ L' = L ∧ st' = .inl e :: st ∧ S' = S := by
  unfold i_il at h
  split at h
  · rename_i e he
    simp only [Option.some.injEq, Prod.mk.injEq] at h
    exact ⟨e, he, h.1.symm, h.2.1.symm, h.2.2.1.symm, h.2.2.2.symm⟩
  · cases h
theorem al_inv {L L' : ML} {st st' : List MV} {S S' : MS} {j nx pc' : Nat} (h : i_al j nx L st S = some (pc', L', st', S')) : ∃ r, L[j]? = some (some (.inr r)) ∧ pc' = nx ∧ L' = L ∧ st' = .inr r :: st ∧ S' = S := by
  unfold i_al at h
  split at h
  · rename_i e he
    simp only [Option.some.injEq, Prod.mk.injEq] at h
    exact ⟨e, he, h.1.symm, h.2.1.symm, h.2.2.1.symm, h.2.2.2.symm⟩
  · cases h
theorem s_iload {j : Nat} (hd : decode (mB k) pc = .ok (.iload j, 2)) : SI G k pc (i_il j (pc + 2)) := by
  refine SI.pure fun L st S pc' L' st' S' h => ?_
  obtain ⟨x, hx, rfl, rfl, rfl, rfl⟩ := il_inv h
  exact ⟨rfl, fun p l e R s m args below meth c H ls locs cells slots Q C _ _ _ hL hs kk => lv_iload C.1 C.2.1 hd (hL.get hx).1 (kk ls hL (okS.c (hL.get hx).2 hs))⟩
theorem s_iload_n {j : Fin 4} (hd : decode (mB k) pc = .ok (.iload_n j, 1)) : SI G k pc (i_il j (pc + 1)) := by
  refine SI.pure fun L st S pc' L' st' S' h => ?_
  obtain ⟨x, hx, rfl, rfl, rfl, rfl⟩ := il_inv h
  exact ⟨rfl, fun p l e R s m args below meth c H ls locs cells slots Q C _ _ _ hL hs kk => lv_iload_n C.1 C.2.1 hd rfl (hL.get hx).1 (kk ls hL (okS.c (hL.get hx).2 hs))⟩
theorem s_aload {j : Nat} (hd : decode (mB k) pc = .ok (.aload j, 2)) : SI G k pc (i_al j (pc + 2)) := by
  refine SI.pure fun L st S pc' L' st' S' h => ?_
  obtain ⟨x, hx, rfl, rfl, rfl, rfl⟩ := al_inv h
  refine ⟨rfl, fun p l e R s m args below meth c H ls locs cells slots Q C _ _ _ hL hs kk => ?_⟩
  cases x with
  | none => exact lv_aloadN C.1 C.2.1 hd (hL.get hx).1 (kk ls hL (okS.c (hL.get hx).2 hs))
  | some a => exact lv_aload C.1 C.2.1 hd (hL.get hx).1 (kk ls hL (okS.c (hL.get hx).2 hs))
theorem s_aload_n {j : Fin 4} (hd : decode (mB k) pc = .ok (.aload_n j, 1)) : SI G k pc (i_al j (pc + 1)) := by
  refine SI.pure fun L st S pc' L' st' S' h => ?_
  obtain ⟨x, hx, rfl, rfl, rfl, rfl⟩ := al_inv h
  refine ⟨rfl, fun p l e R s m args below meth c H ls locs cells slots Q C _ _ _ hL hs kk => ?_⟩
  cases x with
  | none => exact lv_aload_nN C.1 C.2.1 hd rfl (hL.get hx).1 (kk ls hL (okS.c (hL.get hx).2 hs))
  | some a => exact lv_aload_n C.1 C.2.1 hd rfl (hL.get hx).1 (kk ls hL (okS.c (hL.get hx).2 hs))
theorem is_inv {L L' : ML} {st st' : List MV} {S S' : MS} {j nx pc' : Nat} (h : i_is j nx L st S = some (pc', L', st', S')) : ∃ e, st = .inl e :: st' ∧ pc' = nx ∧ L' = L.set j (some (.inl e)) ∧ S' = S := by
  unfold i_is at h
  split at h
  · rename_i e t
    simp only [Option.some.injEq, Prod.mk.injEq] at h
    exact ⟨e, by rw [h.2.2.1], h.1.symm, h.2.1.symm, h.2.2.2.symm⟩
  · cases h
theorem as_inv {L L' : ML} {st st' : List MV} {S S' : MS} {j nx pc' : Nat} (h : i_as j nx L st S = some (pc', L', st', S')) : ∃ r, st = .inr r :: st' ∧ pc' = nx ∧ L' = L.set j (some (.inr r)) ∧ S' = S := by
  unfold i_as at h
  split at h
  · rename_i e t
    simp only [Option.some.injEq, Prod.mk.injEq] at h
    exact ⟨e, by rw [h.2.2.1], h.1.symm, h.2.1.symm, h.2.2.2.symm⟩
  · cases h
theorem s_istore {j : Nat} (hd : decode (mB k) pc = .ok (.istore j, 2)) (hj : j < mL k) : SI G k pc (i_is j (pc + 2)) := by
  refine SI.pure fun L st S pc' L' st' S' h => ?_
  obtain ⟨x, rfl, rfl, rfl, rfl⟩ := is_inv h
  exact ⟨rfl, fun p l e R s m args below meth c H ls locs cells slots Q C _ _ _ hL hs kk => lv_istore C.1 C.2.1 hd hL.1 hj rfl fun ls' h' => kk ls' (LR.set hL.2.1 hL.2.2 hs.h h') hs.t⟩
theorem s_istore_n {j : Fin 4} (hd : decode (mB k) pc = .ok (.istore_n j, 1)) (hj : (j : Nat) < mL k) : SI G k pc (i_is j (pc + 1)) := by
  refine SI.pure fun L st S pc' L' st' S' h => ?_
  obtain ⟨x, rfl, rfl, rfl, rfl⟩ := is_inv h
  exact ⟨rfl, fun p l e R s m args below meth c H ls locs cells slots Q C _ _ _ hL hs kk => lv_istore_n C.1 C.2.1 hd rfl hL.1 hj rfl fun ls' h' => kk ls' (LR.set hL.2.1 hL.2.2 hs.h h') hs.t⟩
theorem s_astore {j : Nat} (hd : decode (mB k) pc = .ok (.astore j, 2)) (hj : j < mL k) : SI G k pc (i_as j (pc + 2)) := by
  refine SI.pure fun L st S pc' L' st' S' h => ?_
  obtain ⟨x, rfl, rfl, rfl, rfl⟩ := as_inv h
  refine ⟨rfl, fun p l e R s m args below meth c H ls locs cells slots Q C _ _ _ hL hs kk => ?_⟩
  cases x with
  | none => exact lv_astoreN C.1 C.2.1 hd hL.1 hj rfl fun ls' h' => kk ls' (LR.set hL.2.1 hL.2.2 hs.h h') hs.t
  | some a => exact lv_astore C.1 C.2.1 hd hL.1 hj rfl fun ls' h' => kk ls' (LR.set hL.2.1 hL.2.2 hs.h h') hs.t
theorem s_astore_n {j : Fin 4} (hd : decode (mB k) pc = .ok (.astore_n j, 1)) (hj : (j : Nat) < mL k) : SI G k pc (i_as j (pc + 1)) := by
  refine SI.pure fun L st S pc' L' st' S' h => ?_
  obtain ⟨x, rfl, rfl, rfl, rfl⟩ := as_inv h
  refine ⟨rfl, fun p l e R s m args below meth c H ls locs cells slots Q C _ _ _ hL hs kk => ?_⟩
  cases x with
  | none => exact lv_astore_nN C.1 C.2.1 hd rfl hL.1 hj rfl fun ls' h' => kk ls' (LR.set hL.2.1 hL.2.2 hs.h h') hs.t
  | some a => exact lv_astore_n C.1 C.2.1 hd rfl hL.1 hj rfl fun ls' h' => kk ls' (LR.set hL.2.1 hL.2.2 hs.h h') hs.t
theorem s_iinc {j : Nat} {n : Int} (hd : decode (mB k) pc = .ok (.iinc j n, 3)) (hj : j < mL k) : SI G k pc (i_ii j n (pc + 3)) := by
  refine SI.pure fun L st S pc' L' st' S' h => ?_
  unfold i_ii at h
  split at h
  · rename_i x hx
    split at h
    · rename_i hr
      simp only [Option.some.injEq, Prod.mk.injEq] at h
      obtain ⟨rfl, rfl, rfl, rfl⟩ := h
      refine ⟨rfl, fun p l e R s m args below meth c H ls locs cells slots Q C _ _ _ hL hs kk => ?_⟩
      obtain ⟨q, hq⟩ := List.getElem?_of_mem (mem_lvl hx)
      exact lv_iinc (k := q) C.1 C.2.1 hd hL.1 hq (Int32.ofInt_add x n).symm hj rfl fun ls' h' => kk ls' (LR.set (v := .inl (x + n)) hL.2.1 hL.2.2 hr h') hs
    · cases h
  · cases h
theorem bin_inv {f : Int → Int → Int} {L L' : ML} {st st' : List MV} {S S' : MS} {nx pc' : Nat} (h : i_bin f nx L st S = some (pc', L', st', S')) : ∃ a b t, st = .inl b :: .inl a :: t ∧ inR (f a b) ∧ pc' = nx ∧ L' = L ∧ st' = .inl (f a b) :: t ∧ S' = S := by
  unfold i_bin at h
  split at h
  · rename_i b a t
    split at h
    · rename_i hr
      simp only [Option.some.injEq, Prod.mk.injEq] at h
      exact ⟨a, b, t, rfl, hr, h.1.symm, h.2.1.symm, h.2.2.1.symm, h.2.2.2.symm⟩
    · cases h
  · cases h
theorem s_iadd (hd : decode (mB k) pc = .ok (.iadd, 1)) : SI G k pc (i_bin (fun a b => a + b) (pc + 1)) := by
  refine SI.pure fun L st S pc' L' st' S' h => ?_
  obtain ⟨a, b, t, rfl, hr, rfl, rfl, rfl, rfl⟩ := bin_inv h
  refine ⟨rfl, fun p l e R s m args below meth c H ls locs cells slots Q C _ _ _ hL hs kk => lv_iadd C.1 C.2.1 hd ?_⟩
  have h1 := kk ls hL (okS.c (v := .inl (a + b)) hr hs.t.t)
  rw [← Int32.ofInt_add]
  exact h1
theorem s_isub (hd : decode (mB k) pc = .ok (.isub, 1)) : SI G k pc (i_bin (fun a b => a - b) (pc + 1)) := by
  refine SI.pure fun L st S pc' L' st' S' h => ?_
  obtain ⟨a, b, t, rfl, hr, rfl, rfl, rfl, rfl⟩ := bin_inv h
  refine ⟨rfl, fun p l e R s m args below meth c H ls locs cells slots Q C _ _ _ hL hs kk => lv_isub C.1 C.2.1 hd ?_⟩
  have h1 := kk ls hL (okS.c (v := .inl (a - b)) hr hs.t.t)
  rw [← Int32.ofInt_sub]
  exact h1
theorem s_imul (hd : decode (mB k) pc = .ok (.imul, 1)) : SI G k pc (i_bin (fun a b => a * b) (pc + 1)) := by
  refine SI.pure fun L st S pc' L' st' S' h => ?_
  obtain ⟨a, b, t, rfl, hr, rfl, rfl, rfl, rfl⟩ := bin_inv h
  refine ⟨rfl, fun p l e R s m args below meth c H ls locs cells slots Q C _ _ _ hL hs kk => lv_imul C.1 C.2.1 hd ?_⟩
  have h1 := kk ls hL (okS.c (v := .inl (a * b)) hr hs.t.t)
  rw [← Int32.ofInt_mul]
  exact h1
theorem and31 {a : Int} (ha : inR a) : Int32.ofInt a &&& 31 = Int32.ofInt (a % 32) := by
  rw [pk_and (Int32.ofInt a) (m := 31) 5 (by decide)]
  have h1 : (Int32.ofInt a).toBitVec.toNat = (a % 4294967296).toNat := by
    show (BitVec.ofInt 32 a).toNat = _
    rw [BitVec.toNat_ofInt]
    rfl
  rw [h1]
  unfold nI
  have h2 : (a % 32).toNat = (a % 4294967296).toNat % 2 ^ 5 := by omega
  have h3 : a % 32 = (((a % 4294967296).toNat % 2 ^ 5 : Nat) : Int) := by omega
  rw [h3]
  exact Int32.ofInt_eq_ofNat.symm
theorem s_iand (hd : decode (mB k) pc = .ok (.iand, 1)) : SI G k pc (i_and (pc + 1)) := by
  refine SI.pure fun L st S pc' L' st' S' h => ?_
  unfold i_and at h
  split at h
  · rename_i b a t
    split at h
    · rename_i hb
      simp only [Option.some.injEq, Prod.mk.injEq] at h
      obtain ⟨rfl, rfl, rfl, rfl⟩ := h
      subst hb
      refine ⟨rfl, fun p l e R s m args below meth c H ls locs cells slots Q C _ _ _ hL hs kk => lv_iand C.1 C.2.1 hd ?_⟩
      have h1 := kk ls hL (okS.c (v := .inl (a % 32)) (show inR _ from ⟨by omega, by omega⟩) hs.t.t)
      have ha : inR a := hs.t.h
      rw [show Int32.ofInt 31 = 31 by decide, and31 ha]
      exact h1
    · cases h
  · cases h
theorem s_dup (hd : decode (mB k) pc = .ok (.dup, 1)) : SI G k pc (i_dup (pc + 1)) := by
  refine SI.pure fun L st S pc' L' st' S' h => ?_
  unfold i_dup at h
  split at h
  · simp only [Option.some.injEq, Prod.mk.injEq] at h
    obtain ⟨rfl, rfl, rfl, rfl⟩ := h
    exact ⟨rfl, fun p l e R s m args below meth c H ls locs cells slots Q C _ _ _ hL hs kk => lv_dup C.1 C.2.1 hd (cv_cat _) (kk ls hL (okS.c hs.h hs))⟩
  · cases h
theorem s_pop (hd : decode (mB k) pc = .ok (.pop, 1)) : SI G k pc (i_pop (pc + 1)) := by
  refine SI.pure fun L st S pc' L' st' S' h => ?_
  unfold i_pop at h
  split at h
  · simp only [Option.some.injEq, Prod.mk.injEq] at h
    obtain ⟨rfl, rfl, rfl, rfl⟩ := h
    exact ⟨rfl, fun p l e R s m args below meth c H ls locs cells slots Q C _ _ _ hL hs kk => lv_pop C.1 C.2.1 hd (cv_cat _) (kk ls hL hs.t)⟩
  · cases h
theorem s_dup_x1 (hd : decode (mB k) pc = .ok (.dup_x1, 1)) : SI G k pc (i_dx1 (pc + 1)) := by
  refine SI.pure fun L st S pc' L' st' S' h => ?_
  unfold i_dx1 at h
  split at h
  · simp only [Option.some.injEq, Prod.mk.injEq] at h
    obtain ⟨rfl, rfl, rfl, rfl⟩ := h
    exact ⟨rfl, fun p l e R s m args below meth c H ls locs cells slots Q C _ _ _ hL hs kk => lv_dup_x1 C.1 C.2.1 hd (cv_cat _) (cv_cat _) (kk ls hL (okS.c hs.h (okS.c hs.t.h (okS.c hs.h hs.t.t))))⟩
  · cases h
theorem s_dup2 (hd : decode (mB k) pc = .ok (.dup2, 1)) : SI G k pc (i_dup2 (pc + 1)) := by
  refine SI.pure fun L st S pc' L' st' S' h => ?_
  unfold i_dup2 at h
  split at h
  · simp only [Option.some.injEq, Prod.mk.injEq] at h
    obtain ⟨rfl, rfl, rfl, rfl⟩ := h
    exact ⟨rfl, fun p l e R s m args below meth c H ls locs cells slots Q C _ _ _ hL hs kk => lv_dup2_11 C.1 C.2.1 hd (cv_cat _) (cv_cat _) (kk ls hL (okS.c hs.h (okS.c hs.t.h hs)))⟩
  · cases h
theorem z_inv {o tg nx : Nat} {L L' : ML} {st st' : List MV} {S S' : MS} {pc' : Nat} (h : i_z o tg nx L st S = some (pc', L', st', S')) : ∃ a, st = .inl a :: st' ∧ pc' = (if cmpB o a 0 then tg else nx) ∧ L' = L ∧ S' = S := by
  unfold i_z at h
  split at h
  · rename_i a t
    cases hc : cmpB o a 0 <;> (rw [hc] at h; simp only [cond, Option.some.injEq, Prod.mk.injEq] at h; exact ⟨a, by rw [h.2.2.1], by rw [hc, ← h.1]; rfl, h.2.1.symm, h.2.2.2.symm⟩)
  · cases h
theorem cmp_inv {o tg nx : Nat} {L L' : ML} {st st' : List MV} {S S' : MS} {pc' : Nat} (h : i_cmp o tg nx L st S = some (pc', L', st', S')) : ∃ a b, st = .inl b :: .inl a :: st' ∧ pc' = (if cmpB o a b then tg else nx) ∧ L' = L ∧ S' = S := by
  unfold i_cmp at h
  split at h
  · rename_i b a t
    cases hc : cmpB o a b <;> (rw [hc] at h; simp only [cond, Option.some.injEq, Prod.mk.injEq] at h; exact ⟨a, b, by rw [h.2.2.1], by rw [hc, ← h.1]; rfl, h.2.1.symm, h.2.2.2.symm⟩)
  · cases h
theorem s_if_eq {off : Int} {tg : Nat} (hd : decode (mB k) pc = .ok (.ifCond .eq off, 3)) (ht : (pc : Int) + off = (tg : Int)) : SI G k pc (i_z 0 tg (pc + 3)) := by
  refine SI.pure fun L st S pc' L' st' S' h => ?_
  obtain ⟨a, rfl, rfl, rfl, rfl⟩ := z_inv h
  refine ⟨rfl, fun p l e R s m args below meth c H ls locs cells slots Q C _ _ _ hL hs kk => ?_⟩
  have ha : inR a := hs.h
  have key : (Int32.ofInt a = Int32.ofInt 0) ↔ cmpB 0 a 0 = true := by
    rw [ofInt_eq ha inR0]
    simp [cmpB]
  have k1 := kk ls hL hs.t
  rw [ofInt_0] at key
  refine lv_if_eq C.1 C.2.1 hd ht (fun q => ?_) (fun q => ?_)
  · have q2 : cmpB 0 a 0 = true := key.mp (by first | exact q | exact Int32.not_lt.mp q | exact Int32.not_le.mp q | omega)
    rw [q2] at k1
    exact k1
  · have q2 : cmpB 0 a 0 = false := by
      cases hc : cmpB 0 a 0 with
      | false => rfl
      | true => exact absurd (key.mpr hc) (by first | exact q | exact fun z => q z | exact fun z => z q | exact Int32.not_le.mpr q | exact Int32.not_lt.mpr q)
    rw [q2] at k1
    exact k1
theorem s_icmp_eq {off : Int} {tg : Nat} (hd : decode (mB k) pc = .ok (.if_icmp .eq off, 3)) (ht : (pc : Int) + off = (tg : Int)) : SI G k pc (i_cmp 0 tg (pc + 3)) := by
  refine SI.pure fun L st S pc' L' st' S' h => ?_
  obtain ⟨a, b, rfl, rfl, rfl, rfl⟩ := cmp_inv h
  refine ⟨rfl, fun p l e R s m args below meth c H ls locs cells slots Q C _ _ _ hL hs kk => ?_⟩
  have ha : inR a := hs.t.h
  have hb : inR b := hs.h
  have key : (Int32.ofInt a = Int32.ofInt b) ↔ cmpB 0 a b = true := by
    rw [ofInt_eq ha hb]
    simp [cmpB]
  have k1 := kk ls hL hs.t.t
  refine lv_icmp_eq C.1 C.2.1 hd ht (fun q => ?_) (fun q => ?_)
  · have q2 : cmpB 0 a b = true := key.mp (by first | exact q | exact Int32.not_lt.mp q | exact Int32.not_le.mp q | omega)
    rw [q2] at k1
    exact k1
  · have q2 : cmpB 0 a b = false := by
      cases hc : cmpB 0 a b with
      | false => rfl
      | true => exact absurd (key.mpr hc) (by first | exact q | exact fun z => q z | exact fun z => z q | exact Int32.not_le.mpr q | exact Int32.not_lt.mpr q)
    rw [q2] at k1
    exact k1
theorem s_if_ne {off : Int} {tg : Nat} (hd : decode (mB k) pc = .ok (.ifCond .ne off, 3)) (ht : (pc : Int) + off = (tg : Int)) : SI G k pc (i_z 1 tg (pc + 3)) := by
  refine SI.pure fun L st S pc' L' st' S' h => ?_
  obtain ⟨a, rfl, rfl, rfl, rfl⟩ := z_inv h
  refine ⟨rfl, fun p l e R s m args below meth c H ls locs cells slots Q C _ _ _ hL hs kk => ?_⟩
  have ha : inR a := hs.h
  have key : (¬ Int32.ofInt a = Int32.ofInt 0) ↔ cmpB 1 a 0 = true := by
    rw [ofInt_eq ha inR0]
    simp [cmpB]
  have k1 := kk ls hL hs.t
  rw [ofInt_0] at key
  refine lv_if_ne C.1 C.2.1 hd ht (fun q => ?_) (fun q => ?_)
  · have q2 : cmpB 1 a 0 = true := key.mp (by first | exact q | exact Int32.not_lt.mp q | exact Int32.not_le.mp q | omega)
    rw [q2] at k1
    exact k1
  · have q2 : cmpB 1 a 0 = false := by
      cases hc : cmpB 1 a 0 with
      | false => rfl
      | true => exact absurd (key.mpr hc) (by first | exact q | exact fun z => q z | exact fun z => z q | exact Int32.not_le.mpr q | exact Int32.not_lt.mpr q)
    rw [q2] at k1
    exact k1
theorem s_icmp_ne {off : Int} {tg : Nat} (hd : decode (mB k) pc = .ok (.if_icmp .ne off, 3)) (ht : (pc : Int) + off = (tg : Int)) : SI G k pc (i_cmp 1 tg (pc + 3)) := by
  refine SI.pure fun L st S pc' L' st' S' h => ?_
  obtain ⟨a, b, rfl, rfl, rfl, rfl⟩ := cmp_inv h
  refine ⟨rfl, fun p l e R s m args below meth c H ls locs cells slots Q C _ _ _ hL hs kk => ?_⟩
  have ha : inR a := hs.t.h
  have hb : inR b := hs.h
  have key : (¬ Int32.ofInt a = Int32.ofInt b) ↔ cmpB 1 a b = true := by
    rw [ofInt_eq ha hb]
    simp [cmpB]
  have k1 := kk ls hL hs.t.t
  refine lv_icmp_ne C.1 C.2.1 hd ht (fun q => ?_) (fun q => ?_)
  · have q2 : cmpB 1 a b = true := key.mp (by first | exact q | exact Int32.not_lt.mp q | exact Int32.not_le.mp q | omega)
    rw [q2] at k1
    exact k1
  · have q2 : cmpB 1 a b = false := by
      cases hc : cmpB 1 a b with
      | false => rfl
      | true => exact absurd (key.mpr hc) (by first | exact q | exact fun z => q z | exact fun z => z q | exact Int32.not_le.mpr q | exact Int32.not_lt.mpr q)
    rw [q2] at k1
    exact k1
theorem s_if_lt {off : Int} {tg : Nat} (hd : decode (mB k) pc = .ok (.ifCond .lt off, 3)) (ht : (pc : Int) + off = (tg : Int)) : SI G k pc (i_z 2 tg (pc + 3)) := by
  refine SI.pure fun L st S pc' L' st' S' h => ?_
  obtain ⟨a, rfl, rfl, rfl, rfl⟩ := z_inv h
  refine ⟨rfl, fun p l e R s m args below meth c H ls locs cells slots Q C _ _ _ hL hs kk => ?_⟩
  have ha : inR a := hs.h
  have key : (Int32.ofInt a < Int32.ofInt 0) ↔ cmpB 2 a 0 = true := by
    rw [ofInt_lt ha inR0]
    simp [cmpB]
  have k1 := kk ls hL hs.t
  rw [ofInt_0] at key
  refine lv_if_lt C.1 C.2.1 hd ht (fun q => ?_) (fun q => ?_)
  · have q2 : cmpB 2 a 0 = true := key.mp (by first | exact q | exact Int32.not_lt.mp q | exact Int32.not_le.mp q | omega)
    rw [q2] at k1
    exact k1
  · have q2 : cmpB 2 a 0 = false := by
      cases hc : cmpB 2 a 0 with
      | false => rfl
      | true => exact absurd (key.mpr hc) (by first | exact q | exact fun z => q z | exact fun z => z q | exact Int32.not_le.mpr q | exact Int32.not_lt.mpr q)
    rw [q2] at k1
    exact k1
theorem s_icmp_lt {off : Int} {tg : Nat} (hd : decode (mB k) pc = .ok (.if_icmp .lt off, 3)) (ht : (pc : Int) + off = (tg : Int)) : SI G k pc (i_cmp 2 tg (pc + 3)) := by
  refine SI.pure fun L st S pc' L' st' S' h => ?_
  obtain ⟨a, b, rfl, rfl, rfl, rfl⟩ := cmp_inv h
  refine ⟨rfl, fun p l e R s m args below meth c H ls locs cells slots Q C _ _ _ hL hs kk => ?_⟩
  have ha : inR a := hs.t.h
  have hb : inR b := hs.h
  have key : (Int32.ofInt a < Int32.ofInt b) ↔ cmpB 2 a b = true := by
    rw [ofInt_lt ha hb]
    simp [cmpB]
  have k1 := kk ls hL hs.t.t
  refine lv_icmp_lt C.1 C.2.1 hd ht (fun q => ?_) (fun q => ?_)
  · have q2 : cmpB 2 a b = true := key.mp (by first | exact q | exact Int32.not_lt.mp q | exact Int32.not_le.mp q | omega)
    rw [q2] at k1
    exact k1
  · have q2 : cmpB 2 a b = false := by
      cases hc : cmpB 2 a b with
      | false => rfl
      | true => exact absurd (key.mpr hc) (by first | exact q | exact fun z => q z | exact fun z => z q | exact Int32.not_le.mpr q | exact Int32.not_lt.mpr q)
    rw [q2] at k1
    exact k1
theorem s_if_ge {off : Int} {tg : Nat} (hd : decode (mB k) pc = .ok (.ifCond .ge off, 3)) (ht : (pc : Int) + off = (tg : Int)) : SI G k pc (i_z 3 tg (pc + 3)) := by
  refine SI.pure fun L st S pc' L' st' S' h => ?_
  obtain ⟨a, rfl, rfl, rfl, rfl⟩ := z_inv h
  refine ⟨rfl, fun p l e R s m args below meth c H ls locs cells slots Q C _ _ _ hL hs kk => ?_⟩
  have ha : inR a := hs.h
  have key : (Int32.ofInt 0 ≤ Int32.ofInt a) ↔ cmpB 3 a 0 = true := by
    rw [ofInt_le inR0 ha]
    simp [cmpB]
  have k1 := kk ls hL hs.t
  rw [ofInt_0] at key
  refine lv_if_ge C.1 C.2.1 hd ht (fun q => ?_) (fun q => ?_)
  · have q2 : cmpB 3 a 0 = true := key.mp (by first | exact q | exact Int32.not_lt.mp q | exact Int32.not_le.mp q | omega)
    rw [q2] at k1
    exact k1
  · have q2 : cmpB 3 a 0 = false := by
      cases hc : cmpB 3 a 0 with
      | false => rfl
      | true => exact absurd (key.mpr hc) (by first | exact q | exact fun z => q z | exact fun z => z q | exact Int32.not_le.mpr q | exact Int32.not_lt.mpr q)
    rw [q2] at k1
    exact k1
theorem s_icmp_ge {off : Int} {tg : Nat} (hd : decode (mB k) pc = .ok (.if_icmp .ge off, 3)) (ht : (pc : Int) + off = (tg : Int)) : SI G k pc (i_cmp 3 tg (pc + 3)) := by
  refine SI.pure fun L st S pc' L' st' S' h => ?_
  obtain ⟨a, b, rfl, rfl, rfl, rfl⟩ := cmp_inv h
  refine ⟨rfl, fun p l e R s m args below meth c H ls locs cells slots Q C _ _ _ hL hs kk => ?_⟩
  have ha : inR a := hs.t.h
  have hb : inR b := hs.h
  have key : (Int32.ofInt b ≤ Int32.ofInt a) ↔ cmpB 3 a b = true := by
    rw [ofInt_le hb ha]
    simp [cmpB]
  have k1 := kk ls hL hs.t.t
  refine lv_icmp_ge C.1 C.2.1 hd ht (fun q => ?_) (fun q => ?_)
  · have q2 : cmpB 3 a b = true := key.mp (by first | exact q | exact Int32.not_lt.mp q | exact Int32.not_le.mp q | omega)
    rw [q2] at k1
    exact k1
  · have q2 : cmpB 3 a b = false := by
      cases hc : cmpB 3 a b with
      | false => rfl
      | true => exact absurd (key.mpr hc) (by first | exact q | exact fun z => q z | exact fun z => z q | exact Int32.not_le.mpr q | exact Int32.not_lt.mpr q)
    rw [q2] at k1
    exact k1
theorem s_if_gt {off : Int} {tg : Nat} (hd : decode (mB k) pc = .ok (.ifCond .gt off, 3)) (ht : (pc : Int) + off = (tg : Int)) : SI G k pc (i_z 4 tg (pc + 3)) := by
  refine SI.pure fun L st S pc' L' st' S' h => ?_
  obtain ⟨a, rfl, rfl, rfl, rfl⟩ := z_inv h
  refine ⟨rfl, fun p l e R s m args below meth c H ls locs cells slots Q C _ _ _ hL hs kk => ?_⟩
  have ha : inR a := hs.h
  have key : (Int32.ofInt 0 < Int32.ofInt a) ↔ cmpB 4 a 0 = true := by
    rw [ofInt_lt inR0 ha]
    simp [cmpB]
  have k1 := kk ls hL hs.t
  rw [ofInt_0] at key
  refine lv_if_gt C.1 C.2.1 hd ht (fun q => ?_) (fun q => ?_)
  · have q2 : cmpB 4 a 0 = true := key.mp (by first | exact q | exact Int32.not_lt.mp q | exact Int32.not_le.mp q | omega)
    rw [q2] at k1
    exact k1
  · have q2 : cmpB 4 a 0 = false := by
      cases hc : cmpB 4 a 0 with
      | false => rfl
      | true => exact absurd (key.mpr hc) (by first | exact q | exact fun z => q z | exact fun z => z q | exact Int32.not_le.mpr q | exact Int32.not_lt.mpr q)
    rw [q2] at k1
    exact k1
theorem s_icmp_gt {off : Int} {tg : Nat} (hd : decode (mB k) pc = .ok (.if_icmp .gt off, 3)) (ht : (pc : Int) + off = (tg : Int)) : SI G k pc (i_cmp 4 tg (pc + 3)) := by
  refine SI.pure fun L st S pc' L' st' S' h => ?_
  obtain ⟨a, b, rfl, rfl, rfl, rfl⟩ := cmp_inv h
  refine ⟨rfl, fun p l e R s m args below meth c H ls locs cells slots Q C _ _ _ hL hs kk => ?_⟩
  have ha : inR a := hs.t.h
  have hb : inR b := hs.h
  have key : (Int32.ofInt b < Int32.ofInt a) ↔ cmpB 4 a b = true := by
    rw [ofInt_lt hb ha]
    simp [cmpB]
  have k1 := kk ls hL hs.t.t
  refine lv_icmp_gt C.1 C.2.1 hd ht (fun q => ?_) (fun q => ?_)
  · have q2 : cmpB 4 a b = true := key.mp (by first | exact q | exact Int32.not_lt.mp q | exact Int32.not_le.mp q | omega)
    rw [q2] at k1
    exact k1
  · have q2 : cmpB 4 a b = false := by
      cases hc : cmpB 4 a b with
      | false => rfl
      | true => exact absurd (key.mpr hc) (by first | exact q | exact fun z => q z | exact fun z => z q | exact Int32.not_le.mpr q | exact Int32.not_lt.mpr q)
    rw [q2] at k1
    exact k1
theorem s_if_le {off : Int} {tg : Nat} (hd : decode (mB k) pc = .ok (.ifCond .le off, 3)) (ht : (pc : Int) + off = (tg : Int)) : SI G k pc (i_z 5 tg (pc + 3)) := by
  refine SI.pure fun L st S pc' L' st' S' h => ?_
  obtain ⟨a, rfl, rfl, rfl, rfl⟩ := z_inv h
  refine ⟨rfl, fun p l e R s m args below meth c H ls locs cells slots Q C _ _ _ hL hs kk => ?_⟩
  have ha : inR a := hs.h
  have key : (Int32.ofInt a ≤ Int32.ofInt 0) ↔ cmpB 5 a 0 = true := by
    rw [ofInt_le ha inR0]
    simp [cmpB]
  have k1 := kk ls hL hs.t
  rw [ofInt_0] at key
  refine lv_if_le C.1 C.2.1 hd ht (fun q => ?_) (fun q => ?_)
  · have q2 : cmpB 5 a 0 = true := key.mp (by first | exact q | exact Int32.not_lt.mp q | exact Int32.not_le.mp q | omega)
    rw [q2] at k1
    exact k1
  · have q2 : cmpB 5 a 0 = false := by
      cases hc : cmpB 5 a 0 with
      | false => rfl
      | true => exact absurd (key.mpr hc) (by first | exact q | exact fun z => q z | exact fun z => z q | exact Int32.not_le.mpr q | exact Int32.not_lt.mpr q)
    rw [q2] at k1
    exact k1
theorem s_icmp_le {off : Int} {tg : Nat} (hd : decode (mB k) pc = .ok (.if_icmp .le off, 3)) (ht : (pc : Int) + off = (tg : Int)) : SI G k pc (i_cmp 5 tg (pc + 3)) := by
  refine SI.pure fun L st S pc' L' st' S' h => ?_
  obtain ⟨a, b, rfl, rfl, rfl, rfl⟩ := cmp_inv h
  refine ⟨rfl, fun p l e R s m args below meth c H ls locs cells slots Q C _ _ _ hL hs kk => ?_⟩
  have ha : inR a := hs.t.h
  have hb : inR b := hs.h
  have key : (Int32.ofInt a ≤ Int32.ofInt b) ↔ cmpB 5 a b = true := by
    rw [ofInt_le ha hb]
    simp [cmpB]
  have k1 := kk ls hL hs.t.t
  refine lv_icmp_le C.1 C.2.1 hd ht (fun q => ?_) (fun q => ?_)
  · have q2 : cmpB 5 a b = true := key.mp (by first | exact q | exact Int32.not_lt.mp q | exact Int32.not_le.mp q | omega)
    rw [q2] at k1
    exact k1
  · have q2 : cmpB 5 a b = false := by
      cases hc : cmpB 5 a b with
      | false => rfl
      | true => exact absurd (key.mpr hc) (by first | exact q | exact fun z => q z | exact fun z => z q | exact Int32.not_le.mpr q | exact Int32.not_lt.mpr q)
    rw [q2] at k1
    exact k1
theorem nul_inv {tg nx : Nat} {L L' : ML} {st st' : List MV} {S S' : MS} {pc' : Nat} (h : i_nul tg nx L st S = some (pc', L', st', S')) : (st = .inr none :: st' ∧ pc' = tg ∧ L' = L ∧ S' = S) ∨ ∃ a, st = .inr (some a) :: st' ∧ pc' = nx ∧ L' = L ∧ S' = S := by
  unfold i_nul at h
  split at h
  · simp only [Option.some.injEq, Prod.mk.injEq] at h
    exact Or.inl ⟨by rw [h.2.2.1], h.1.symm, h.2.1.symm, h.2.2.2.symm⟩
  · simp only [Option.some.injEq, Prod.mk.injEq] at h
    exact Or.inr ⟨_, by rw [h.2.2.1], h.1.symm, h.2.1.symm, h.2.2.2.symm⟩
  · cases h
theorem s_ifnull {off : Int} {tg : Nat} (hd : decode (mB k) pc = .ok (.ifnull off, 3)) (ht : (pc : Int) + off = (tg : Int)) : SI G k pc (i_nul tg (pc + 3)) := by
  refine SI.pure fun L st S pc' L' st' S' h => ?_
  rcases nul_inv h with ⟨rfl, rfl, rfl, rfl⟩ | ⟨a, rfl, rfl, rfl, rfl⟩
  · exact ⟨rfl, fun p l e R s m args below meth c H ls locs cells slots Q C _ _ _ hL hs kk => lv_ifnullN C.1 C.2.1 hd ht (kk ls hL hs.t)⟩
  · exact ⟨rfl, fun p l e R s m args below meth c H ls locs cells slots Q C _ _ _ hL hs kk => lv_ifnull C.1 C.2.1 hd (kk ls hL hs.t)⟩
theorem s_ifnonnull {off : Int} {tg : Nat} (hd : decode (mB k) pc = .ok (.ifnonnull off, 3)) (ht : (pc : Int) + off = (tg : Int)) : SI G k pc (i_nul (pc + 3) tg) := by
  refine SI.pure fun L st S pc' L' st' S' h => ?_
  rcases nul_inv h with ⟨rfl, rfl, rfl, rfl⟩ | ⟨a, rfl, rfl, rfl, rfl⟩
  · exact ⟨rfl, fun p l e R s m args below meth c H ls locs cells slots Q C _ _ _ hL hs kk => lv_ifnonnullN C.1 C.2.1 hd (kk ls hL hs.t)⟩
  · exact ⟨rfl, fun p l e R s m args below meth c H ls locs cells slots Q C _ _ _ hL hs kk => lv_ifnonnull C.1 C.2.1 hd ht (kk ls hL hs.t)⟩
theorem aeq_inv {tg nx : Nat} {L L' : ML} {st st' : List MV} {S S' : MS} {pc' : Nat} (h : i_aeq tg nx L st S = some (pc', L', st', S')) : ∃ a b, st = .inr b :: .inr a :: st' ∧ pc' = (if a = b then tg else nx) ∧ L' = L ∧ S' = S := by
  unfold i_aeq at h
  split at h
  · rename_i b a t
    split at h
    · rename_i hc
      simp only [Option.some.injEq, Prod.mk.injEq] at h
      exact ⟨a, b, by rw [h.2.2.1], by rw [if_pos hc, h.1], h.2.1.symm, h.2.2.2.symm⟩
    · rename_i hc
      simp only [Option.some.injEq, Prod.mk.injEq] at h
      exact ⟨a, b, by rw [h.2.2.1], by rw [if_neg hc, h.1], h.2.1.symm, h.2.2.2.symm⟩
  · cases h
theorem cv_rf (r : Option Nat) : cv (.inr r) = va_rf r := by cases r <;> rfl
theorem s_acmp_eq {off : Int} {tg : Nat} (hd : decode (mB k) pc = .ok (.if_acmp .eq off, 3)) (ht : (pc : Int) + off = (tg : Int)) : SI G k pc (i_aeq tg (pc + 3)) := by
  refine SI.pure fun L st S pc' L' st' S' h => ?_
  obtain ⟨a, b, rfl, rfl, rfl, rfl⟩ := aeq_inv h
  refine ⟨rfl, fun p l e R s m args below meth c H ls locs cells slots Q C _ _ _ hL hs kk => ?_⟩
  have k1 := kk ls hL hs.t.t
  rw [List.map_cons, List.map_cons, cv_rf, cv_rf]
  refine lv_acmp_eq C.1 C.2.1 hd ht (fun q => ?_) (fun q => ?_)
  · rw [if_pos q] at k1; exact k1
  · rw [if_neg q] at k1; exact k1
theorem s_acmp_ne {off : Int} {tg : Nat} (hd : decode (mB k) pc = .ok (.if_acmp .ne off, 3)) (ht : (pc : Int) + off = (tg : Int)) : SI G k pc (i_aeq (pc + 3) tg) := by
  refine SI.pure fun L st S pc' L' st' S' h => ?_
  obtain ⟨a, b, rfl, rfl, rfl, rfl⟩ := aeq_inv h
  refine ⟨rfl, fun p l e R s m args below meth c H ls locs cells slots Q C _ _ _ hL hs kk => ?_⟩
  have k1 := kk ls hL hs.t.t
  rw [List.map_cons, List.map_cons, cv_rf, cv_rf]
  refine lv_acmp_ne C.1 C.2.1 hd ht (fun q => ?_) (fun q => ?_)
  · rw [if_neg q] at k1; exact k1
  · rw [if_pos q] at k1; exact k1
theorem s_goto {off : Int} {tg : Nat} (hd : decode (mB k) pc = .ok (.goto off, 3)) (ht : (pc : Int) + off = (tg : Int)) : SI G k pc (i_go tg) := by
  refine SI.pure fun L st S pc' L' st' S' h => ?_
  simp only [i_go, Option.some.injEq, Prod.mk.injEq] at h
  obtain ⟨rfl, rfl, rfl, rfl⟩ := h
  exact ⟨rfl, fun p l e R s m args below meth c H ls locs cells slots Q C _ _ _ hL hs kk => lv_goto C.1 C.2.1 hd ht (kk ls hL hs)⟩
theorem s_switch {df lo hi : Int} {offs : Array Int} {len dt : Nat} {tg : List Nat} (hd : decode (mB k) pc = .ok (.tableswitch df lo hi offs, len)) (h1 : (pc : Int) + df = (dt : Int)) (h2 : offs.toList.map (fun o => (pc : Int) + o) = tg.map (fun t : Nat => (t : Int))) : SI G k pc (i_sw lo hi tg dt) := by
  refine SI.pure fun L st S pc' L' st' S' h => ?_
  unfold i_sw at h
  split at h
  · rename_i a t
    split at h
    · rename_i ho
      simp only [Option.some.injEq, Prod.mk.injEq] at h
      obtain ⟨rfl, rfl, rfl, rfl⟩ := h
      refine ⟨rfl, fun p l e R s m args below meth c H ls locs cells slots Q C _ _ _ hL hs kk => lv_tableOut C.1 C.2.1 hd ?_ h1 (kk ls hL hs.t)⟩
      rw [ofInt_toInt hs.h]; exact ho
    · rename_i ho
      cases hg : tg[(a - lo).toNat]? with
      | none => rw [hg] at h; cases h
      | some tt =>
        rw [hg] at h
        simp only [Option.map_some, Option.some.injEq, Prod.mk.injEq] at h
        obtain ⟨rfl, rfl, rfl, rfl⟩ := h
        refine ⟨rfl, fun p l e R s m args below meth c H ls locs cells slots Q C _ _ _ hL hs kk => ?_⟩
        have hm : (offs.toList.map (fun o => (pc : Int) + o))[(a - lo).toNat]? = some (tt : Int) := by
          rw [h2, List.getElem?_map, hg]; rfl
        rw [List.getElem?_map] at hm
        cases hx : offs.toList[(a - lo).toNat]? with
        | none => rw [hx] at hm; cases hm
        | some off =>
          rw [hx] at hm
          have hm2 : (pc : Int) + off = (tt : Int) := Option.some.inj hm
          refine lv_tableIn C.1 C.2.1 hd ?_ ?_ (off := off) ?_ hm2 (kk ls hL hs.t)
          · rw [ofInt_toInt hs.h]; omega
          · rw [ofInt_toInt hs.h]; omega
          · rw [ofInt_toInt hs.h, ← Array.getElem?_toList]; exact hx
  · cases h
/-- the field kk of a cell of tag t, spelled by ref, nm, ds -/
def FOK (t kk : Nat) (ref nm ds : String) : Prop := ∃ (ci : Nat) (r : vw_C), t = ci + 1 ∧ ci < 19 ∧ mcl[ci]? = some r ∧ kk < r.2.2 ∧ (r.2.1 kk).2.1 = nm ∧ (r.2.1 kk).2.2.1 = ds ∧ (ref = (r.2.1 kk).1 ∨ Cond.sameField ref (r.2.1 kk).1 nm ds ∈ mWS) ∧ ∀ w ∈ u_ws r.1 r.2.1 r.2.2, w ∈ mWS
theorem cell_obj {t : Nat} {n : Int} {f : Int → MV} {a : Nat} {H : Heap} {ci : Nat} {r : vw_C} (h : cellOK G t n f a H) (e : t = ci + 1) (hci : ci < 19) (hr : mcl[ci]? = some r) : n = (r.2.2 : Int) ∧ G.2.2.2 ≤ a ∧ t_OB a (G.2.1.1 ci) r.2.2 (G.2.1.2 ci) H (fun j => cv (f (j : Int))) := by
  rcases h with ⟨ci', r', h1, h2, h3, h4, h5, h6⟩ | ⟨j, N, h1, h2, h3, h4, h5⟩ | ⟨N, h1, h2⟩
  · have e1 : ci' = ci := by omega
    subst e1
    cases hr.symm.trans h3
    exact ⟨h4, h5, h6⟩
  · omega
  · omega
theorem s_get {idx kk : Nat} {ts : List Nat} {ref nm ds : String} (hK : K0 G) (hd : decode (mB k) pc = .ok (.getfield idx, 3)) (hw : Cond.fieldLink (mO k) idx ref nm ds ∈ mWS) (hts : ∀ t ∈ ts, FOK t kk ref nm ds) : SI G k pc (i_get ts (kk : Int) (pc + 3)) := by
  refine SI.pure fun L st S pc' L' st' S' h => ?_
  unfold i_get at h
  split at h
  · rename_i a t
    split at h
    · rename_i hc
      simp only [Option.some.injEq, Prod.mk.injEq] at h
      obtain ⟨rfl, rfl, rfl, rfl⟩ := h
      refine ⟨rfl, fun p l e R s m args below meth c H ls locs cells slots Q C _ _ hR hL hs kk2 => ?_⟩
      obtain ⟨ci, r, e1, e2, e3, e4, e5, e6, e7, e8⟩ := hts _ (List.contains_iff_mem.mp hc)
      obtain ⟨g1, g2, cell, g3, g4, g5, g6⟩ := cell_obj (hR.2.2.1 a (by omega)) e1 e2 e3
      have KWs := C.2.2.2.2.2
      have hts' : ∀ w ∈ mWS, w.before args s = true := fun w hw => KWs.w hw
      obtain ⟨hS, hfc, kC, hkC, hkind⟩ := (hK.at KWs).1 ci _ e3
      obtain ⟨cf, kf, fi, fd, hi, hsl⟩ := hS kk e4
      have hi2 := hi
      rw [e5, e6] at hi2
      have hfd : s.fieldFound? ref nm ds = some (cf, kf, fi, fd) := by
        rcases e7 with rfl | e7
        · exact hi2
        · exact u_same (KWs.w (A := args) e7) _ hi2
      refine W.getf (v := cv (vS S a kk)) C.1 C.2.1 C.2.2.2.1 (KWs.w hw) hfd (u_facts hfc hkC (u_lays hts' e8 e4) hi).1 g3 (by rw [g5]; exact fun h => by cases h) ?_ rfl rfl hd (kk2 ls hL (okS.c (hR.2.1 a kk) hs.t))
      rw [hsl, g6 kk e4]
    · cases h
  · cases h
def fty (ty : Nat) (ft : FieldType) : Prop := match ty with
  | 0 => ft = .int
  | 1 => ft = .boolean
  | 2 => (∃ n, ft = .object n) ∨ ∃ t, ft = .array t
  | _ => False
theorem fitM_ok {ty : Nat} {ft : FieldType} {v : MV} (h : fty ty ft) (hv : fitM ty v = true) : narrow ft (cv v) = cv v ∧ fits ft (cv v) = true := by
  unfold fty at h
  split at h
  · subst h
    rcases v with e | _ | a <;> first | exact ⟨rfl, rfl⟩ | (simp [fitM] at hv)
  · subst h
    rcases v with e | _ | a
    · have h2 : e = 0 ∨ e = 1 := by simpa [fitM] using hv
      rcases h2 with rfl | rfl
      · exact ⟨by decide, by decide⟩
      · exact ⟨by decide, by decide⟩
    · simp [fitM] at hv
    · simp [fitM] at hv
  · rcases h with ⟨n, rfl⟩ | ⟨t, rfl⟩ <;> (rcases v with e | _ | a <;> first | exact ⟨rfl, rfl⟩ | (simp [fitM] at hv))
  · exact h.elim
/-- a field that may be written: not final, or final and written by its own constructor -/
def POK (k t kk ty : Nat) : Prop := ∃ (ci : Nat) (r : vw_C) (tys : Nat → FieldType), t = ci + 1 ∧ mcl[ci]? = some r ∧ (∀ j, j < r.2.2 → parseFieldDescriptor (r.2.1 j).2.2.1 = some (tys j)) ∧ (∀ a, a < r.2.2 → ∀ b, b < r.2.2 → a ≠ b → (r.2.1 a).2.1 ≠ (r.2.1 b).2.1) ∧ fty ty (tys kk) ∧ ((r.2.1 kk).2.2.2 = false ∨ ((r.2.1 kk).2.2.2 = true ∧ mN k = true ∧ (r.2.1 kk).1 = mO k))
theorem put_inv {ts : List Nat} {kk : Int} {ty nx : Nat} {L L' : ML} {st st' : List MV} {S S' : MS} {pc' : Nat} (h : i_put ts kk ty nx L st S = some (pc', L', st', S')) : ∃ v a, st = v :: .inr (some a) :: st' ∧ ts.contains (tS S a) = true ∧ fitM ty v = true ∧ pc' = nx ∧ L' = L ∧ S' = mset S a kk v := by
  unfold i_put at h
  split at h
  · rename_i v a t
    split at h
    · rename_i hc
      rw [Bool.and_eq_true] at hc
      simp only [Option.some.injEq, Prod.mk.injEq] at h
      exact ⟨v, a, by rw [h.2.2.1], hc.1, hc.2, h.1.symm, h.2.1.symm, h.2.2.2.symm⟩
    · cases h
  · cases h
theorem cv_upd (f : Int → MV) (kk : Nat) (v : MV) (j : Nat) : updV (fun j => cv (f (j : Int))) kk (cv v) j = cv (if (j : Int) = (kk : Int) then v else f (j : Int)) := by
  by_cases h : j = kk
  · subst h; simp [updV]
  · have h2 : ¬ (j : Int) = (kk : Int) := by omega
    simp [updV, h, h2]
set_option maxHeartbeats 1000000 in
theorem s_put {idx kk ty : Nat} {ts : List Nat} {ref nm ds : String} (hK : K0 G) (hd : decode (mB k) pc = .ok (.putfield idx, 3)) (hw : Cond.fieldLink (mO k) idx ref nm ds ∈ mWS) (hts : ∀ t ∈ ts, FOK t kk ref nm ds) (hps : ∀ t ∈ ts, POK k t kk ty) : SI G k pc (i_put ts (kk : Int) ty (pc + 3)) := by
  intro L st S pc' L' st' S' h
  obtain ⟨v, a, rfl, hc, hfit, rfl, rfl, rfl⟩ := put_inv h
  refine ⟨⟨Nat.le_refl _, Nat.le_refl _⟩, fun p l e R s m args below meth c H ls locs cells slots cells' slots' Q C r1 r2 hR hL hs hlk q1 q2 _ _ kk2 => ?_⟩
  have q1' : cells = cells' := by have : zS (mset S a kk v) = zS S := rfl; omega
  have q2' : slots = slots' := by have : qS (mset S a kk v) = qS S := rfl; omega
  subst q1'; subst q2'
  obtain ⟨ci, r, e1, e2, e3, e4, e5, e6, e7, e8⟩ := hts _ (List.contains_iff_mem.mp hc)
  obtain ⟨ci', r', tys, f1, f3, f4, f5, f6, f7⟩ := hps _ (List.contains_iff_mem.mp hc)
  have ec : ci' = ci := by omega
  subst ec
  cases e3.symm.trans f3
  obtain ⟨g1, g2, cell, g3, g4, g5, g6⟩ := cell_obj (hR.2.2.1 a (by omega)) e1 e2 e3
  have KWs := C.2.2.2.2.2
  have hts' : ∀ w ∈ mWS, w.before args s = true := fun w hw => KWs.w hw
  have hKs := hK.at KWs
  have hap := va_apart (own := mO k) hts' e8 tys f4 f5 hKs e3
  obtain ⟨hS, hfc, kC, hkC, hkind⟩ := hKs.1 ci' _ e3
  obtain ⟨cf, kf, fi, fd, hi, hsl⟩ := hS kk e4
  have hi2 := hi
  rw [e5, e6] at hi2
  have hfd : s.fieldFound? ref nm ds = some (cf, kf, fi, fd) := by
    rcases e7 with rfl | e7
    · exact hi2
    · exact u_same (KWs.w (A := args) e7) _ hi2
  have hst := (u_facts hfc hkC (u_lays hts' e8 e4) hi).1
  obtain ⟨n1, n2⟩ := fitM_ok f6 hfit
  have hlay := hts' _ (e8 _ (u_in_lay e4))
  have fin : ∀ (H' : Heap), H'[a]? = some (cell.setSlot fd.slot (cv v)) → H'.size = H.size → (∀ q, q ≠ a → H'[q]? = H[q]?) → W p l e R s m args below meth c H' (locs ++ [⟨a, fd.slot⟩]) cells slots Q (F0 m (pc + 3) ls (st'.map cv)) := by
    intro H' h1 h2 h3
    refine kk2 H' ls _ (hR.put h2 h3 hs.h ?_) hL hs.t.t (hlk.put g2)
    refine Or.inl ⟨ci', r, e1, e2, e3, g1, g2, ?_⟩
    rw [hsl] at h1
    refine t_OB.to (V := updV (fun j => cv (vS S a (j : Int))) kk (cv v)) ⟨_, h1, g4, g5, t_set g6 hap e4 (cv v)⟩ (fun j _ => ?_)
    rw [cv_upd, mset_s]
  rcases f7 with f7 | ⟨f7, f8, f9⟩
  · unfold u_lay at hlay
    rw [if_neg (by rw [f7]; decide)] at hlay
    have h6 := u_store hfc hkC hkind hlay hi (f4 kk e4) n1 n2
    exact W.putK C.1 C.2.1 (f := fd) ⟨C.2.2.2.1, KWs.w hw, ⟨_, _, _, hfd⟩, hst⟩ (by rw [g4]; exact h6) g3 g5 (by rw [hsl]; exact k2_hasslot (g6 kk e4)) rfl rfl hd fin
  · unfold u_lay at hlay
    rw [if_pos f7] at hlay
    have hcf : m.cls = cf := by
      obtain ⟨_, _, c', _, _, _, -, -, hf', -, -, -, hown2, -⟩ := Cond.laysFinal_spec hlay
      have e1 : c' = cf := by have := hi.symm.trans hf'; simp at this; exact this.1.symm
      rw [f9] at hown2
      rw [← e1]; exact Option.some.inj (C.2.2.2.1.symm.trans hown2)
    have h6 := u_fits hfc hkC hkind (Or.inr hlay) hi (f4 kk e4) n1 n2
    exact W.putFinK C.1 C.2.1 C.2.2.2.1 (KWs.w hw) hfd hst hcf (C.2.2.2.2.1 f8) (by rw [g4]; exact h6) g3 g5 (by rw [hsl]; exact k2_hasslot (g6 kk e4)) rfl rfl hd fin
theorem cell_arr {t : Nat} {n : Int} {f : Int → MV} {a : Nat} {H : Heap} {j : Nat} (h : cellOK G t n f a H) (e : t = 20 + j) (hj : j < 4) : ∃ N : Nat, n = (N : Int) ∧ G.2.2.2 ≤ a ∧ H[a]? = some (arrV (G.2.2.1 j) N (fun i => cv (f (i : Int)))) := by
  rcases h with ⟨ci', r', h1, h2, h3, h4, h5, h6⟩ | ⟨j', N, h1, h2, h3, h4, h5⟩ | ⟨N, h1, h2⟩
  · omega
  · have e1 : j' = j := by omega
    subst e1
    exact ⟨N, h3, h4, h5⟩
  · omega
theorem cell_scr {t : Nat} {n : Int} {f : Int → MV} {a : Nat} {H : Heap} (h : cellOK G t n f a H) (e : t = 30) : ∃ N : Nat, n = (N : Int) ∧ ∃ scr : Cell, H[a]? = some scr ∧ G.1.isArrayOf scr .int ∧ scr.vm ≠ .unknown ∧ scr.slots.size = N ∧ ∀ j : Nat, j < N → scr.slots[j]? = some (cv (f (j : Int))) := by
  rcases h with ⟨ci', r', h1, h2, h3, h4, h5, h6⟩ | ⟨j', N, h1, h2, h3, h4, h5⟩ | ⟨N, h1, h2⟩
  · omega
  · omega
  · exact ⟨N, h2⟩
theorem ld_inv {ts : List Nat} {nx : Nat} {L L' : ML} {st st' : List MV} {S S' : MS} {pc' : Nat} (h : i_ld ts nx L st S = some (pc', L', st', S')) : ∃ i a t, st = .inl i :: .inr (some a) :: t ∧ ts.contains (tS S a) = true ∧ 0 ≤ i ∧ i < lS S a ∧ pc' = nx ∧ L' = L ∧ st' = vS S a i :: t ∧ S = S' := by
  unfold i_ld at h
  split at h
  · rename_i i a t
    split at h
    · rename_i hc
      simp only [Option.some.injEq, Prod.mk.injEq] at h
      exact ⟨i, a, t, rfl, hc.1, hc.2.1, hc.2.2, h.1.symm, h.2.1.symm, h.2.2.1.symm, h.2.2.2⟩
    · cases h
  · cases h
theorem idx_ok {i : Int} {N : Nat} (hi : inR i) (h0 : 0 ≤ i) (hl : i < (N : Int)) : ¬ (Int32.ofInt i < 0 ∨ N ≤ (Int32.ofInt i).toNatClampNeg) ∧ (Int32.ofInt i).toNatClampNeg = i.toNat ∧ i.toNat < N ∧ ((i.toNat : Nat) : Int) = i := by
  have e1 := ofInt_clamp hi
  refine ⟨fun q => ?_, e1, by omega, by omega⟩
  rcases q with q | q
  · rw [← ofInt_0, ofInt_lt hi inR0] at q; omega
  · rw [e1] at q; omega
theorem s_iald (hK : K0 G) (hd : decode (mB k) pc = .ok (.iaload, 1)) : SI G k pc (i_ld [20, 30] (pc + 1)) := by
  refine SI.pure fun L st S pc' L' st' S' h => ?_
  obtain ⟨i, a, t, rfl, hc, h0, hl, rfl, rfl, rfl, rfl⟩ := ld_inv h
  refine ⟨rfl, fun p l e R s m args below meth c H ls locs cells slots Q C _ _ hR hL hs kk => ?_⟩
  have hc2 : tS S a = 20 ∨ tS S a = 30 := by simpa using hc
  have k1 := kk ls hL (okS.c (hR.2.1 a i) hs.t.t)
  have KWs := C.2.2.2.2.2
  rcases hc2 with e1 | e1
  · obtain ⟨N, g1, g2, g3⟩ := cell_arr (j := 0) (hR.2.2.1 a (by omega)) e1 (by omega)
    obtain ⟨b1, b2, b3, b4⟩ := idx_ok hs.h h0 (by rw [← g1]; exact hl)
    have hAr := ((hK.at KWs).2 0 _ rfl).1
    refine W.iald (v := cv (vS S a i)) C.1 C.2.1 g3 (hAr N _) (fun q => by cases q) (by rw [arrV_size]; exact b1) ?_ rfl rfl hd k1
    rw [b2, arrV_read _ _ b3, b4]
  · obtain ⟨N, g1, scr, g2, g3, g4, g5, g6⟩ := cell_scr (hR.2.2.1 a (by omega)) e1
    obtain ⟨b1, b2, b3, b4⟩ := idx_ok hs.h h0 (by rw [← g1]; exact hl)
    refine W.iald (v := cv (vS S a i)) C.1 C.2.1 g2 (State.isArrayOf_alike KWs.2.1 g3) g4 (by rw [g5]; exact b1) ?_ rfl rfl hd k1
    rw [b2, g6 _ b3, b4]
theorem s_zald (hK : K0 G) (hd : decode (mB k) pc = .ok (.baload, 1)) : SI G k pc (i_ld [21] (pc + 1)) := by
  refine SI.pure fun L st S pc' L' st' S' h => ?_
  obtain ⟨i, a, t, rfl, hc, h0, hl, rfl, rfl, rfl, rfl⟩ := ld_inv h
  refine ⟨rfl, fun p l e R s m args below meth c H ls locs cells slots Q C _ _ hR hL hs kk => ?_⟩
  have e1 : tS S a = 21 := by simpa using hc
  have k1 := kk ls hL (okS.c (hR.2.1 a i) hs.t.t)
  have KWs := C.2.2.2.2.2
  obtain ⟨N, g1, g2, g3⟩ := cell_arr (j := 1) (hR.2.2.1 a (by omega)) e1 (by omega)
  obtain ⟨b1, b2, b3, b4⟩ := idx_ok hs.h h0 (by rw [← g1]; exact hl)
  have hAr := ((hK.at KWs).2 1 _ rfl).1
  refine W.zald (v := cv (vS S a i)) C.1 C.2.1 g3 (hAr N _) (fun q => by cases q) (by rw [arrV_size]; exact b1) ?_ rfl rfl hd k1
  rw [b2, arrV_read _ _ b3, b4]
theorem s_aald (hK : K0 G) (hd : decode (mB k) pc = .ok (.aaload, 1)) : SI G k pc (i_ld [22, 23] (pc + 1)) := by
  refine SI.pure fun L st S pc' L' st' S' h => ?_
  obtain ⟨i, a, t, rfl, hc, h0, hl, rfl, rfl, rfl, rfl⟩ := ld_inv h
  refine ⟨rfl, fun p l e R s m args below meth c H ls locs cells slots Q C _ _ hR hL hs kk => ?_⟩
  have hc2 : tS S a = 22 ∨ tS S a = 23 := by simpa using hc
  have k1 := kk ls hL (okS.c (hR.2.1 a i) hs.t.t)
  have KWs := C.2.2.2.2.2
  rcases hc2 with e1 | e1
  · obtain ⟨N, g1, g2, g3⟩ := cell_arr (j := 2) (hR.2.2.1 a (by omega)) e1 (by omega)
    obtain ⟨b1, b2, b3, b4⟩ := idx_ok hs.h h0 (by rw [← g1]; exact hl)
    have hAr := ((hK.at KWs).2 2 _ rfl).1
    refine W.aald (v := cv (vS S a i)) C.1 C.2.1 g3 (hAr N _) rfl (fun q => by cases q) (by rw [arrV_size]; exact b1) ?_ rfl rfl hd k1
    rw [b2, arrV_read _ _ b3, b4]
  · obtain ⟨N, g1, g2, g3⟩ := cell_arr (j := 3) (hR.2.2.1 a (by omega)) e1 (by omega)
    obtain ⟨b1, b2, b3, b4⟩ := idx_ok hs.h h0 (by rw [← g1]; exact hl)
    have hAr := ((hK.at KWs).2 3 _ rfl).1
    refine W.aald (v := cv (vS S a i)) C.1 C.2.1 g3 (hAr N _) rfl (fun q => by cases q) (by rw [arrV_size]; exact b1) ?_ rfl rfl hd k1
    rw [b2, arrV_read _ _ b3, b4]
/-- a cell of an array, one place written -/
theorem Rel.arr {S : MS} {H H' : Heap} {a j N : Nat} {i : Int} {v : MV} {x : Int32} (hR : Rel G S H) (e1 : tS S a = 20 + j) (hj : j < 4) (g1 : lS S a = (N : Int)) (g2 : G.2.2.2 ≤ a) (h0 : 0 ≤ i) (b2 : x.toNatClampNeg = i.toNat) (hv : okV v) (h1 : H'[a]? = some ((arrV (G.2.2.1 j) N (fun i => cv (vS S a (i : Int)))).setSlot x.toNatClampNeg (cv v))) (h2 : H'.size = H.size) (h3 : ∀ q, q ≠ a → H'[q]? = H[q]?) : Rel G (mset S a i v) H' := by
  refine hR.put h2 h3 hv (Or.inr (Or.inl ⟨j, N, e1, hj, g1, g2, ?_⟩))
  rw [h1, arrV_store, b2]
  congr 2
  funext q
  rw [cv_upd, mset_s]
  rw [show ((i.toNat : Nat) : Int) = i by omega]
theorem s_iast (hK : K0 G) (hd : decode (mB k) pc = .ok (.iastore, 1)) : SI G k pc (i_ist (pc + 1)) := by
  intro L st S pc' L' st' S' h
  unfold i_ist at h
  split at h
  · rename_i x i a t
    split at h
    · rename_i hc
      simp only [Option.some.injEq, Prod.mk.injEq] at h
      obtain ⟨rfl, rfl, rfl, rfl⟩ := h
      obtain ⟨e1, h0, hl⟩ := hc
      refine ⟨⟨Nat.le_refl _, Nat.le_refl _⟩, fun p l e R s m args below meth c H ls locs cells slots cells' slots' Q C r1 r2 hR hL hs hlk q1 q2 _ _ kk => ?_⟩
      have q1' : cells = cells' := by have : zS (mset S a i (.inl x)) = zS S := rfl; omega
      have q2' : slots = slots' := by have : qS (mset S a i (.inl x)) = qS S := rfl; omega
      subst q1'; subst q2'
      have KWs := C.2.2.2.2.2
      obtain ⟨N, g1, g2, g3⟩ := cell_arr (j := 0) (hR.2.2.1 a (by omega)) e1 (by omega)
      obtain ⟨b1, b2, b3, b4⟩ := idx_ok hs.t.h h0 (by rw [← g1]; exact hl)
      have hAr := ((hK.at KWs).2 0 _ rfl).1
      exact W.iast C.1 C.2.1 g3 (hAr N _) (fun q => by cases q) (by rw [arrV_size]; exact b1) rfl rfl hd fun H' z1 z2 z3 => kk H' ls _ (hR.arr (j := 0) e1 (by omega) g1 g2 h0 b2 hs.h z1 z2 z3) hL hs.t.t.t (hlk.put g2)
    · cases h
  · cases h
theorem s_zast (hK : K0 G) (hd : decode (mB k) pc = .ok (.bastore, 1)) : SI G k pc (i_zst (pc + 1)) := by
  intro L st S pc' L' st' S' h
  unfold i_zst at h
  split at h
  · rename_i x i a t
    split at h
    · rename_i hc
      simp only [Option.some.injEq, Prod.mk.injEq] at h
      obtain ⟨rfl, rfl, rfl, rfl⟩ := h
      obtain ⟨e1, hx, h0, hl⟩ := hc
      refine ⟨⟨Nat.le_refl _, Nat.le_refl _⟩, fun p l e R s m args below meth c H ls locs cells slots cells' slots' Q C r1 r2 hR hL hs hlk q1 q2 _ _ kk => ?_⟩
      have q1' : cells = cells' := by have : zS (mset S a i (.inl x)) = zS S := rfl; omega
      have q2' : slots = slots' := by have : qS (mset S a i (.inl x)) = qS S := rfl; omega
      subst q1'; subst q2'
      have KWs := C.2.2.2.2.2
      obtain ⟨N, g1, g2, g3⟩ := cell_arr (j := 1) (hR.2.2.1 a (by omega)) e1 (by omega)
      obtain ⟨b1, b2, b3, b4⟩ := idx_ok hs.t.h h0 (by rw [← g1]; exact hl)
      have hAr := ((hK.at KWs).2 1 _ rfl).1
      have hn : narrow .boolean (.int (Int32.ofInt x)) = cv (.inl x) := by
        rcases hx with rfl | rfl <;> decide
      exact W.zast C.1 C.2.1 g3 (hAr N _) (fun q => by cases q) (by rw [arrV_size]; exact b1) rfl rfl hd fun H' z1 z2 z3 => kk H' ls _ (hR.arr (j := 1) e1 (by omega) g1 g2 h0 b2 hs.h (by rw [← hn]; exact z1) z2 z3) hL hs.t.t.t (hlk.put g2)
    · cases h
  · cases h
/-- which cells an array of references takes: all in mcl that are castable -/
def AOK (j : Nat) (E : String) (ts : List Nat) : Prop := ∀ t ∈ ts, ∃ (ci : Nat) (r : vw_C), t = ci + 1 ∧ ci < 19 ∧ mcl[ci]? = some r ∧ Cond.castable r.1 E ∈ mWS
theorem s_aast {ts2 ts3 : List Nat} (hK : K0 G) (hd : decode (mB k) pc = .ok (.aastore, 1)) (h2 : AOK 2 mThing ts2) (h3 : AOK 3 mValue ts3) : SI G k pc (i_ast [(22, ts2), (23, ts3)] (pc + 1)) := by
  intro L st S pc' L' st' S' h
  unfold i_ast at h
  split at h
  · rename_i x i a t
    split at h
    · rename_i hc
      simp only [Option.some.injEq, Prod.mk.injEq] at h
      obtain ⟨rfl, rfl, rfl, rfl⟩ := h
      obtain ⟨hok, h0, hl⟩ := hc
      refine ⟨⟨Nat.le_refl _, Nat.le_refl _⟩, fun p l e R s m args below meth c H ls locs cells slots cells' slots' Q C r1 r2 hR hL hs hlk q1 q2 _ _ kk => ?_⟩
      have q1' : cells = cells' := by have : zS (mset S a i (.inr x)) = zS S := rfl; omega
      have q2' : slots = slots' := by have : qS (mset S a i (.inr x)) = qS S := rfl; omega
      subst q1'; subst q2'
      have KWs := C.2.2.2.2.2
      have main : ∀ (j : Nat) (E : String) (ts : List Nat), j < 4 → tS S a = 20 + j → (mtys G)[j]? = some (G.2.2.1 j, .object E) → (∀ b, x = some b → ts.contains (tS S b) = true) → AOK j E ts → W p l e R s m args below meth c H locs cells slots Q (F0 m pc ls ((.inr x :: .inl i :: .inr (some a) :: t : List MV).map cv)) := by
        intro j E ts hj e1 hty hx hA
        obtain ⟨N, g1, g2, g3⟩ := cell_arr (j := j) (hR.2.2.1 a (by omega)) e1 hj
        obtain ⟨b1, b2, b3, b4⟩ := idx_ok hs.t.h h0 (by rw [← g1]; exact hl)
        have hTT := (hK.at KWs).2 j _ hty
        cases x with
        | none =>
          exact va_WaastN (C := E) C.1 C.2.1 g3 (hTT.1 N _) (fun q => by cases q) (by rw [arrV_size]; exact b1) rfl rfl hd fun H' z1 z2 z3 => kk H' ls _ (hR.arr e1 hj g1 g2 h0 b2 hs.h z1 z2 z3) hL hs.t.t.t (hlk.put g2)
        | some b =>
          obtain ⟨ci, r, f1, f2, f3, f4⟩ := hA _ (List.contains_iff_mem.mp (hx b rfl))
          obtain ⟨-, -, cellV, v1, v2, v3, -⟩ := cell_obj (hR.2.2.1 b (by omega)) f1 f2 f3
          obtain ⟨kA, comp, k1, k2, k3, -⟩ := hTT.2
          obtain ⟨kE, hkE, -⟩ := Vm.findClass_spec k3
          obtain ⟨-, hfc, kC, hkC, -⟩ := (hK.at KWs).1 ci _ f3
          obtain ⟨c0, t0, w1, w2, w3⟩ := Cond.castable_spec (KWs.w (A := args) f4)
          cases hfc.symm.trans w1
          cases k3.symm.trans w2
          exact W.aast C.1 C.2.1 g3 (fun q h => by cases h) (fun h => by cases h) k1 k2 rfl hkE ⟨fun q => b1 (Or.inl q), by rw [arrV_size, b2]; exact b3⟩ v1 (fun q h => by rw [v3] at h; cases h) (by rw [v2]; exact hkC) (by rw [v2]; exact w3) rfl rfl hd fun H' z1 z2 z3 => kk H' ls _ (hR.arr e1 hj g1 g2 h0 b2 hs.h z1 z2 z3) hL hs.t.t.t (hlk.put g2)
      have hcase : (tS S a = 22 ∧ ∀ b, x = some b → ts2.contains (tS S b) = true) ∨ (tS S a = 23 ∧ ∀ b, x = some b → ts3.contains (tS S b) = true) := by
        unfold astOK at hok
        by_cases e22 : tS S a = 22
        · refine Or.inl ⟨e22, fun b hb => ?_⟩
          subst hb
          simpa [List.lookup, e22] using hok
        · by_cases e23 : tS S a = 23
          · refine Or.inr ⟨e23, fun b hb => ?_⟩
            subst hb
            simpa [List.lookup, e23] using hok
          · exfalso
            have n22 : (tS S a == 22) = false := by simpa using e22
            have n23 : (tS S a == 23) = false := by simpa using e23
            cases x <;> simp [List.lookup, n22, n23] at hok
      rcases hcase with ⟨e1, hx⟩ | ⟨e1, hx⟩
      · exact main 2 mThing ts2 (by omega) e1 rfl hx h2
      · exact main 3 mValue ts3 (by omega) e1 rfl hx h3
    · cases h
  · cases h
theorem s_len (hK : K0 G) (hd : decode (mB k) pc = .ok (.arraylength, 1)) : SI G k pc (i_len (pc + 1)) := by
  refine SI.pure fun L st S pc' L' st' S' h => ?_
  unfold i_len at h
  split at h
  · rename_i a t
    split at h
    · rename_i hc
      simp only [Option.some.injEq, Prod.mk.injEq] at h
      obtain ⟨rfl, rfl, rfl, rfl⟩ := h
      refine ⟨rfl, fun p l e R s m args below meth c H ls locs cells slots Q C _ _ hR hL hs kk => ?_⟩
      have k1 := kk ls hL (okS.c (v := .inl (lS S a)) (hR.2.2.2.1 a) hs.t)
      have KWs := C.2.2.2.2.2
      rcases hR.2.2.1 a (by omega) with ⟨ci', r', h1, h2, h3, h4, h5, h6⟩ | ⟨j, N, h1, h2, h3, h4, h5⟩ | ⟨N, h1, h2, scr, g2, g3, g4, g5, g6⟩
      · omega
      · have ht : ∃ ft, (mtys G)[j]? = some (G.2.2.1 j, ft) := by
          rcases (show j = 0 ∨ j = 1 ∨ j = 2 ∨ j = 3 by omega) with rfl | rfl | rfl | rfl <;> exact ⟨_, rfl⟩
        obtain ⟨ft, hft⟩ := ht
        refine W.alen (n := Int32.ofInt (lS S a)) C.1 C.2.1 h5 (((hK.at KWs).2 j _ hft).1 N _) ?_ rfl rfl hd k1
        rw [arrV_size, h3]
        exact Int32.ofInt_eq_ofNat.symm
      · refine W.alen (n := Int32.ofInt (lS S a)) C.1 C.2.1 g2 (State.isArrayOf_alike KWs.2.1 g3) ?_ rfl rfl hd k1
        rw [g5, h2]
        exact Int32.ofInt_eq_ofNat.symm
    · cases h
  · cases h
/-- an object of the kind ci can be made here -/
def NOK (k idx t n : Nat) (f : Int → MV) : Prop := ∃ (ci : Nat) (r : vw_C) (tys : Nat → FieldType), t = ci + 1 ∧ ci < 19 ∧ mcl[ci]? = some r ∧ r.2.2 = n ∧ (∀ j, j < n → parseFieldDescriptor (r.2.1 j).2.2.1 = some (tys j)) ∧ (∀ j, j < n → defaultValue (tys j) = cv (f (j : Int))) ∧ (∀ j, okV (f j)) ∧ (∀ w ∈ u_ws r.1 r.2.1 r.2.2, w ∈ mWS) ∧ Cond.classLink (mO k) idx r.1 ∈ mWS ∧ Cond.instantiable r.1 n ∈ mWS ∧ Cond.initialized r.1 ∈ mWS ∧ n < 1000
theorem s_new {idx t n : Nat} {f : Int → MV} (hK : K0 G) (hd : decode (mB k) pc = .ok (.new idx, 3)) (hn : NOK k idx t n f) : SI G k pc (i_new t n f (pc + 3)) := by
  intro L st S pc' L' st' S' h
  simp only [i_new, Option.some.injEq, Prod.mk.injEq] at h
  obtain ⟨rfl, rfl, rfl, rfl⟩ := h
  have z0 : zS (mnew S t (n : Int) f) = zS S + 1 := rfl
  have z1 : qS (mnew S t (n : Int) f) = qS S + n := by
    show qS S + ((n : Int)).toNat = qS S + n
    omega
  refine ⟨⟨by omega, by omega⟩, fun p l e R s m args below meth c H ls locs cells slots cells' slots' Q C r1 r2 hR hL hs hlk q1 q2 q3 q4 kk => ?_⟩
  obtain ⟨ci, r, tys, e1, e2, e3, e4, e5, e6, e7, e8, e9, e10, e11, e12⟩ := hn
  have KWs := C.2.2.2.2.2
  have hts' : ∀ w ∈ mWS, w.before args s = true := fun w hw => KWs.w hw
  have hKn := (hK.at KWs).1 ci _ e3
  have q1' : cells + 1 = cells' := by omega
  have q2' : slots + n = slots' := by omega
  subst q1'; subst q2'
  refine W.newcK C.1 C.2.1 C.2.2.2.1 (KWs.w e9) (KWs.w e10) (KWs.w e11) rfl hd q3 q4 hKn.2.1 hR.1 fun H1 kC hkC w1 w2 w3 => ?_
  refine kk H1 ls locs (hR.new (by rw [w2, hR.1]) (fun q hq => w3 q (by rw [← hR.1]; exact hq)) e7 ⟨by omega, by omega⟩ (Or.inl ⟨ci, r, e1, e2, e3, by rw [e4], hR.2.2.2.2, ?_⟩)) hL (okS.c (show okV (.inr (some (zS S))) from trivial) hs) hlk
  have hb := u_born (o := zS S) (H := H1) tys hts' e8 hKn hkC w1 (by rw [e4]; exact e5)
  exact hb.to (fun j hj => e6 j (by rw [← e4]; exact hj))
theorem newa_inv {t : Nat} {v : MV} {nx : Nat} {L L' : ML} {st st' : List MV} {S S' : MS} {pc' : Nat} (h : i_newa t v nx L st S = some (pc', L', st', S')) : ∃ n t', st = .inl n :: t' ∧ 0 ≤ n ∧ n ≤ 100000 ∧ pc' = nx ∧ L' = L ∧ st' = .inr (some (zS S)) :: t' ∧ S' = mnew S t n (fun _ => v) := by
  unfold i_newa at h
  split at h
  · rename_i n t'
    split at h
    · rename_i hc
      simp only [Option.some.injEq, Prod.mk.injEq] at h
      exact ⟨n, t', rfl, hc.1, hc.2, h.1.symm, h.2.1.symm, h.2.2.1.symm, h.2.2.2.symm⟩
    · cases h
  · cases h
theorem s_newa {at_ : ArrayType} {j : Nat} (hK : K0 G) (hd : decode (mB k) pc = .ok (.newarray at_, 2)) (hj : j < 4) (hty : (mtys G)[j]? = some (G.2.2.1 j, newarray.typeOf at_)) (hdf : defaultValue (newarray.typeOf at_) = cv (.inl 0)) (hcb : componentBytes (newarray.typeOf at_) ≤ 8) (hRA : ∀ cA, va_RA G.1 cA (newarray.typeOf at_) → G.1.vm.findClass ("[" ++ (newarray.typeOf at_).toString) = some cA) : SI G k pc (i_newa (20 + j) (.inl 0) (pc + 2)) := by
  intro L st S pc' L' st' S' h
  obtain ⟨n, t', rfl, h0, h1, rfl, rfl, rfl, rfl⟩ := newa_inv h
  have z0 : zS (mnew S (20 + j) n (fun _ => (.inl 0 : MV))) = zS S + 1 := rfl
  have z1 : qS (mnew S (20 + j) n (fun _ => (.inl 0 : MV))) = qS S + n.toNat := rfl
  refine ⟨⟨by omega, by omega⟩, fun p l e R s m args below meth c H ls locs cells slots cells' slots' Q C r1 r2 hR hL hs hlk q1 q2 q3 q4 kk => ?_⟩
  have KWs := C.2.2.2.2.2
  have q1' : cells + 1 = cells' := by omega
  have q2' : slots + n.toNat = slots' := by omega
  subst q1'; subst q2'
  have hnn : ¬ Int32.ofInt n < 0 := by rw [← ofInt_0, ofInt_lt hs.h inR0]; omega
  have hTT := (hK.at KWs).2 j _ hty
  have hf2 : s.vm.findClass ("[" ++ (newarray.typeOf at_).toString) = some (G.2.2.1 j) := by rw [KWs.2.1.findClass]; exact hRA _ ((hK.2 j _ hty).2)
  have harr : (Cond.arrayClass (newarray.typeOf at_)).before args s = true := by
    obtain ⟨-, kA, hkA, comp, hkind⟩ := hTT.1 0 (fun _ => .null)
    have hkA : s.vm.classes[G.2.2.1 j]? = some kA := hkA
    simp [Cond.before, Cond.holds, Cond.value, hf2, hkA, hkind]
  refine va_newaK C.1 C.2.1 harr rfl hd rfl hnn (ofInt_clamp hs.h) ?_ q3 q4 hR.1 fun H1 cA w1 w2 w3 _ w5 => ?_
  · have : n.toNat * componentBytes (newarray.typeOf at_) ≤ 100000 * 8 := Nat.mul_le_mul (by omega) hcb
    omega
  · have hcA : cA = G.2.2.1 j := Option.some.inj (w5.symm.trans hf2)
    subst hcA
    refine kk H1 ls locs (hR.new (by rw [w2, hR.1]) (fun q hq => w3 q (by rw [← hR.1]; exact hq)) (fun _ => inR0) hs.h (Or.inr (Or.inl ⟨j, n.toNat, rfl, hj, by omega, hR.2.2.2.2, ?_⟩))) hL (okS.c (show okV (.inr (some (zS S))) from trivial) hs.t) hlk
    rw [w1, hdf]
theorem s_anew {idx j : Nat} {E : String} (hK : K0 G) (hd : decode (mB k) pc = .ok (.anewarray idx, 3)) (hw : Cond.classLink (mO k) idx E ∈ mWS) (hw2 : E ∈ [mThing, mValue]) (hj : j < 4) (hty : (mtys G)[j]? = some (G.2.2.1 j, .object E)) : SI G k pc (i_newa (20 + j) (.inr none) (pc + 3)) := by
  intro L st S pc' L' st' S' h
  obtain ⟨n, t', rfl, h0, h1, rfl, rfl, rfl, rfl⟩ := newa_inv h
  have z0 : zS (mnew S (20 + j) n (fun _ => (.inr none : MV))) = zS S + 1 := rfl
  have z1 : qS (mnew S (20 + j) n (fun _ => (.inr none : MV))) = qS S + n.toNat := rfl
  refine ⟨⟨by omega, by omega⟩, fun p l e R s m args below meth c H ls locs cells slots cells' slots' Q C r1 r2 hR hL hs hlk q1 q2 q3 q4 kk => ?_⟩
  have KWs := C.2.2.2.2.2
  have q1' : cells + 1 = cells' := by omega
  have q2' : slots + n.toNat = slots' := by omega
  subst q1'; subst q2'
  have hnn : ¬ Int32.ofInt n < 0 := by rw [← ofInt_0, ofInt_lt hs.h inR0]; omega
  have hcl : (Int32.ofInt n).toNatClampNeg = n.toNat := ofInt_clamp hs.h
  refine W.anew C.1 C.2.1 C.2.2.2.1 (KWs.w hw) (va_AO.use (KWs.2.2.2 E hw2)) rfl hd rfl hnn (by rw [hcl]; omega) q3 (by rw [hcl]; exact q4) fun cA kA comp f1 f2 f3 f4 => ?_
  rw [hcl]
  have hcA : cA = G.2.2.1 j := by
    obtain ⟨kA', comp', g1, g2, g3, g4⟩ := ((hK.at KWs).2 j _ hty).2
    exact Option.some.inj (f1.symm.trans g4)
  subst hcA
  have z := kk (H.push { cls := G.2.2.1 j, slots := Array.replicate n.toNat .null, vm := .none }) ls locs (hR.new (by rw [Array.size_push]) (fun q hq => by rw [Array.getElem?_push, if_neg (Nat.ne_of_lt hq)]) (fun _ => trivial) hs.h (Or.inr (Or.inl ⟨j, n.toNat, rfl, hj, by omega, hR.2.2.2.2, by
    rw [← hR.1, Array.getElem?_push_size, arrV_new]
    rfl⟩))) hL (okS.c (show okV (.inr (some (zS S))) from trivial) hs.t) hlk
  rw [hR.1]
  exact z
/-- of a class test: which tags pass, which fail -/
def YOK (E : String) (ys : List Nat) : Prop := ∀ t ∈ ys, ∃ (ci : Nat) (r : vw_C), t = ci + 1 ∧ ci < 19 ∧ mcl[ci]? = some r ∧ Cond.castable r.1 E ∈ mWS
def ZOK (E : String) (ns : List Nat) : Prop := ∀ t ∈ ns, ∃ (ci : Nat) (r : vw_C), t = ci + 1 ∧ ci < 19 ∧ mcl[ci]? = some r ∧ (r.1, E) ∈ mNC
theorem recvR (hK : K0 G) {S : MS} {H : Heap} {a ci : Nat} {r : vw_C} {s : State} (hR : Rel G S H) (KWs : KW G s) (e1 : tS S a = ci + 1) (e2 : ci < 19) (e3 : mcl[ci]? = some r) : ∃ cell : Cell, H[a]? = some cell ∧ cell.vm.isStatics = false ∧ s.vm.findClass r.1 = some cell.cls := by
  obtain ⟨-, -, cell, g3, g4, g5, -⟩ := cell_obj (hR.2.2.1 a (by omega)) e1 e2 e3
  exact ⟨cell, g3, by rw [g5]; rfl, by rw [g4]; exact ((hK.at KWs).1 ci _ e3).2.1⟩
theorem s_inst {idx : Nat} {E : String} {ys ns : List Nat} (hK : K0 G) (hd : decode (mB k) pc = .ok (.instanceof idx, 3)) (hw : Cond.classLink (mO k) idx E ∈ mWS) (hy : YOK E ys) (hn : ZOK E ns) : SI G k pc (i_ins ys ns (pc + 3)) := by
  refine SI.pure fun L st S pc' L' st' S' h => ?_
  unfold i_ins at h
  split at h
  · simp only [Option.some.injEq, Prod.mk.injEq] at h
    obtain ⟨rfl, rfl, rfl, rfl⟩ := h
    exact ⟨rfl, fun p l e R s m args below meth c H ls locs cells slots Q C _ _ hR hL hs kk => lv_instN C.1 C.2.1 hd (kk ls hL (okS.c (v := .inl 0) inR0 hs.t))⟩
  · rename_i a t
    split at h
    · rename_i hc
      simp only [Option.some.injEq, Prod.mk.injEq] at h
      obtain ⟨rfl, rfl, rfl, rfl⟩ := h
      refine ⟨rfl, fun p l e R s m args below meth c H ls locs cells slots Q C _ _ hR hL hs kk => ?_⟩
      have KWs := C.2.2.2.2.2
      obtain ⟨ci, r, e1, e2, e3, e4⟩ := hy _ (List.contains_iff_mem.mp hc)
      exact va_instY C.1 C.2.1 C.2.2.2.1 (KWs.w hw) (KWs.1 _ e4) (recvR hK hR KWs e1 e2 e3) hd (kk ls hL (okS.c (v := .inl 1) (show inR 1 by decide) hs.t))
    · split at h
      · rename_i hc
        simp only [Option.some.injEq, Prod.mk.injEq] at h
        obtain ⟨rfl, rfl, rfl, rfl⟩ := h
        refine ⟨rfl, fun p l e R s m args below meth c H ls locs cells slots Q C _ _ hR hL hs kk => ?_⟩
        have KWs := C.2.2.2.2.2
        obtain ⟨ci, r, e1, e2, e3, e4⟩ := hn _ (List.contains_iff_mem.mp hc)
        exact va_instNo C.1 C.2.1 C.2.2.2.1 (KWs.w hw) (KWs.2.2.1 _ e4) (recvR hK hR KWs e1 e2 e3) hd (kk ls hL (okS.c (v := .inl 0) inR0 hs.t))
      · cases h
  · cases h
theorem s_cast {idx : Nat} {E : String} {ys : List Nat} (hK : K0 G) (hd : decode (mB k) pc = .ok (.checkcast idx, 3)) (hw : Cond.classLink (mO k) idx E ∈ mWS) (hy : YOK E ys) : SI G k pc (i_cst ys (pc + 3)) := by
  refine SI.pure fun L st S pc' L' st' S' h => ?_
  unfold i_cst at h
  split at h
  · simp only [Option.some.injEq, Prod.mk.injEq] at h
    obtain ⟨rfl, rfl, rfl, rfl⟩ := h
    exact ⟨rfl, fun p l e R s m args below meth c H ls locs cells slots Q C _ _ hR hL hs kk => lv_castN C.1 C.2.1 hd (kk ls hL hs)⟩
  · rename_i a t
    split at h
    · rename_i hc
      simp only [Option.some.injEq, Prod.mk.injEq] at h
      obtain ⟨rfl, rfl, rfl, rfl⟩ := h
      refine ⟨rfl, fun p l e R s m args below meth c H ls locs cells slots Q C _ _ hR hL hs kk => ?_⟩
      have KWs := C.2.2.2.2.2
      obtain ⟨ci, r, e1, e2, e3, e4⟩ := hy _ (List.contains_iff_mem.mp hc)
      exact va_castY C.1 C.2.1 C.2.2.2.1 (KWs.w hw) (KWs.1 _ e4) (recvR hK hR KWs e1 e2 e3) hd (kk ls hL hs)
    · cases h
  · cases h
theorem cv_sum (st : List MV) : ((st.map cv).map fun v => v.category).sum = st.length := by
  induction st with
  | nil => rfl
  | cons a t ih => simp only [List.map_cons, List.sum_cons, List.length_cons, ih, cv_cat]; omega
theorem s_obj {idx : Nat} (hd : decode (mB k) pc = .ok (.invokespecial idx, 3)) (h1 : Cond.methodLink (mO k) idx Lib.objectInit ∈ mWS) (h2 : Cond.instanceMethod Lib.objectInit ∈ mWS) (h3 : Cond.code Lib.objectInit ⟨#[0xb1]⟩ 1 none ∈ mWS) : SI G k pc (i_obj (pc + 3)) := by
  refine SI.pure fun L st S pc' L' st' S' h => ?_
  unfold i_obj at h
  split at h
  · rename_i a t
    split at h
    · rename_i hc
      simp only [Option.some.injEq, Prod.mk.injEq] at h
      obtain ⟨rfl, rfl, rfl, rfl⟩ := h
      refine ⟨rfl, fun p l e R s m args below meth c H ls locs cells slots Q C r1 r2 hR hL hs kk => ?_⟩
      have KWs := C.2.2.2.2.2
      refine W.objInit C.1 C.2.1 C.2.2.2.1 (KWs.w h1) (KWs.w h2) (KWs.w h3) rfl (by rw [C.2.2.1]; exact hL.1.1) rfl hd r1 ?_ (kk ls hL hs.t)
      rw [cv_sum]
      show 2 * 0 + t.length + 12 ≤ R.locals
      omega
    · cases h
  · cases h
end MINS
end
section
/-! calls, returns, and the whole run -/
section MRUN
variable {G : MG} {k pc : Nat}
def wdC (k' : Nat) : Cond := .code (mY k') (mB k') (mL k') (mR k')
/-- a call is sound: with any contract of the callee it runs -/
def SC (G : MG) (k pc : Nat) (mc0 : MC) : Prop := mc0.2.2.2 = pc + 3 ∧ ∀ (st : List MV) (S : MS) (k' : Nat) (as rest : List MV), mcallee mc0.1 mc0.2.1 mc0.2.2.1 st S = some (k', as, rest) →
  ∀ (p : Program) (l : Launch) (e : Env) (R : Room) (s : State) (m : MethodId) (args : Array Value) (below : List Frame) (meth : Method) (c : Code) (H : Heap) (ls : Array Slot) (locs : List Loc) (cells slots mc ms : Nat) (rm : Room) (Pc : Array Value → State → Prop) (Qc : Array Value → State → Outcome → State → Prop) (free : Addr → Prop),
    CX G k p s m meth c → Rel G S H → Met l (mY k') [wdC k'] rm Pc Qc mc ms free → rm.cells = mc → rm.slots = ms → rm.frames + 1 ≤ R.frames → 8 + (mL k' + 11) + rm.locals ≤ R.locals → FrameBlind Pc → (∀ U : State, U.heap = H → s.WarmedH U.vm → Pc (as.map cv).toArray U) → ls.size = mL k → cells + mc ≤ R.cells ∧ slots + ms ≤ R.slots →
    va_Run p l e R s m args below meth c H locs cells slots mc ms (F0 m pc ls (st.map cv)) (rest.map cv) (Qc (as.map cv).toArray) free
theorem callee_inv {sta : Bool} {na : Nat} {tg : List (Nat × Nat)} {st : List MV} {S : MS} {k' : Nat} {as rest : List MV} (h : mcallee sta na tg st S = some (k', as, rest)) : st = as.reverse ++ rest ∧ as.length = na ∧ rest.length ≤ 8 ∧ ((sta = true ∧ tg.lookup 0 = some k') ∨ (sta = false ∧ ∃ b as', as = .inr (some b) :: as' ∧ tg.lookup (tS S b) = some k')) := by
  unfold mcallee at h
  split at h
  · rename_i hc
    have key : ∀ as' : List MV, as' = (st.take na).reverse → st = as'.reverse ++ st.drop na ∧ as'.length = na := by
      intro as' e
      subst e
      rw [List.reverse_reverse, List.take_append_drop, List.length_reverse, List.length_take]
      exact ⟨rfl, by omega⟩
    split at h
    · cases hl : tg.lookup 0 with
      | none => rw [hl] at h; cases h
      | some q =>
        rw [hl] at h
        simp only [Option.map_some, Option.some.injEq, Prod.mk.injEq] at h
        obtain ⟨rfl, rfl, rfl⟩ := h
        exact ⟨(key _ rfl).1, (key _ rfl).2, hc.2, Or.inl ⟨rfl, rfl⟩⟩
    · split at h
      · rename_i b as' he
        cases hl : tg.lookup (tS S b) with
        | none => rw [hl] at h; cases h
        | some q =>
          rw [hl] at h
          simp only [Option.map_some, Option.some.injEq, Prod.mk.injEq] at h
          obtain ⟨rfl, rfl, rfl⟩ := h
          exact ⟨(key _ he.symm).1, (key _ he.symm).2, hc.2, Or.inr ⟨rfl, b, as', rfl, hl⟩⟩
      · cases h
  · cases h
theorem room8 {m : MethodId} {pc : Nat} {ls : Array Slot} {x : List Value} {rest : List MV} (h : rest.length ≤ 8) : 2 * (F0 m pc ls x).monitorRoom + ((rest.map cv).map fun v => v.category).sum ≤ 8 := by
  rw [cv_sum]
  show 2 * 0 + rest.length ≤ 8
  omega
/-- what a callee must have whoever calls it -/
def COK (k' n : Nat) : Prop := wdC k' ∈ mWS ∧ Cond.initialized (mY k').cls ∈ mWS ∧ ((mY k').cls ≠ "java/lang/invoke/MethodHandle" ∧ (mY k').cls ≠ "java/lang/invoke/VarHandle") ∧ (parseMethodDescriptor (mY k').desc).map (fun d => d.parameters.length) = some n
theorem COK.len {k' n : Nat} (h : COK k' n) : ∀ sig, parseMethodDescriptor (mY k').desc = some sig → n = sig.parameters.length := fun sig hs => by
  have h2 := h.2.2.2
  rw [hs] at h2
  exact (Option.some.inj h2).symm
theorem COK.ws {k' n : Nat} (h : COK k' n) {s : State} (hk : KW G s) : ∀ w ∈ [wdC k'], ∀ (a' : Array Value) (U : State), s.WarmedH U.vm → w.before a' U = true := fun w hw a' U hW => by
  rw [List.mem_singleton.mp hw]
  exact (hk.warm hW).w h.1
theorem map_rev (as rest : List MV) : (as.reverse ++ rest).map cv = (as.map cv).reverse ++ rest.map cv := by
  rw [List.map_append, List.map_reverse]
theorem lookup1 {α : Type} {a b : Nat} {x y : α} (h : [(a, x)].lookup b = some y) : b = a ∧ y = x := by
  unfold List.lookup at h
  split at h
  · rename_i hb
    exact ⟨by simpa using hb, (Option.some.inj h).symm⟩
  · cases h
theorem lookup_mem {α : Type} {l : List (Nat × α)} {b : Nat} {y : α} (h : l.lookup b = some y) : (b, y) ∈ l := by
  induction l with
  | nil => cases h
  | cons q t ih =>
    obtain ⟨a, x⟩ := q
    unfold List.lookup at h
    split at h
    · rename_i hb
      have e : b = a := by simpa using hb
      rw [e, ← Option.some.inj h]
      exact List.mem_cons_self
    · exact List.mem_cons_of_mem _ (ih h)
theorem c_static {idx n k1 : Nat} (hd : decode (mB k) pc = .ok (.invokestatic idx, 3)) (hk : COK k1 n) (hl : Cond.methodLink (mO k) idx (mY k1) ∈ mWS) (hs : Cond.static (mY k1) ∈ mWS) : SC G k pc (true, n, [(0, k1)], pc + 3) := by
  refine ⟨rfl, fun st S k' as rest h p l e R s m args below meth c H ls locs cells slots mc ms rm Pc Qc free C hR hM r1 r2 r3 r4 hb hP hls hf => ?_⟩
  obtain ⟨rfl, e2, e3, e4⟩ := callee_inv h
  rcases e4 with ⟨-, e4⟩ | ⟨e4, -⟩
  · obtain ⟨-, rfl⟩ := lookup1 e4
    have KWs := C.2.2.2.2.2
    rw [map_rev]
    exact va_runS (n := n) (ws := [wdC k']) ⟨C.1, C.2.1, C.2.2.1, C.2.2.2.1, fun w (hw : w ∈ mWS) => KWs.w hw⟩ hM ⟨⟨r1, r2, r3, r4, hk.ws KWs, List.mem_singleton.mpr rfl, KWs.w hk.1, KWs.w hk.2.1, hk.2.2.1, hk.len, KWs.w hl⟩, KWs.w hs⟩ ⟨hb, hP⟩ rfl (by rw [List.length_map]; exact e2) hls rfl (room8 e3) hd hf
  · cases e4
theorem c_staticN {idx n k1 : Nat} {host : String} (hd : decode (mB k) pc = .ok (.invokestatic idx, 3)) (hk : COK k1 n) (hl : Cond.methodLinkNest (mO k) idx (mY k1) host ∈ mWS) (hs : Cond.static (mY k1) ∈ mWS) : SC G k pc (true, n, [(0, k1)], pc + 3) := by
  refine ⟨rfl, fun st S k' as rest h p l e R s m args below meth c H ls locs cells slots mc ms rm Pc Qc free C hR hM r1 r2 r3 r4 hb hP hls hf => ?_⟩
  obtain ⟨rfl, e2, e3, e4⟩ := callee_inv h
  rcases e4 with ⟨-, e4⟩ | ⟨e4, -⟩
  · obtain ⟨-, rfl⟩ := lookup1 e4
    have KWs := C.2.2.2.2.2
    rw [map_rev]
    exact va_runSN (n := n) (host := host) (ws := [wdC k']) ⟨C.1, C.2.1, C.2.2.1, C.2.2.2.1, fun w (hw : w ∈ mWS) => KWs.w hw⟩ hM ⟨⟨⟨r1, r2, r3, r4, hk.ws KWs, List.mem_singleton.mpr rfl⟩, KWs.w hk.1, KWs.w hk.2.1, hk.2.2.1, hk.len, KWs.w hl⟩, KWs.w hs, trivial⟩ ⟨hb, hP⟩ rfl (by rw [List.length_map]; exact e2) hls rfl (room8 e3) hd hf
  · cases e4
theorem c_init {idx n k1 : Nat} {ts : List Nat} (hd : decode (mB k) pc = .ok (.invokespecial idx, 3)) (hk : COK k1 n) (hl : Cond.methodLink (mO k) idx (mY k1) ∈ mWS) (hin : Cond.instanceMethod (mY k1) ∈ mWS) (hnm : (mY k1).name = "<init>") (hrt : mR k1 = none) : SC G k pc (false, n + 1, ts.map (fun t => (t, k1)), pc + 3) := by
  refine ⟨rfl, fun st S k' as rest h p l e R s m args below meth c H ls locs cells slots mc ms rm Pc Qc free C hR hM r1 r2 r3 r4 hb hP hls hf => ?_⟩
  obtain ⟨rfl, e2, e3, e4⟩ := callee_inv h
  rcases e4 with ⟨e4, -⟩ | ⟨-, b, as', rfl, e5⟩
  · cases e4
  · have hk' : k1 = k' := by
      have h9 := lookup_mem e5
      obtain ⟨t, -, ht⟩ := List.mem_map.mp h9
      exact congrArg Prod.snd ht
    subst hk'
    have KWs := C.2.2.2.2.2
    rw [map_rev, List.map_cons, List.reverse_cons, List.append_assoc]
    have e6 : as'.length = n := by simpa using e2
    have hcd : Cond.code (mY k1) (mB k1) (mL k1) none = wdC k1 := by unfold wdC; rw [hrt]
    exact va_runI (n := n) (b := b) (bytes := mB k1) (maxL := mL k1) (ws := [wdC k1]) ⟨C.1, C.2.1, C.2.2.1, C.2.2.2.1, fun w (hw : w ∈ mWS) => KWs.w hw⟩ hM ⟨⟨r1, r2, r3, r4, hk.ws KWs, by rw [hcd]; exact List.mem_singleton.mpr rfl, by rw [hcd]; exact KWs.w hk.1, KWs.w hk.2.1, hk.2.2.1, hk.len, KWs.w hl⟩, hnm, KWs.w hin⟩ ⟨hb, hP⟩ rfl (by rw [List.length_map]; exact e6) hls rfl (room8 e3) hd hf
theorem c_initN {idx n k1 : Nat} {host : String} {ts : List Nat} (hd : decode (mB k) pc = .ok (.invokespecial idx, 3)) (hk : COK k1 n) (hl : Cond.methodLinkNest (mO k) idx (mY k1) host ∈ mWS) (hin : Cond.instanceMethod (mY k1) ∈ mWS) (hnm : (mY k1).name = "<init>") (hrt : mR k1 = none) : SC G k pc (false, n + 1, ts.map (fun t => (t, k1)), pc + 3) := by
  refine ⟨rfl, fun st S k' as rest h p l e R s m args below meth c H ls locs cells slots mc ms rm Pc Qc free C hR hM r1 r2 r3 r4 hb hP hls hf => ?_⟩
  obtain ⟨rfl, e2, e3, e4⟩ := callee_inv h
  rcases e4 with ⟨e4, -⟩ | ⟨-, b, as', rfl, e5⟩
  · cases e4
  · have hk' : k1 = k' := by
      have h9 := lookup_mem e5
      obtain ⟨t, -, ht⟩ := List.mem_map.mp h9
      exact congrArg Prod.snd ht
    subst hk'
    have KWs := C.2.2.2.2.2
    rw [map_rev, List.map_cons, List.reverse_cons, List.append_assoc]
    have e6 : as'.length = n := by simpa using e2
    have hcd : Cond.code (mY k1) (mB k1) (mL k1) none = wdC k1 := by unfold wdC; rw [hrt]
    exact va_runIN (n := n) (b := b) (host := host) (bytes := mB k1) (maxL := mL k1) (ws := [wdC k1]) ⟨C.1, C.2.1, C.2.2.1, C.2.2.2.1, fun w (hw : w ∈ mWS) => KWs.w hw⟩ hM ⟨⟨⟨r1, r2, r3, r4, hk.ws KWs, by rw [hcd]; exact List.mem_singleton.mpr rfl⟩, by rw [hcd]; exact KWs.w hk.1, KWs.w hk.2.1, hk.2.2.1, hk.len, KWs.w hl⟩, hnm, KWs.w hin⟩ ⟨hb, hP⟩ rfl (by rw [List.length_map]; exact e6) hls rfl (room8 e3) hd hf
theorem c_virt {idx n : Nat} {tg : List (Nat × Nat)} (hK : K0 G) (hd : decode (mB k) pc = .ok (.invokevirtual idx, 3)) (ht : ∀ q ∈ tg, COK q.2 n ∧ Cond.methodLink (mO k) idx (mY q.2) ∈ mWS ∧ Cond.instanceMethod (mY q.2) ∈ mWS ∧ ∃ (ci : Nat) (r : vw_C), q.1 = ci + 1 ∧ ci < 19 ∧ mcl[ci]? = some r ∧ Cond.selects r.1 (mY q.2) (mY q.2) ∈ mWS) : SC G k pc (false, n + 1, tg, pc + 3) := by
  refine ⟨rfl, fun st S k' as rest h p l e R s m args below meth c H ls locs cells slots mc ms rm Pc Qc free C hR hM r1 r2 r3 r4 hb hP hls hf => ?_⟩
  obtain ⟨rfl, e2, e3, e4⟩ := callee_inv h
  rcases e4 with ⟨e4, -⟩ | ⟨-, b, as', rfl, e5⟩
  · cases e4
  · obtain ⟨hk, hl, hin, ci, r, f1, f2, f3, f4⟩ := ht _ (lookup_mem e5)
    have KWs := C.2.2.2.2.2
    rw [map_rev, List.map_cons, List.reverse_cons, List.append_assoc]
    have e6 : as'.length = n := by simpa using e2
    exact va_runV (n := n) (b := b) (C := r.1) (ws := [wdC k']) ⟨C.1, C.2.1, C.2.2.1, C.2.2.2.1, fun w (hw : w ∈ mWS) => KWs.w hw⟩ hM ⟨⟨r1, r2, r3, r4, hk.ws KWs, List.mem_singleton.mpr rfl, KWs.w hk.1, KWs.w hk.2.1, hk.2.2.1, hk.len, KWs.w hl⟩, KWs.w hin, KWs.w f4⟩ ⟨hb, recvR hK hR KWs f1 f2 f3, hP⟩ rfl (by rw [List.length_map]; exact e6) hls rfl (room8 e3) hd hf
/-- a call that names an abstract method -/
theorem c_abs {idx n : Nat} {x : MethodName} {owner : String} {tg : List (Nat × Nat)} (hK : K0 G) (hd : decode (mB k) pc = .ok (.invokevirtual idx, 3)) (hl : Cond.methodLink (mO k) idx x ∈ mWS) (hsm : Cond.sameMethod x.cls owner x.name x.desc ∈ mWS) (hdc : Cond.declares ⟨owner, x.name, x.desc⟩ ∈ mWS) (how : owner ≠ "java/lang/invoke/MethodHandle" ∧ owner ≠ "java/lang/invoke/VarHandle") (hln : (parseMethodDescriptor x.desc).map (fun d => d.parameters.length) = some n)
    (ht : ∀ q ∈ tg, COK q.2 n ∧ Cond.instanceMethod (mY q.2) ∈ mWS ∧ ∃ (ci : Nat) (r : vw_C), q.1 = ci + 1 ∧ ci < 19 ∧ mcl[ci]? = some r ∧ Cond.selects r.1 x (mY q.2) ∈ mWS) : SC G k pc (false, n + 1, tg, pc + 3) := by
  refine ⟨rfl, fun st S k' as rest h p l e R s m args below meth c H ls locs cells slots mc ms rm Pc Qc free C hR hM r1 r2 r3 r4 hb hP hls hf => ?_⟩
  obtain ⟨rfl, e2, e3, e4⟩ := callee_inv h
  rcases e4 with ⟨e4, -⟩ | ⟨-, b, as', rfl, e5⟩
  · cases e4
  · obtain ⟨hk, hin, ci, r, f1, f2, f3, f4⟩ := ht _ (lookup_mem e5)
    have KWs := C.2.2.2.2.2
    rw [map_rev, List.map_cons, List.reverse_cons, List.append_assoc]
    have e6 : as'.length = n := by simpa using e2
    exact va_runU (n := n) (b := b) (C := r.1) (owner := owner) (x := x) (ws := [wdC k']) (bytes := mB k') (maxL := mL k') (ret := mR k') ⟨C.1, C.2.1, C.2.2.1, C.2.2.2.1, fun w (hw : w ∈ mWS) => KWs.w hw⟩ hM ⟨⟨r1, r2, r3, r4, hk.ws KWs, List.mem_singleton.mpr rfl⟩, KWs.w hk.1, KWs.w hk.2.1, how, fun sig hs => (by rw [hs] at hln; exact (Option.some.inj hln).symm), KWs.w hl, KWs.w hsm, va_Decl.abs (KWs.1 _ hdc), KWs.w f4, KWs.w hin⟩ ⟨hb, recvR hK hR KWs f1 f2 f3, hP⟩ rfl (by rw [List.length_map]; exact e6) hls rfl (room8 e3) hd hf
-- returns
def SR (k pc rk : Nat) : Prop := match rk with
  | 0 => decode (mB k) pc = .ok (.ireturn, 1) ∧ mR k = some .int
  | 1 => decode (mB k) pc = .ok (.ireturn, 1) ∧ mR k = some .boolean
  | 2 => decode (mB k) pc = .ok (.areturn, 1) ∧ ∃ n, mR k = some (.object n)
  | 3 => decode (mB k) pc = .ok (.return_, 1) ∧ mR k = none
  | _ => False
/-- a method's own tables fit -/
def MOK (k' : Nat) : Prop := plainName (mY k').cls = true ∧ mO k' = (mY k').cls ∧ (mN k' = true → (mY k').name = "<init>") ∧ mL k' ≤ 21
def SE (G : MG) (k pc : Nat) (x : ME) : Prop := match x with
  | .inl mi => SI G k pc mi
  | .inr (.inl mc) => SC G k pc mc ∧ ∀ q ∈ mc.2.2.1, MOK q.2 ∧ mc.2.1 ≤ mL q.2
  | .inr (.inr rk) => SR k pc rk
theorem mret_s {rk : Nat} {st : List MV} {S : MS} {r : Option MV × MS} (h : mret rk st S = some r) : r.2 = S ∧ st = r.1.toList := by
  unfold mret at h
  split at h
  · cases h; exact ⟨rfl, rfl⟩
  · split at h
    · cases h; exact ⟨rfl, rfl⟩
    · cases h
  · cases h; exact ⟨rfl, rfl⟩
  · cases h; exact ⟨rfl, rfl⟩
  · cases h
/-- what a run gives at the machine -/
def RunOK (G : MG) (d k pc : Nat) (L : ML) (st : List MV) (S : MS) (r : Option MV × MS) : Prop := (zS S ≤ zS r.2 ∧ qS S ≤ qS r.2) ∧
  ∀ (p : Program) (l : Launch) (e : Env) (R : Room) (s : State) (m : MethodId) (args : Array Value) (below : List Frame) (meth : Method) (c : Code) (H : Heap) (ls : Array Slot) (locs : List Loc) (cells slots cE sE : Nat) (Q : State → Prop),
    CX G k p s m meth c → d + 1 ≤ R.frames → 40 * (d + 1) ≤ R.locals → Rel G S H → LR (mL k) ls L → okS st → LK G locs → cE + zS S = cells + zS r.2 → sE + qS S = slots + qS r.2 → cE ≤ R.cells → sE ≤ R.slots →
    (∀ (pc' rk : Nat) (H' : Heap) (ls' : Array Slot) (locs' : List Loc) (st' : List MV), mcd k pc' = some (.inr (.inr rk)) → mret rk st' r.2 = some r → Rel G r.2 H' → okS st' → LK G locs' → W p l e R s m args below meth c H' locs' cE sE Q (F0 m pc' ls' (st'.map cv))) →
    W p l e R s m args below meth c H locs cells slots Q (F0 m pc ls (st.map cv))
theorem entryLR {nL : Nat} {as : List MV} (ha : okS as) (hl : as.length ≤ nL) (m : MethodId) : ∃ ls, entryFrame m (as.map cv).toArray nL = F0 m 0 ls [] ∧ LR nL ls (mentry nL as) := by
  have hsl : lg_sl (as.map cv) = (as.map cv).map Slot.val := by
    clear ha hl
    induction as with
    | nil => rfl
    | cons a t ih =>
      unfold lg_sl at ih ⊢
      rw [List.map_cons, List.flatMap_cons, ih, if_neg (by rw [cv_cat]; decide)]
      rfl
  have h1 := lv_entry (as.map cv) (n := nL) (by rw [hsl, List.length_map, List.length_map]; exact hl)
  refine ⟨_, lg_entry_eq m (as.map cv) nL, ⟨h1.1, h1.2.1, fun q hq => ?_⟩, ?_, fun v hv => ?_⟩
  · obtain ⟨v, e1, e2⟩ := lvl_mem hq
    unfold mentry at e1
    by_cases hi : q.1 < as.length
    · rw [List.getElem?_append_left (by rw [List.length_map]; exact hi), List.getElem?_map] at e1
      cases hx : as[q.1]? with
      | none => rw [hx] at e1; cases e1
      | some w =>
        rw [hx] at e1
        have e3 : w = v := Option.some.inj (Option.some.inj e1)
        rw [hsl, List.getElem?_toArray, List.getElem?_append_left (by rw [List.length_map, List.length_map]; exact hi), List.getElem?_map, List.getElem?_map, hx, e3, e2]
        rfl
    · rw [List.getElem?_append_right (by rw [List.length_map]; omega)] at e1
      have := List.mem_of_getElem? e1
      have h9 := List.eq_of_mem_replicate this
      cases h9
  · unfold mentry
    rw [List.length_append, List.length_map, List.length_replicate]
    omega
  · unfold mentry at hv
    rcases List.mem_append.mp hv with h | h
    · obtain ⟨w, hw, e⟩ := List.mem_map.mp h
      cases e
      exact ha v hw
    · cases List.eq_of_mem_replicate h
def McPc (G : MG) (as : List MV) (S : MS) : Array Value → State → Prop := fun v U => v = (as.map cv).toArray ∧ KW G U ∧ Rel G S U.heap
def McQc (G : MG) (r : Option MV × MS) : Array Value → State → Outcome → State → Prop := fun _ _ oc t => oc = .returned (r.1.map cv) ∧ Rel G r.2 t.heap ∧ okS r.1.toList
theorem calling_vm (U : State) (g : JFrame) (mk : MethodId) (a : Array Value) : U.vm = (U.calling g mk a).vm := rfl
theorem McPc.blind {as : List MV} {S : MS} : FrameBlind (McPc G as S) := fun a U g mk h => ⟨h.1, h.2.1.same (calling_vm U g mk a), h.2.2⟩
theorem run_met {d k' : Nat} {as : List MV} {S : MS} {r : Option MV × MS} (hp : ∀ k pc x, mcd k pc = some x → SE G k pc x) (h : RunOK G d k' 0 (mentry (mL k') as) [] S r) (hk : MOK k') (hl : as.length ≤ mL k') (ha : okS as) (l : Launch) :
    Met l (mY k') [wdC k'] { frames := d + 1, cells := zS r.2 - zS S, slots := qS r.2 - qS S, locals := 40 * (d + 1) } (McPc G as S) (McQc G r) (zS r.2 - zS S) (qS r.2 - qS S) (fun q => G.2.2.2 ≤ q) := by
  obtain ⟨rv, rS⟩ := r
  refine Met.ofW (cc := mB k') (maxL := mL k') (ret := mR k') hk.1 rfl ?_
  intro p e s m args below meth c s₁ B hml hv
  obtain ⟨rfl, hkw, hR⟩ := hv
  obtain ⟨ls, e1, e2⟩ := entryLR ha hl m
  rw [e1]
  have hC : CX G k' p s m meth c := ⟨B.exec, B.bytes, hml, by rw [hk.2.1]; exact findClass_of_methodNamed B.named, fun z => by rw [(name_of_methodNamed B.named B.method).1]; exact hk.2.2.1 z, hkw⟩
  refine h.2 p l e _ s m _ below meth c s.heap ls [] 0 0 (zS rS - zS S) (qS rS - qS S) _ hC (Nat.le_refl _) (Nat.le_refl _) hR e2 (fun v hv => by cases hv) (fun q hq => by cases hq) (by have h9 : zS S ≤ zS rS := h.1.1; show zS rS - zS S + zS S = 0 + zS rS; omega) (by have h9 : qS S ≤ qS rS := h.1.2; show qS rS - qS S + qS S = 0 + qS rS; omega) (Nat.le_refl _) (Nat.le_refl _) ?_
  intro pc' rk H' ls' locs' st' hcd hr hR' hs' hlk
  have hret := hp _ _ _ hcd
  have hx := B.exec
  have hb := B.bytes
  have hrt := B.returns
  have hq : ∀ t : State, t.heap = H' → McQc G (rv, rS) (as.map cv).toArray s (.returned (rv.map cv)) t := fun t ht => ⟨rfl, by rw [ht]; exact hR', by rw [← (mret_s hr).2]; exact hs'⟩
  unfold mret at hr
  split at hr
  · obtain ⟨d1, d2⟩ := hret
    cases hr
    exact W.iret hx hb (hrt.trans d2) (fun t ht _ => hq t ht) hlk d1 B.notSynchronized
  · split at hr
    · rename_i e he
      obtain ⟨d1, d2⟩ := hret
      cases hr
      refine W.zret hx hb (hrt.trans d2) ?_ (fun t ht _ => hq t ht) hlk d1 B.notSynchronized
      rcases he with rfl | rfl <;> decide
    · cases hr
  · rename_i rr
    obtain ⟨d1, n, d2⟩ := hret
    cases hr
    refine W.aret hx hb (hrt.trans d2) (Or.inl ⟨n, rfl⟩) ?_ (fun t ht _ => hq t ht) hlk d1 B.notSynchronized
    cases rr with
    | none => exact Or.inl rfl
    | some a => exact Or.inr ⟨a, rfl⟩
  · obtain ⟨d1, d2⟩ := hret
    cases hr
    exact W.vret hx hb (hrt.trans d2) (fun t ht _ => hq t ht) hlk d1 B.notSynchronized
  · cases hr
set_option maxHeartbeats 2000000 in
/-- a run of the mini-machine is a run of the machine -/
theorem mx_sound (hp : ∀ k pc x, mcd k pc = some x → SE G k pc x) : ∀ (n d k pc : Nat) (L : ML) (st : List MV) (S : MS) (r : Option MV × MS), mx mcd mL n d k pc L st S = some r → RunOK G d k pc L st S r := by
  intro n
  induction n with
  | zero => intro d k pc L st S r h; cases h
  | succ n ih =>
    intro d k pc L st S r h
    unfold mx at h
    split at h
    · cases h
    · rename_i mi hcd
      split at h
      · cases h
      · rename_i pc' L' st' S' hmi
        have h1 := ih _ _ _ _ _ _ _ h
        have h2 : SI G k pc mi := hp _ _ _ hcd
        obtain ⟨⟨m1, m2⟩, h3⟩ := h2 _ _ _ _ _ _ _ hmi
        refine ⟨⟨Nat.le_trans m1 h1.1.1, Nat.le_trans m2 h1.1.2⟩, fun p l e R s m args below meth c H ls locs cells slots cE sE Q C r1 r2 hR hL hs hlk q1 q2 q3 q4 kk => ?_⟩
        have n1 := h1.1.1
        have n2 := h1.1.2
        refine h3 p l e R s m args below meth c H ls locs cells slots (cells + (zS S' - zS S)) (slots + (qS S' - qS S)) Q C (by omega) (by omega) hR hL hs hlk (by omega) (by omega) (by omega) (by omega) ?_
        intro H' ls' locs' hR' hL' hs' hlk'
        exact h1.2 p l e R s m args below meth c H' ls' locs' _ _ cE sE Q C r1 r2 hR' hL' hs' hlk' (by omega) (by omega) q3 q4 kk
    · rename_i sta na tg nx hcd
      split at h
      · cases h
      · rename_i d
        split at h
        · cases h
        · rename_i k' as rest hce
          split at h
          · cases h
          · rename_i v S' hrun
            have h1 := ih _ _ _ _ _ _ _ hrun
            have h2 := ih _ _ _ _ _ _ _ h
            have h3 : SC G k pc (sta, na, tg, nx) ∧ ∀ q ∈ tg, MOK q.2 ∧ na ≤ mL q.2 := hp _ _ _ hcd
            obtain ⟨⟨hnx, h4⟩, hm⟩ := h3
            have hnx : nx = pc + 3 := hnx
            subst hnx
            have h5 := h4 st S k' as rest hce
            obtain ⟨e1, e2, e3, e4⟩ := callee_inv hce
            have hk : MOK k' ∧ na ≤ mL k' := by
              rcases e4 with ⟨-, e4⟩ | ⟨-, b, as', -, e4⟩
              · exact hm _ (lookup_mem e4)
              · exact hm _ (lookup_mem e4)
            have n1 := h1.1.1
            have n2 := h1.1.2
            have n3 := h2.1.1
            have n4 := h2.1.2
            refine ⟨⟨Nat.le_trans n1 n3, Nat.le_trans n2 n4⟩, fun p l e R s m args below meth c H ls locs cells slots cE sE Q C r1 r2 hR hL hs hlk q1 q2 q3 q4 kk => ?_⟩
            have has : okS as := fun w hw => hs w (by rw [e1]; exact List.mem_append_left _ (List.mem_reverse.mpr hw))
            have hrs : okS rest := fun w hw => hs w (by rw [e1]; exact List.mem_append_right _ hw)
            have hM := run_met hp h1 hk.1 (by omega) has l
            have n5 : zS S ≤ zS S' := n1
            have n6 : qS S ≤ qS S' := n2
            have hkL := hk.1.2.2.2
            have hrunW := h5 p l e R s m args below meth c H ls locs cells slots (zS S' - zS S) (qS S' - qS S) _ _ _ _ C hR hM rfl rfl (by show d + 1 + 1 ≤ R.frames; omega) (by show 8 + (mL k' + 11) + 40 * (d + 1) ≤ R.locals; omega) McPc.blind (fun U hU hW => ⟨rfl, C.2.2.2.2.2.warm hW, by rw [hU]; exact hR⟩) hL.1.1 ⟨by omega, by omega⟩
            intro T hT X
            obtain ⟨v', st₀, t, T', Lc, g0, X', gL, g1, g2, ⟨g3, g4, g5⟩, stp⟩ := hrunW T hT X
            have hv : v' = v.map cv := by
              have := g3
              cases this
              rfl
            subst hv
            have hfin := h2.2 p l e R s m args below meth c T'.heap ls (locs ++ Lc) (cells + (zS S' - zS S)) (slots + (qS S' - qS S)) cE sE Q C r1 r2 (by rw [g1]; exact g4) hL (by
                intro w hw
                rcases List.mem_append.mp hw with h' | h'
                · exact g5 w h'
                · exact hrs w h') (by
                intro q hq
                rcases List.mem_append.mp hq with h' | h'
                · exact hlk q h'
                · exact gL q h') (by show cE + zS S' = cells + (zS S' - zS S) + zS r.2; omega) (by show sE + qS S' = slots + (qS S' - qS S) + qS r.2; omega) q3 q4 kk
            obtain ⟨t2, a1, b1⟩ := hfin T' rfl X'
            refine ⟨t2, stp t2 ?_, b1⟩
            have ev : (v.toList ++ rest).map cv = (v.map cv).toList ++ rest.map cv := by
              cases v <;> rfl
            rw [ev] at a1
            exact a1
    · rename_i rk hcd
      obtain ⟨e1, e2⟩ := mret_s h
      refine ⟨⟨by rw [e1]; exact Nat.le_refl _, by rw [e1]; exact Nat.le_refl _⟩, fun p l e R s m args below meth c H ls locs cells slots cE sE Q C r1 r2 hR hL hs hlk q1 q2 q3 q4 kk => ?_⟩
      rw [e1] at q1 q2
      have q1' : cells = cE := by omega
      have q2' : slots = sE := by omega
      subst q1'; subst q2'
      exact kk pc rk H ls locs st hcd (by rw [e1]; exact h) (by rw [e1]; exact hR) hs hlk
end MRUN
end
section
/-! walking: XQ d k pc L st S Q: from here the run comes to an end, with Q of its answer and its store -/
def XQ (d k pc : Nat) (L : ML) (st : List MV) (S : MS) (Q : Option MV → MS → Prop) : Prop := ∃ n v S', mx mcd mL n d k pc L st S = some (v, S') ∧ Q v S'
theorem mx_i {n d k pc : Nat} {L : ML} {st : List MV} {S : MS} {mi : MI} (h : mcd k pc = some (.inl mi)) : mx mcd mL (n + 1) d k pc L st S = match mi L st S with
    | none => none
    | some (pc', L', st', S') => mx mcd mL n d k pc' L' st' S' := by
  rw [mx, h]
  rfl
theorem mx_c {n d k pc : Nat} {L : ML} {st : List MV} {S : MS} {sta : Bool} {na : Nat} {tg : List (Nat × Nat)} {nx : Nat} (h : mcd k pc = some (.inr (.inl (sta, na, tg, nx)))) : mx mcd mL (n + 1) (d + 1) k pc L st S = match mcallee sta na tg st S with
    | none => none
    | some (k', as, rest) => match mx mcd mL n d k' 0 (mentry (mL k') as) [] S with
      | none => none
      | some (v, S') => mx mcd mL n (d + 1) k nx L (v.toList ++ rest) S' := by
  rw [mx, h]
  rfl
theorem mx_r {n d k pc : Nat} {L : ML} {st : List MV} {S : MS} {rk : Nat} (h : mcd k pc = some (.inr (.inr rk))) : mx mcd mL (n + 1) d k pc L st S = mret rk st S := by
  rw [mx, h]
theorem mx_mono : ∀ (n d k pc : Nat) (L : ML) (st : List MV) (S : MS) (r : Option MV × MS), mx mcd mL n d k pc L st S = some r → mx mcd mL (n + 1) d k pc L st S = some r := by
  intro n
  induction n with
  | zero => intro d k pc L st S r h; cases h
  | succ n ih =>
    intro d k pc L st S r h
    unfold mx at h
    split at h
    · cases h
    · rename_i mi hcd
      rw [mx_i hcd]
      split at h
      · cases h
      · rename_i pc' L' st' S' hmi
        rw [hmi]
        exact ih _ _ _ _ _ _ _ h
    · rename_i sta na tg nx hcd
      split at h
      · cases h
      · split at h
        · cases h
        · rename_i k' as rest hce
          split at h
          · cases h
          · rename_i v S' hrun
            rw [mx_c hcd, hce]
            simp only [ih _ _ _ _ _ _ _ hrun]
            exact ih _ _ _ _ _ _ _ h
    · rename_i rk hcd
      rw [mx_r hcd]
      exact h
theorem mx_le {n n' d k pc : Nat} {L : ML} {st : List MV} {S : MS} {r : Option MV × MS} (h : mx mcd mL n d k pc L st S = some r) (hl : n ≤ n') : mx mcd mL n' d k pc L st S = some r := by
  induction hl with
  | refl => exact h
  | step _ ih => exact mx_mono _ _ _ _ _ _ _ _ ih
section XROWS
variable {d k pc : Nat} {L : ML} {st : List MV} {S : MS} {Q : Option MV → MS → Prop}
theorem XQ.go {mi : MI} {pc' : Nat} {L' : ML} {st' : List MV} {S' : MS} (h : mcd k pc = some (.inl mi)) (h2 : mi L st S = some (pc', L', st', S')) (kk : XQ d k pc' L' st' S' Q) : XQ d k pc L st S Q := by
  obtain ⟨n, v, S2, hn, hq⟩ := kk
  refine ⟨n + 1, v, S2, ?_, hq⟩
  unfold mx
  simp only [h, h2]
  exact hn
theorem XQ.ret {rk : Nat} {v : Option MV} (h : mcd k pc = some (.inr (.inr rk))) (h2 : mret rk st S = some (v, S)) (hq : Q v S) : XQ d k pc L st S Q := by
  refine ⟨1, v, S, ?_, hq⟩
  unfold mx
  simp only [h]
  exact h2
theorem XQ.call {sta : Bool} {na : Nat} {tg : List (Nat × Nat)} {nx k' : Nat} {as rest : List MV} {Q' : Option MV → MS → Prop} (h : mcd k pc = some (.inr (.inl (sta, na, tg, nx)))) (h2 : mcallee sta na tg st S = some (k', as, rest)) (h3 : XQ d k' 0 (mentry (mL k') as) [] S Q') (kk : ∀ v S', Q' v S' → XQ (d + 1) k nx L (v.toList ++ rest) S' Q) : XQ (d + 1) k pc L st S Q := by
  obtain ⟨n1, v, S', h1, hq⟩ := h3
  obtain ⟨n2, v2, S2, h4, hq2⟩ := kk v S' hq
  refine ⟨n1 + n2 + 1, v2, S2, ?_, hq2⟩
  unfold mx
  simp only [h, h2, mx_le h1 (Nat.le_add_right n1 n2)]
  exact mx_le h4 (Nat.le_add_left n2 n1)
theorem XQ.mono {Q' : Option MV → MS → Prop} (h : XQ d k pc L st S Q) (hq : ∀ v S', Q v S' → Q' v S') : XQ d k pc L st S Q' := by
  obtain ⟨n, v, S', h1, h2⟩ := h
  exact ⟨n, v, S', h1, hq v S' h2⟩
/-- deeper room does no harm -/
theorem mx_deep : ∀ (n d k pc : Nat) (L : ML) (st : List MV) (S : MS) (r : Option MV × MS), mx mcd mL n d k pc L st S = some r → mx mcd mL n (d + 1) k pc L st S = some r := by
  intro n
  induction n with
  | zero => intro d k pc L st S r h; cases h
  | succ n ih =>
    intro d k pc L st S r h
    unfold mx at h
    split at h
    · cases h
    · rename_i mi hcd
      rw [mx_i hcd]
      split at h
      · cases h
      · rename_i pc' L' st' S' hmi
        rw [hmi]
        exact ih _ _ _ _ _ _ _ h
    · rename_i sta na tg nx hcd
      split at h
      · cases h
      · split at h
        · cases h
        · rename_i k' as rest hce
          split at h
          · cases h
          · rename_i v S' hrun
            rw [mx_c hcd, hce]
            simp only [ih _ _ _ _ _ _ _ hrun]
            exact ih _ _ _ _ _ _ _ h
    · rename_i rk hcd
      rw [mx_r hcd]
      exact h
theorem XQ.deep (h : XQ d k pc L st S Q) : XQ (d + 1) k pc L st S Q := by
  obtain ⟨n, v, S', hn, hq⟩ := h
  exact ⟨n, v, S', mx_deep _ _ _ _ _ _ _ _ hn, hq⟩
theorem XQ.deepn {d' : Nat} (h : XQ d k pc L st S Q) (hd : d ≤ d') : XQ d' k pc L st S Q := by
  induction hd with
  | refl => exact h
  | step _ ih => exact ih.deep
-- branches
theorem XQ.zeq {a : Int} {tg nx : Nat} (h : mcd k pc = some (.inl (i_z 0 tg nx))) (kt : a = 0 → XQ d k tg L st S Q) (kf : ¬ a = 0 → XQ d k nx L st S Q) : XQ d k pc L (.inl a :: st) S Q := by
  by_cases q : a = 0
  · exact XQ.go h (show i_z 0 tg nx L (.inl a :: st) S = some (tg, L, st, S) by simp [i_z, cmpB, q]) (kt q)
  · exact XQ.go h (show i_z 0 tg nx L (.inl a :: st) S = some (nx, L, st, S) by simp [i_z, cmpB, q]) (kf q)
theorem XQ.zne {a : Int} {tg nx : Nat} (h : mcd k pc = some (.inl (i_z 1 tg nx))) (kt : ¬ a = 0 → XQ d k tg L st S Q) (kf : a = 0 → XQ d k nx L st S Q) : XQ d k pc L (.inl a :: st) S Q := by
  by_cases q : a = 0
  · exact XQ.go h (show i_z 1 tg nx L (.inl a :: st) S = some (nx, L, st, S) by simp [i_z, cmpB, q]) (kf q)
  · exact XQ.go h (show i_z 1 tg nx L (.inl a :: st) S = some (tg, L, st, S) by simp [i_z, cmpB, q]) (kt q)
theorem XQ.zlt {a : Int} {tg nx : Nat} (h : mcd k pc = some (.inl (i_z 2 tg nx))) (kt : a < 0 → XQ d k tg L st S Q) (kf : 0 ≤ a → XQ d k nx L st S Q) : XQ d k pc L (.inl a :: st) S Q := by
  by_cases q : a < 0
  · exact XQ.go h (show i_z 2 tg nx L (.inl a :: st) S = some (tg, L, st, S) by simp [i_z, cmpB, q]) (kt q)
  · exact XQ.go h (show i_z 2 tg nx L (.inl a :: st) S = some (nx, L, st, S) by simp [i_z, cmpB, q]) (kf (by omega))
theorem XQ.zge {a : Int} {tg nx : Nat} (h : mcd k pc = some (.inl (i_z 3 tg nx))) (kt : 0 ≤ a → XQ d k tg L st S Q) (kf : a < 0 → XQ d k nx L st S Q) : XQ d k pc L (.inl a :: st) S Q := by
  by_cases q : 0 ≤ a
  · exact XQ.go h (show i_z 3 tg nx L (.inl a :: st) S = some (tg, L, st, S) by simp [i_z, cmpB, q]) (kt q)
  · exact XQ.go h (show i_z 3 tg nx L (.inl a :: st) S = some (nx, L, st, S) by simp [i_z, cmpB, q]) (kf (by omega))
theorem XQ.zgt {a : Int} {tg nx : Nat} (h : mcd k pc = some (.inl (i_z 4 tg nx))) (kt : 0 < a → XQ d k tg L st S Q) (kf : a ≤ 0 → XQ d k nx L st S Q) : XQ d k pc L (.inl a :: st) S Q := by
  by_cases q : 0 < a
  · exact XQ.go h (show i_z 4 tg nx L (.inl a :: st) S = some (tg, L, st, S) by simp [i_z, cmpB, q]) (kt q)
  · exact XQ.go h (show i_z 4 tg nx L (.inl a :: st) S = some (nx, L, st, S) by simp [i_z, cmpB, q]) (kf (by omega))
theorem XQ.zle {a : Int} {tg nx : Nat} (h : mcd k pc = some (.inl (i_z 5 tg nx))) (kt : a ≤ 0 → XQ d k tg L st S Q) (kf : 0 < a → XQ d k nx L st S Q) : XQ d k pc L (.inl a :: st) S Q := by
  by_cases q : a ≤ 0
  · exact XQ.go h (show i_z 5 tg nx L (.inl a :: st) S = some (tg, L, st, S) by simp [i_z, cmpB, q]) (kt q)
  · exact XQ.go h (show i_z 5 tg nx L (.inl a :: st) S = some (nx, L, st, S) by simp [i_z, cmpB, q]) (kf (by omega))
theorem XQ.ceq {a b : Int} {tg nx : Nat} (h : mcd k pc = some (.inl (i_cmp 0 tg nx))) (kt : a = b → XQ d k tg L st S Q) (kf : ¬ a = b → XQ d k nx L st S Q) : XQ d k pc L (.inl b :: .inl a :: st) S Q := by
  by_cases q : a = b
  · exact XQ.go h (show i_cmp 0 tg nx L (.inl b :: .inl a :: st) S = some (tg, L, st, S) by simp [i_cmp, cmpB, q]) (kt q)
  · exact XQ.go h (show i_cmp 0 tg nx L (.inl b :: .inl a :: st) S = some (nx, L, st, S) by simp [i_cmp, cmpB, q]) (kf q)
theorem XQ.cne {a b : Int} {tg nx : Nat} (h : mcd k pc = some (.inl (i_cmp 1 tg nx))) (kt : ¬ a = b → XQ d k tg L st S Q) (kf : a = b → XQ d k nx L st S Q) : XQ d k pc L (.inl b :: .inl a :: st) S Q := by
  by_cases q : a = b
  · exact XQ.go h (show i_cmp 1 tg nx L (.inl b :: .inl a :: st) S = some (nx, L, st, S) by simp [i_cmp, cmpB, q]) (kf q)
  · exact XQ.go h (show i_cmp 1 tg nx L (.inl b :: .inl a :: st) S = some (tg, L, st, S) by simp [i_cmp, cmpB, q]) (kt q)
theorem XQ.clt {a b : Int} {tg nx : Nat} (h : mcd k pc = some (.inl (i_cmp 2 tg nx))) (kt : a < b → XQ d k tg L st S Q) (kf : b ≤ a → XQ d k nx L st S Q) : XQ d k pc L (.inl b :: .inl a :: st) S Q := by
  by_cases q : a < b
  · exact XQ.go h (show i_cmp 2 tg nx L (.inl b :: .inl a :: st) S = some (tg, L, st, S) by simp [i_cmp, cmpB, q]) (kt q)
  · exact XQ.go h (show i_cmp 2 tg nx L (.inl b :: .inl a :: st) S = some (nx, L, st, S) by simp [i_cmp, cmpB, q]) (kf (by omega))
theorem XQ.cge {a b : Int} {tg nx : Nat} (h : mcd k pc = some (.inl (i_cmp 3 tg nx))) (kt : b ≤ a → XQ d k tg L st S Q) (kf : a < b → XQ d k nx L st S Q) : XQ d k pc L (.inl b :: .inl a :: st) S Q := by
  by_cases q : b ≤ a
  · exact XQ.go h (show i_cmp 3 tg nx L (.inl b :: .inl a :: st) S = some (tg, L, st, S) by simp [i_cmp, cmpB, q]) (kt q)
  · exact XQ.go h (show i_cmp 3 tg nx L (.inl b :: .inl a :: st) S = some (nx, L, st, S) by simp [i_cmp, cmpB, q]) (kf (by omega))
theorem XQ.cgt {a b : Int} {tg nx : Nat} (h : mcd k pc = some (.inl (i_cmp 4 tg nx))) (kt : b < a → XQ d k tg L st S Q) (kf : a ≤ b → XQ d k nx L st S Q) : XQ d k pc L (.inl b :: .inl a :: st) S Q := by
  by_cases q : b < a
  · exact XQ.go h (show i_cmp 4 tg nx L (.inl b :: .inl a :: st) S = some (tg, L, st, S) by simp [i_cmp, cmpB, q]) (kt q)
  · exact XQ.go h (show i_cmp 4 tg nx L (.inl b :: .inl a :: st) S = some (nx, L, st, S) by simp [i_cmp, cmpB, q]) (kf (by omega))
theorem XQ.cle {a b : Int} {tg nx : Nat} (h : mcd k pc = some (.inl (i_cmp 5 tg nx))) (kt : a ≤ b → XQ d k tg L st S Q) (kf : b < a → XQ d k nx L st S Q) : XQ d k pc L (.inl b :: .inl a :: st) S Q := by
  by_cases q : a ≤ b
  · exact XQ.go h (show i_cmp 5 tg nx L (.inl b :: .inl a :: st) S = some (tg, L, st, S) by simp [i_cmp, cmpB, q]) (kt q)
  · exact XQ.go h (show i_cmp 5 tg nx L (.inl b :: .inl a :: st) S = some (nx, L, st, S) by simp [i_cmp, cmpB, q]) (kf (by omega))
theorem XQ.aeq {a b : Option Nat} {tg nx : Nat} (h : mcd k pc = some (.inl (i_aeq tg nx))) (kt : a = b → XQ d k tg L st S Q) (kf : ¬ a = b → XQ d k nx L st S Q) : XQ d k pc L (.inr b :: .inr a :: st) S Q := by
  by_cases q : a = b
  · exact XQ.go h (show i_aeq tg nx L (.inr b :: .inr a :: st) S = some (tg, L, st, S) by simp [i_aeq, q]) (kt q)
  · exact XQ.go h (show i_aeq tg nx L (.inr b :: .inr a :: st) S = some (nx, L, st, S) by simp [i_aeq, q]) (kf q)
-- heap
theorem XQ.get {a : Nat} {ts : List Nat} {kk : Int} {nx : Nat} {v : MV} (h : mcd k pc = some (.inl (i_get ts kk nx))) (ht : ts.contains (tS S a) = true) (hv : vS S a kk = v) (hk : XQ d k nx L (v :: st) S Q) : XQ d k pc L (.inr (some a) :: st) S Q :=
  XQ.go h (show i_get ts kk nx L (.inr (some a) :: st) S = some (nx, L, v :: st, S) by simp only [i_get, ht, hv, if_true]) hk
theorem XQ.put {a : Nat} {ts : List Nat} {kk : Int} {ty nx : Nat} {v : MV} (h : mcd k pc = some (.inl (i_put ts kk ty nx))) (ht : ts.contains (tS S a) = true) (hv : fitM ty v = true) (hk : XQ d k nx L st (mset S a kk v) Q) : XQ d k pc L (v :: .inr (some a) :: st) S Q :=
  XQ.go h (show i_put ts kk ty nx L (v :: .inr (some a) :: st) S = some (nx, L, st, mset S a kk v) by simp only [i_put, ht, hv, Bool.and_self, if_true]) hk
theorem XQ.ld {a : Nat} {i : Int} {ts : List Nat} {nx : Nat} {v : MV} (h : mcd k pc = some (.inl (i_ld ts nx))) (ht : ts.contains (tS S a) = true) (h0 : 0 ≤ i) (hl : i < lS S a) (hv : vS S a i = v) (hk : XQ d k nx L (v :: st) S Q) : XQ d k pc L (.inl i :: .inr (some a) :: st) S Q :=
  XQ.go h (show i_ld ts nx L (.inl i :: .inr (some a) :: st) S = some (nx, L, v :: st, S) by simp only [i_ld, ht, hv]; rw [if_pos ⟨trivial, h0, hl⟩]) hk
theorem XQ.ist {a : Nat} {i x : Int} {nx : Nat} (h : mcd k pc = some (.inl (i_ist nx))) (ht : tS S a = 20) (h0 : 0 ≤ i) (hl : i < lS S a) (hk : XQ d k nx L st (mset S a i (.inl x)) Q) : XQ d k pc L (.inl x :: .inl i :: .inr (some a) :: st) S Q :=
  XQ.go h (show i_ist nx L (.inl x :: .inl i :: .inr (some a) :: st) S = some (nx, L, st, mset S a i (.inl x)) by simp only [i_ist]; rw [if_pos ⟨ht, h0, hl⟩]) hk
theorem XQ.zst {a : Nat} {i x : Int} {nx : Nat} (h : mcd k pc = some (.inl (i_zst nx))) (ht : tS S a = 21) (hx : x = 0 ∨ x = 1) (h0 : 0 ≤ i) (hl : i < lS S a) (hk : XQ d k nx L st (mset S a i (.inl x)) Q) : XQ d k pc L (.inl x :: .inl i :: .inr (some a) :: st) S Q :=
  XQ.go h (show i_zst nx L (.inl x :: .inl i :: .inr (some a) :: st) S = some (nx, L, st, mset S a i (.inl x)) by simp only [i_zst]; rw [if_pos ⟨ht, hx, h0, hl⟩]) hk
theorem XQ.ast {a : Nat} {i : Int} {x : Option Nat} {as : List (Nat × List Nat)} {nx : Nat} (h : mcd k pc = some (.inl (i_ast as nx))) (hok : astOK as S a x = true) (h0 : 0 ≤ i) (hl : i < lS S a) (hk : XQ d k nx L st (mset S a i (.inr x)) Q) : XQ d k pc L (.inr x :: .inl i :: .inr (some a) :: st) S Q :=
  XQ.go h (show i_ast as nx L (.inr x :: .inl i :: .inr (some a) :: st) S = some (nx, L, st, mset S a i (.inr x)) by simp only [i_ast]; rw [if_pos ⟨hok, h0, hl⟩]) hk
theorem XQ.len {a : Nat} {nx : Nat} {n : Int} (h : mcd k pc = some (.inl (i_len nx))) (ht : 20 ≤ tS S a) (hn : lS S a = n) (hk : XQ d k nx L (.inl n :: st) S Q) : XQ d k pc L (.inr (some a) :: st) S Q :=
  XQ.go h (show i_len nx L (.inr (some a) :: st) S = some (nx, L, .inl n :: st, S) by simp only [i_len, hn]; rw [if_pos ht]) hk
theorem XQ.newa {n : Int} {t : Nat} {v : MV} {nx : Nat} (h : mcd k pc = some (.inl (i_newa t v nx))) (h0 : 0 ≤ n) (h1 : n ≤ 100000) (hk : XQ d k nx L (.inr (some (zS S)) :: st) (mnew S t n (fun _ => v)) Q) : XQ d k pc L (.inl n :: st) S Q :=
  XQ.go h (show i_newa t v nx L (.inl n :: st) S = some (nx, L, .inr (some (zS S)) :: st, mnew S t n (fun _ => v)) by simp only [i_newa]; rw [if_pos ⟨h0, h1⟩]) hk
theorem XQ.insY {a : Nat} {ys ns : List Nat} {nx : Nat} (h : mcd k pc = some (.inl (i_ins ys ns nx))) (ht : ys.contains (tS S a) = true) (hk : XQ d k nx L (.inl 1 :: st) S Q) : XQ d k pc L (.inr (some a) :: st) S Q :=
  XQ.go h (show i_ins ys ns nx L (.inr (some a) :: st) S = some (nx, L, .inl 1 :: st, S) by simp only [i_ins, ht, if_true]) hk
theorem XQ.insN {a : Nat} {ys ns : List Nat} {nx : Nat} (h : mcd k pc = some (.inl (i_ins ys ns nx))) (ht : ys.contains (tS S a) = false) (ht2 : ns.contains (tS S a) = true) (hk : XQ d k nx L (.inl 0 :: st) S Q) : XQ d k pc L (.inr (some a) :: st) S Q :=
  XQ.go h (show i_ins ys ns nx L (.inr (some a) :: st) S = some (nx, L, .inl 0 :: st, S) by simp only [i_ins, ht, ht2, if_true]; rfl) hk
theorem XQ.cst {a : Nat} {ys : List Nat} {nx : Nat} (h : mcd k pc = some (.inl (i_cst ys nx))) (ht : ys.contains (tS S a) = true) (hk : XQ d k nx L (.inr (some a) :: st) S Q) : XQ d k pc L (.inr (some a) :: st) S Q :=
  XQ.go h (show i_cst ys nx L (.inr (some a) :: st) S = some (nx, L, .inr (some a) :: st, S) by simp only [i_cst, ht, if_true]) hk
theorem XQ.bin {a b c : Int} {f : Int → Int → Int} {nx : Nat} (h : mcd k pc = some (.inl (i_bin f nx))) (hc : f a b = c) (hr : inR c) (hk : XQ d k nx L (.inl c :: st) S Q) : XQ d k pc L (.inl b :: .inl a :: st) S Q :=
  XQ.go h (show i_bin f nx L (.inl b :: .inl a :: st) S = some (nx, L, .inl c :: st, S) by simp only [i_bin, hc]; rw [if_pos hr]) hk
theorem XQ.inc {j : Nat} {n a c : Int} {nx : Nat} (h : mcd k pc = some (.inl (i_ii j n nx))) (hj : L[j]? = some (some (.inl a))) (hc : a + n = c) (hr : inR c) (hk : XQ d k nx (L.set j (some (.inl c))) st S Q) : XQ d k pc L st S Q :=
  XQ.go h (show i_ii j n nx L st S = some (nx, L.set j (some (.inl c)), st, S) by simp only [i_ii, hj, hc]; rw [if_pos hr]) hk
end XROWS
end
section
/-! facts of the tables that the instructions rest on (by program) -/
theorem ly_H : ∀ w ∈ u_ws "ResurrectingHeap" F_H 7, w ∈ mWS := (List.forall_mem_cons.mpr ⟨inW 72 (by decide +kernel) (by decide +kernel), List.forall_mem_cons.mpr ⟨inW 74 (by decide +kernel) (by decide +kernel), List.forall_mem_cons.mpr ⟨inW 76 (by decide +kernel) (by decide +kernel), List.forall_mem_cons.mpr ⟨inW 78 (by decide +kernel) (by decide +kernel), List.forall_mem_cons.mpr ⟨inW 80 (by decide +kernel) (by decide +kernel), List.forall_mem_cons.mpr ⟨inW 82 (by decide +kernel) (by decide +kernel), List.forall_mem_cons.mpr ⟨inW 84 (by decide +kernel) (by decide +kernel), fun _ h => absurd h List.not_mem_nil⟩⟩⟩⟩⟩⟩⟩)
theorem ly_N : ∀ w ∈ u_ws "ResurrectingHeap$Numeral" F_N 1, w ∈ mWS := (List.forall_mem_cons.mpr ⟨inW 107 (by decide +kernel) (by decide +kernel), fun _ h => absurd h List.not_mem_nil⟩)
theorem ly_V : ∀ w ∈ u_ws "ResurrectingHeap$Vector" F_V 7, w ∈ mWS := (List.forall_mem_cons.mpr ⟨inW 234 (by decide +kernel) (by decide +kernel), List.forall_mem_cons.mpr ⟨inW 236 (by decide +kernel) (by decide +kernel), List.forall_mem_cons.mpr ⟨inW 238 (by decide +kernel) (by decide +kernel), List.forall_mem_cons.mpr ⟨inW 240 (by decide +kernel) (by decide +kernel), List.forall_mem_cons.mpr ⟨inW 242 (by decide +kernel) (by decide +kernel), List.forall_mem_cons.mpr ⟨inW 244 (by decide +kernel) (by decide +kernel), List.forall_mem_cons.mpr ⟨inW 232 (by decide +kernel) (by decide +kernel), fun _ h => absurd h List.not_mem_nil⟩⟩⟩⟩⟩⟩⟩)
theorem ly_K : ∀ w ∈ u_ws "ResurrectingHeap$Weak" F_K 7, w ∈ mWS := (List.forall_mem_cons.mpr ⟨inW 269 (by decide +kernel) (by decide +kernel), List.forall_mem_cons.mpr ⟨inW 270 (by decide +kernel) (by decide +kernel), List.forall_mem_cons.mpr ⟨inW 271 (by decide +kernel) (by decide +kernel), List.forall_mem_cons.mpr ⟨inW 272 (by decide +kernel) (by decide +kernel), List.forall_mem_cons.mpr ⟨inW 273 (by decide +kernel) (by decide +kernel), List.forall_mem_cons.mpr ⟨inW 274 (by decide +kernel) (by decide +kernel), List.forall_mem_cons.mpr ⟨inW 267 (by decide +kernel) (by decide +kernel), fun _ h => absurd h List.not_mem_nil⟩⟩⟩⟩⟩⟩⟩)
theorem ly_T : ∀ w ∈ u_ws "ResurrectingHeap$Table" F_T 9, w ∈ mWS := (List.forall_mem_cons.mpr ⟨inW 297 (by decide +kernel) (by decide +kernel), List.forall_mem_cons.mpr ⟨inW 298 (by decide +kernel) (by decide +kernel), List.forall_mem_cons.mpr ⟨inW 299 (by decide +kernel) (by decide +kernel), List.forall_mem_cons.mpr ⟨inW 300 (by decide +kernel) (by decide +kernel), List.forall_mem_cons.mpr ⟨inW 301 (by decide +kernel) (by decide +kernel), List.forall_mem_cons.mpr ⟨inW 302 (by decide +kernel) (by decide +kernel), List.forall_mem_cons.mpr ⟨inW 291 (by decide +kernel) (by decide +kernel), List.forall_mem_cons.mpr ⟨inW 293 (by decide +kernel) (by decide +kernel), List.forall_mem_cons.mpr ⟨inW 295 (by decide +kernel) (by decide +kernel), fun _ h => absurd h List.not_mem_nil⟩⟩⟩⟩⟩⟩⟩⟩⟩)
theorem ly_R : ∀ w ∈ u_ws "ResurrectingHeap$Row" F_R 2, w ∈ mWS := (List.forall_mem_cons.mpr ⟨inW 60 (by decide +kernel) (by decide +kernel), List.forall_mem_cons.mpr ⟨inW 62 (by decide +kernel) (by decide +kernel), fun _ h => absurd h List.not_mem_nil⟩⟩)
theorem ly_M : ∀ w ∈ u_ws "ResurrectingHeapModel" F_M 18, w ∈ mWS := (List.forall_mem_cons.mpr ⟨inW 435 (by decide +kernel) (by decide +kernel), List.forall_mem_cons.mpr ⟨inW 437 (by decide +kernel) (by decide +kernel), List.forall_mem_cons.mpr ⟨inW 439 (by decide +kernel) (by decide +kernel), List.forall_mem_cons.mpr ⟨inW 441 (by decide +kernel) (by decide +kernel), List.forall_mem_cons.mpr ⟨inW 443 (by decide +kernel) (by decide +kernel), List.forall_mem_cons.mpr ⟨inW 445 (by decide +kernel) (by decide +kernel), List.forall_mem_cons.mpr ⟨inW 447 (by decide +kernel) (by decide +kernel), List.forall_mem_cons.mpr ⟨inW 449 (by decide +kernel) (by decide +kernel), List.forall_mem_cons.mpr ⟨inW 451 (by decide +kernel) (by decide +kernel), List.forall_mem_cons.mpr ⟨inW 453 (by decide +kernel) (by decide +kernel), List.forall_mem_cons.mpr ⟨inW 455 (by decide +kernel) (by decide +kernel), List.forall_mem_cons.mpr ⟨inW 457 (by decide +kernel) (by decide +kernel), List.forall_mem_cons.mpr ⟨inW 459 (by decide +kernel) (by decide +kernel), List.forall_mem_cons.mpr ⟨inW 461 (by decide +kernel) (by decide +kernel), List.forall_mem_cons.mpr ⟨inW 463 (by decide +kernel) (by decide +kernel), List.forall_mem_cons.mpr ⟨inW 465 (by decide +kernel) (by decide +kernel), List.forall_mem_cons.mpr ⟨inW 467 (by decide +kernel) (by decide +kernel), List.forall_mem_cons.mpr ⟨inW 469 (by decide +kernel) (by decide +kernel), fun _ h => absurd h List.not_mem_nil⟩⟩⟩⟩⟩⟩⟩⟩⟩⟩⟩⟩⟩⟩⟩⟩⟩⟩)
theorem fo_H_variables : ∀ t ∈ ([1] : List Nat), FOK t 0 "ResurrectingHeap" "variables" "[LResurrectingHeap$Value;" := (List.forall_mem_cons.mpr ⟨⟨0, ("ResurrectingHeap", F_H, 7), rfl, by decide, rfl, by decide, rfl, rfl, Or.inl rfl, ly_H⟩, fun _ h => absurd h List.not_mem_nil⟩)
theorem fo_H_objects : ∀ t ∈ ([1] : List Nat), FOK t 1 "ResurrectingHeap" "objects" "LResurrectingHeap$Row;" := (List.forall_mem_cons.mpr ⟨⟨0, ("ResurrectingHeap", F_H, 7), rfl, by decide, rfl, by decide, rfl, rfl, Or.inl rfl, ly_H⟩, fun _ h => absurd h List.not_mem_nil⟩)
theorem fo_H_registered : ∀ t ∈ ([1] : List Nat), FOK t 2 "ResurrectingHeap" "registered" "LResurrectingHeap$Row;" := (List.forall_mem_cons.mpr ⟨⟨0, ("ResurrectingHeap", F_H, 7), rfl, by decide, rfl, by decide, rfl, rfl, Or.inl rfl, ly_H⟩, fun _ h => absurd h List.not_mem_nil⟩)
theorem fo_H_waitingRow : ∀ t ∈ ([1] : List Nat), FOK t 3 "ResurrectingHeap" "waitingRow" "LResurrectingHeap$Row;" := (List.forall_mem_cons.mpr ⟨⟨0, ("ResurrectingHeap", F_H, 7), rfl, by decide, rfl, by decide, rfl, rfl, Or.inl rfl, ly_H⟩, fun _ h => absurd h List.not_mem_nil⟩)
theorem fo_H_objectsMade : ∀ t ∈ ([1] : List Nat), FOK t 5 "ResurrectingHeap" "objectsMade" "I" := (List.forall_mem_cons.mpr ⟨⟨0, ("ResurrectingHeap", F_H, 7), rfl, by decide, rfl, by decide, rfl, rfl, Or.inl rfl, ly_H⟩, fun _ h => absurd h List.not_mem_nil⟩)
theorem fo_V_fields : ∀ t ∈ ([3] : List Nat), FOK t 6 "ResurrectingHeap$Vector" "fields" "[LResurrectingHeap$Value;" := (List.forall_mem_cons.mpr ⟨⟨2, ("ResurrectingHeap$Vector", F_V, 7), rfl, by decide, rfl, by decide, rfl, rfl, Or.inl rfl, ly_V⟩, fun _ h => absurd h List.not_mem_nil⟩)
theorem fo_K_target : ∀ t ∈ ([4] : List Nat), FOK t 6 "ResurrectingHeap$Weak" "target" "LResurrectingHeap$Thing;" := (List.forall_mem_cons.mpr ⟨⟨3, ("ResurrectingHeap$Weak", F_K, 7), rfl, by decide, rfl, by decide, rfl, rfl, Or.inl rfl, ly_K⟩, fun _ h => absurd h List.not_mem_nil⟩)
theorem fo_G_tagged : ∀ t ∈ ([3, 4, 5] : List Nat), FOK t 4 "ResurrectingHeap$Thing" "tagged" "Z" := (List.forall_mem_cons.mpr ⟨⟨2, ("ResurrectingHeap$Vector", F_V, 7), rfl, by decide, rfl, by decide, rfl, rfl, Or.inl rfl, ly_V⟩, List.forall_mem_cons.mpr ⟨⟨3, ("ResurrectingHeap$Weak", F_K, 7), rfl, by decide, rfl, by decide, rfl, rfl, Or.inl rfl, ly_K⟩, List.forall_mem_cons.mpr ⟨⟨4, ("ResurrectingHeap$Table", F_T, 9), rfl, by decide, rfl, by decide, rfl, rfl, Or.inl rfl, ly_T⟩, fun _ h => absurd h List.not_mem_nil⟩⟩⟩)
theorem fo_G_tag : ∀ t ∈ ([3, 4, 5] : List Nat), FOK t 5 "ResurrectingHeap$Thing" "tag" "I" := (List.forall_mem_cons.mpr ⟨⟨2, ("ResurrectingHeap$Vector", F_V, 7), rfl, by decide, rfl, by decide, rfl, rfl, Or.inl rfl, ly_V⟩, List.forall_mem_cons.mpr ⟨⟨3, ("ResurrectingHeap$Weak", F_K, 7), rfl, by decide, rfl, by decide, rfl, rfl, Or.inl rfl, ly_K⟩, List.forall_mem_cons.mpr ⟨⟨4, ("ResurrectingHeap$Table", F_T, 9), rfl, by decide, rfl, by decide, rfl, rfl, Or.inl rfl, ly_T⟩, fun _ h => absurd h List.not_mem_nil⟩⟩⟩)
theorem fo_N_amount : ∀ t ∈ ([2] : List Nat), FOK t 0 "ResurrectingHeap$Numeral" "amount" "I" := (List.forall_mem_cons.mpr ⟨⟨1, ("ResurrectingHeap$Numeral", F_N, 1), rfl, by decide, rfl, by decide, rfl, rfl, Or.inl rfl, ly_N⟩, fun _ h => absurd h List.not_mem_nil⟩)
theorem fo_G_hash : ∀ t ∈ ([3, 4, 5] : List Nat), FOK t 0 "ResurrectingHeap$Thing" "hash" "I" := (List.forall_mem_cons.mpr ⟨⟨2, ("ResurrectingHeap$Vector", F_V, 7), rfl, by decide, rfl, by decide, rfl, rfl, Or.inl rfl, ly_V⟩, List.forall_mem_cons.mpr ⟨⟨3, ("ResurrectingHeap$Weak", F_K, 7), rfl, by decide, rfl, by decide, rfl, rfl, Or.inl rfl, ly_K⟩, List.forall_mem_cons.mpr ⟨⟨4, ("ResurrectingHeap$Table", F_T, 9), rfl, by decide, rfl, by decide, rfl, rfl, Or.inl rfl, ly_T⟩, fun _ h => absurd h List.not_mem_nil⟩⟩⟩)
theorem fo_G_place : ∀ t ∈ ([3, 4, 5] : List Nat), FOK t 2 "ResurrectingHeap$Thing" "place" "I" := (List.forall_mem_cons.mpr ⟨⟨2, ("ResurrectingHeap$Vector", F_V, 7), rfl, by decide, rfl, by decide, rfl, rfl, Or.inl rfl, ly_V⟩, List.forall_mem_cons.mpr ⟨⟨3, ("ResurrectingHeap$Weak", F_K, 7), rfl, by decide, rfl, by decide, rfl, rfl, Or.inl rfl, ly_K⟩, List.forall_mem_cons.mpr ⟨⟨4, ("ResurrectingHeap$Table", F_T, 9), rfl, by decide, rfl, by decide, rfl, rfl, Or.inl rfl, ly_T⟩, fun _ h => absurd h List.not_mem_nil⟩⟩⟩)
theorem fo_H_usedCells : ∀ t ∈ ([1] : List Nat), FOK t 4 "ResurrectingHeap" "usedCells" "I" := (List.forall_mem_cons.mpr ⟨⟨0, ("ResurrectingHeap", F_H, 7), rfl, by decide, rfl, by decide, rfl, rfl, Or.inl rfl, ly_H⟩, fun _ h => absurd h List.not_mem_nil⟩)
theorem fo_H_collectionsMade : ∀ t ∈ ([1] : List Nat), FOK t 6 "ResurrectingHeap" "collectionsMade" "I" := (List.forall_mem_cons.mpr ⟨⟨0, ("ResurrectingHeap", F_H, 7), rfl, by decide, rfl, by decide, rfl, rfl, Or.inl rfl, ly_H⟩, fun _ h => absurd h List.not_mem_nil⟩)
theorem fo_G_cells : ∀ t ∈ ([3, 4, 5] : List Nat), FOK t 1 "ResurrectingHeap$Thing" "cells" "I" := (List.forall_mem_cons.mpr ⟨⟨2, ("ResurrectingHeap$Vector", F_V, 7), rfl, by decide, rfl, by decide, rfl, rfl, Or.inl rfl, ly_V⟩, List.forall_mem_cons.mpr ⟨⟨3, ("ResurrectingHeap$Weak", F_K, 7), rfl, by decide, rfl, by decide, rfl, rfl, Or.inl rfl, ly_K⟩, List.forall_mem_cons.mpr ⟨⟨4, ("ResurrectingHeap$Table", F_T, 9), rfl, by decide, rfl, by decide, rfl, rfl, Or.inl rfl, ly_T⟩, fun _ h => absurd h List.not_mem_nil⟩⟩⟩)
theorem fo_G_marked : ∀ t ∈ ([3, 4, 5] : List Nat), FOK t 3 "ResurrectingHeap$Thing" "marked" "Z" := (List.forall_mem_cons.mpr ⟨⟨2, ("ResurrectingHeap$Vector", F_V, 7), rfl, by decide, rfl, by decide, rfl, rfl, Or.inl rfl, ly_V⟩, List.forall_mem_cons.mpr ⟨⟨3, ("ResurrectingHeap$Weak", F_K, 7), rfl, by decide, rfl, by decide, rfl, rfl, Or.inl rfl, ly_K⟩, List.forall_mem_cons.mpr ⟨⟨4, ("ResurrectingHeap$Table", F_T, 9), rfl, by decide, rfl, by decide, rfl, rfl, Or.inl rfl, ly_T⟩, fun _ h => absurd h List.not_mem_nil⟩⟩⟩)
theorem fo_M_varIs : ∀ t ∈ ([7] : List Nat), FOK t 0 "ResurrectingHeapModel" "varIs" "[I" := (List.forall_mem_cons.mpr ⟨⟨6, ("ResurrectingHeapModel", F_M, 18), rfl, by decide, rfl, by decide, rfl, rfl, Or.inl rfl, ly_M⟩, fun _ h => absurd h List.not_mem_nil⟩)
theorem fo_M_varHas : ∀ t ∈ ([7] : List Nat), FOK t 1 "ResurrectingHeapModel" "varHas" "[I" := (List.forall_mem_cons.mpr ⟨⟨6, ("ResurrectingHeapModel", F_M, 18), rfl, by decide, rfl, by decide, rfl, rfl, Or.inl rfl, ly_M⟩, fun _ h => absurd h List.not_mem_nil⟩)
theorem fo_M_name : ∀ t ∈ ([7] : List Nat), FOK t 4 "ResurrectingHeapModel" "name" "[I" := (List.forall_mem_cons.mpr ⟨⟨6, ("ResurrectingHeapModel", F_M, 18), rfl, by decide, rfl, by decide, rfl, rfl, Or.inl rfl, ly_M⟩, fun _ h => absurd h List.not_mem_nil⟩)
theorem fo_M_sort : ∀ t ∈ ([7] : List Nat), FOK t 5 "ResurrectingHeapModel" "sort" "[I" := (List.forall_mem_cons.mpr ⟨⟨6, ("ResurrectingHeapModel", F_M, 18), rfl, by decide, rfl, by decide, rfl, rfl, Or.inl rfl, ly_M⟩, fun _ h => absurd h List.not_mem_nil⟩)
theorem fo_M_many : ∀ t ∈ ([7] : List Nat), FOK t 6 "ResurrectingHeapModel" "many" "[I" := (List.forall_mem_cons.mpr ⟨⟨6, ("ResurrectingHeapModel", F_M, 18), rfl, by decide, rfl, by decide, rfl, rfl, Or.inl rfl, ly_M⟩, fun _ h => absurd h List.not_mem_nil⟩)
theorem fo_M_is : ∀ t ∈ ([7] : List Nat), FOK t 7 "ResurrectingHeapModel" "is" "[I" := (List.forall_mem_cons.mpr ⟨⟨6, ("ResurrectingHeapModel", F_M, 18), rfl, by decide, rfl, by decide, rfl, rfl, Or.inl rfl, ly_M⟩, fun _ h => absurd h List.not_mem_nil⟩)
theorem fo_M_has : ∀ t ∈ ([7] : List Nat), FOK t 8 "ResurrectingHeapModel" "has" "[I" := (List.forall_mem_cons.mpr ⟨⟨6, ("ResurrectingHeapModel", F_M, 18), rfl, by decide, rfl, by decide, rfl, rfl, Or.inl rfl, ly_M⟩, fun _ h => absurd h List.not_mem_nil⟩)
theorem fo_M_keys : ∀ t ∈ ([7] : List Nat), FOK t 9 "ResurrectingHeapModel" "keys" "[I" := (List.forall_mem_cons.mpr ⟨⟨6, ("ResurrectingHeapModel", F_M, 18), rfl, by decide, rfl, by decide, rfl, rfl, Or.inl rfl, ly_M⟩, fun _ h => absurd h List.not_mem_nil⟩)
theorem fo_M_mark : ∀ t ∈ ([7] : List Nat), FOK t 10 "ResurrectingHeapModel" "mark" "[Z" := (List.forall_mem_cons.mpr ⟨⟨6, ("ResurrectingHeapModel", F_M, 18), rfl, by decide, rfl, by decide, rfl, rfl, Or.inl rfl, ly_M⟩, fun _ h => absurd h List.not_mem_nil⟩)
theorem fo_M_regName : ∀ t ∈ ([7] : List Nat), FOK t 12 "ResurrectingHeapModel" "regName" "[I" := (List.forall_mem_cons.mpr ⟨⟨6, ("ResurrectingHeapModel", F_M, 18), rfl, by decide, rfl, by decide, rfl, rfl, Or.inl rfl, ly_M⟩, fun _ h => absurd h List.not_mem_nil⟩)
theorem fo_M_regTag : ∀ t ∈ ([7] : List Nat), FOK t 13 "ResurrectingHeapModel" "regTag" "[I" := (List.forall_mem_cons.mpr ⟨⟨6, ("ResurrectingHeapModel", F_M, 18), rfl, by decide, rfl, by decide, rfl, rfl, Or.inl rfl, ly_M⟩, fun _ h => absurd h List.not_mem_nil⟩)
theorem fo_M_waitName : ∀ t ∈ ([7] : List Nat), FOK t 15 "ResurrectingHeapModel" "waitName" "[I" := (List.forall_mem_cons.mpr ⟨⟨6, ("ResurrectingHeapModel", F_M, 18), rfl, by decide, rfl, by decide, rfl, rfl, Or.inl rfl, ly_M⟩, fun _ h => absurd h List.not_mem_nil⟩)
theorem fo_M_waitTag : ∀ t ∈ ([7] : List Nat), FOK t 16 "ResurrectingHeapModel" "waitTag" "[I" := (List.forall_mem_cons.mpr ⟨⟨6, ("ResurrectingHeapModel", F_M, 18), rfl, by decide, rfl, by decide, rfl, rfl, Or.inl rfl, ly_M⟩, fun _ h => absurd h List.not_mem_nil⟩)
theorem fo_M_objects : ∀ t ∈ ([7] : List Nat), FOK t 2 "ResurrectingHeapModel" "objects" "I" := (List.forall_mem_cons.mpr ⟨⟨6, ("ResurrectingHeapModel", F_M, 18), rfl, by decide, rfl, by decide, rfl, rfl, Or.inl rfl, ly_M⟩, fun _ h => absurd h List.not_mem_nil⟩)
theorem fo_M_made : ∀ t ∈ ([7] : List Nat), FOK t 3 "ResurrectingHeapModel" "made" "I" := (List.forall_mem_cons.mpr ⟨⟨6, ("ResurrectingHeapModel", F_M, 18), rfl, by decide, rfl, by decide, rfl, rfl, Or.inl rfl, ly_M⟩, fun _ h => absurd h List.not_mem_nil⟩)
theorem fo_M_registered : ∀ t ∈ ([7] : List Nat), FOK t 11 "ResurrectingHeapModel" "registered" "I" := (List.forall_mem_cons.mpr ⟨⟨6, ("ResurrectingHeapModel", F_M, 18), rfl, by decide, rfl, by decide, rfl, rfl, Or.inl rfl, ly_M⟩, fun _ h => absurd h List.not_mem_nil⟩)
theorem fo_M_waits : ∀ t ∈ ([7] : List Nat), FOK t 14 "ResurrectingHeapModel" "waits" "I" := (List.forall_mem_cons.mpr ⟨⟨6, ("ResurrectingHeapModel", F_M, 18), rfl, by decide, rfl, by decide, rfl, rfl, Or.inl rfl, ly_M⟩, fun _ h => absurd h List.not_mem_nil⟩)
theorem fo_M_runs : ∀ t ∈ ([7] : List Nat), FOK t 17 "ResurrectingHeapModel" "runs" "I" := (List.forall_mem_cons.mpr ⟨⟨6, ("ResurrectingHeapModel", F_M, 18), rfl, by decide, rfl, by decide, rfl, rfl, Or.inl rfl, ly_M⟩, fun _ h => absurd h List.not_mem_nil⟩)
theorem fo_R_things : ∀ t ∈ ([6] : List Nat), FOK t 0 "ResurrectingHeap$Row" "things" "[LResurrectingHeap$Thing;" := (List.forall_mem_cons.mpr ⟨⟨5, ("ResurrectingHeap$Row", F_R, 2), rfl, by decide, rfl, by decide, rfl, rfl, Or.inl rfl, ly_R⟩, fun _ h => absurd h List.not_mem_nil⟩)
theorem fo_R_count : ∀ t ∈ ([6] : List Nat), FOK t 1 "ResurrectingHeap$Row" "count" "I" := (List.forall_mem_cons.mpr ⟨⟨5, ("ResurrectingHeap$Row", F_R, 2), rfl, by decide, rfl, by decide, rfl, rfl, Or.inl rfl, ly_R⟩, fun _ h => absurd h List.not_mem_nil⟩)
theorem fo_T_keys : ∀ t ∈ ([5] : List Nat), FOK t 6 "ResurrectingHeap$Table" "keys" "[LResurrectingHeap$Thing;" := (List.forall_mem_cons.mpr ⟨⟨4, ("ResurrectingHeap$Table", F_T, 9), rfl, by decide, rfl, by decide, rfl, rfl, Or.inl rfl, ly_T⟩, fun _ h => absurd h List.not_mem_nil⟩)
theorem fo_T_values : ∀ t ∈ ([5] : List Nat), FOK t 7 "ResurrectingHeap$Table" "values" "[LResurrectingHeap$Value;" := (List.forall_mem_cons.mpr ⟨⟨4, ("ResurrectingHeap$Table", F_T, 9), rfl, by decide, rfl, by decide, rfl, rfl, Or.inl rfl, ly_T⟩, fun _ h => absurd h List.not_mem_nil⟩)
theorem fo_T_entryCount : ∀ t ∈ ([5] : List Nat), FOK t 8 "ResurrectingHeap$Table" "entryCount" "I" := (List.forall_mem_cons.mpr ⟨⟨4, ("ResurrectingHeap$Table", F_T, 9), rfl, by decide, rfl, by decide, rfl, rfl, Or.inl rfl, ly_T⟩, fun _ h => absurd h List.not_mem_nil⟩)
theorem po_1_H_variables : ∀ t ∈ ([1] : List Nat), POK 1 t 0 2 := (List.forall_mem_cons.mpr ⟨⟨0, ("ResurrectingHeap", F_H, 7), tf_H, rfl, rfl, tf_H_ok, nf_H, Or.inr ⟨_, rfl⟩, Or.inr ⟨rfl, rfl, rfl⟩⟩, fun _ h => absurd h List.not_mem_nil⟩)
theorem po_1_H_objects : ∀ t ∈ ([1] : List Nat), POK 1 t 1 2 := (List.forall_mem_cons.mpr ⟨⟨0, ("ResurrectingHeap", F_H, 7), tf_H, rfl, rfl, tf_H_ok, nf_H, Or.inl ⟨_, rfl⟩, Or.inr ⟨rfl, rfl, rfl⟩⟩, fun _ h => absurd h List.not_mem_nil⟩)
theorem po_1_H_registered : ∀ t ∈ ([1] : List Nat), POK 1 t 2 2 := (List.forall_mem_cons.mpr ⟨⟨0, ("ResurrectingHeap", F_H, 7), tf_H, rfl, rfl, tf_H_ok, nf_H, Or.inl ⟨_, rfl⟩, Or.inr ⟨rfl, rfl, rfl⟩⟩, fun _ h => absurd h List.not_mem_nil⟩)
theorem po_1_H_waitingRow : ∀ t ∈ ([1] : List Nat), POK 1 t 3 2 := (List.forall_mem_cons.mpr ⟨⟨0, ("ResurrectingHeap", F_H, 7), tf_H, rfl, rfl, tf_H_ok, nf_H, Or.inl ⟨_, rfl⟩, Or.inr ⟨rfl, rfl, rfl⟩⟩, fun _ h => absurd h List.not_mem_nil⟩)
theorem po_11_G_tagged : ∀ t ∈ ([3, 4, 5] : List Nat), POK 11 t 4 1 := (List.forall_mem_cons.mpr ⟨⟨2, ("ResurrectingHeap$Vector", F_V, 7), tf_V, rfl, rfl, tf_V_ok, nf_V, rfl, Or.inl rfl⟩, List.forall_mem_cons.mpr ⟨⟨3, ("ResurrectingHeap$Weak", F_K, 7), tf_K, rfl, rfl, tf_K_ok, nf_K, rfl, Or.inl rfl⟩, List.forall_mem_cons.mpr ⟨⟨4, ("ResurrectingHeap$Table", F_T, 9), tf_T, rfl, rfl, tf_T_ok, nf_T, rfl, Or.inl rfl⟩, fun _ h => absurd h List.not_mem_nil⟩⟩⟩)
theorem po_11_G_tag : ∀ t ∈ ([3, 4, 5] : List Nat), POK 11 t 5 0 := (List.forall_mem_cons.mpr ⟨⟨2, ("ResurrectingHeap$Vector", F_V, 7), tf_V, rfl, rfl, tf_V_ok, nf_V, rfl, Or.inl rfl⟩, List.forall_mem_cons.mpr ⟨⟨3, ("ResurrectingHeap$Weak", F_K, 7), tf_K, rfl, rfl, tf_K_ok, nf_K, rfl, Or.inl rfl⟩, List.forall_mem_cons.mpr ⟨⟨4, ("ResurrectingHeap$Table", F_T, 9), tf_T, rfl, rfl, tf_T_ok, nf_T, rfl, Or.inl rfl⟩, fun _ h => absurd h List.not_mem_nil⟩⟩⟩)
theorem po_12_G_tagged : ∀ t ∈ ([3, 4, 5] : List Nat), POK 12 t 4 1 := (List.forall_mem_cons.mpr ⟨⟨2, ("ResurrectingHeap$Vector", F_V, 7), tf_V, rfl, rfl, tf_V_ok, nf_V, rfl, Or.inl rfl⟩, List.forall_mem_cons.mpr ⟨⟨3, ("ResurrectingHeap$Weak", F_K, 7), tf_K, rfl, rfl, tf_K_ok, nf_K, rfl, Or.inl rfl⟩, List.forall_mem_cons.mpr ⟨⟨4, ("ResurrectingHeap$Table", F_T, 9), tf_T, rfl, rfl, tf_T_ok, nf_T, rfl, Or.inl rfl⟩, fun _ h => absurd h List.not_mem_nil⟩⟩⟩)
theorem po_26_H_objectsMade : ∀ t ∈ ([1] : List Nat), POK 26 t 5 0 := (List.forall_mem_cons.mpr ⟨⟨0, ("ResurrectingHeap", F_H, 7), tf_H, rfl, rfl, tf_H_ok, nf_H, rfl, Or.inl rfl⟩, fun _ h => absurd h List.not_mem_nil⟩)
theorem po_26_G_place : ∀ t ∈ ([3, 4, 5] : List Nat), POK 26 t 2 0 := (List.forall_mem_cons.mpr ⟨⟨2, ("ResurrectingHeap$Vector", F_V, 7), tf_V, rfl, rfl, tf_V_ok, nf_V, rfl, Or.inl rfl⟩, List.forall_mem_cons.mpr ⟨⟨3, ("ResurrectingHeap$Weak", F_K, 7), tf_K, rfl, rfl, tf_K_ok, nf_K, rfl, Or.inl rfl⟩, List.forall_mem_cons.mpr ⟨⟨4, ("ResurrectingHeap$Table", F_T, 9), tf_T, rfl, rfl, tf_T_ok, nf_T, rfl, Or.inl rfl⟩, fun _ h => absurd h List.not_mem_nil⟩⟩⟩)
theorem po_26_H_usedCells : ∀ t ∈ ([1] : List Nat), POK 26 t 4 0 := (List.forall_mem_cons.mpr ⟨⟨0, ("ResurrectingHeap", F_H, 7), tf_H, rfl, rfl, tf_H_ok, nf_H, rfl, Or.inl rfl⟩, fun _ h => absurd h List.not_mem_nil⟩)
theorem po_27_H_collectionsMade : ∀ t ∈ ([1] : List Nat), POK 27 t 6 0 := (List.forall_mem_cons.mpr ⟨⟨0, ("ResurrectingHeap", F_H, 7), tf_H, rfl, rfl, tf_H_ok, nf_H, rfl, Or.inl rfl⟩, fun _ h => absurd h List.not_mem_nil⟩)
theorem po_28_G_marked : ∀ t ∈ ([3, 4, 5] : List Nat), POK 28 t 3 1 := (List.forall_mem_cons.mpr ⟨⟨2, ("ResurrectingHeap$Vector", F_V, 7), tf_V, rfl, rfl, tf_V_ok, nf_V, rfl, Or.inl rfl⟩, List.forall_mem_cons.mpr ⟨⟨3, ("ResurrectingHeap$Weak", F_K, 7), tf_K, rfl, rfl, tf_K_ok, nf_K, rfl, Or.inl rfl⟩, List.forall_mem_cons.mpr ⟨⟨4, ("ResurrectingHeap$Table", F_T, 9), tf_T, rfl, rfl, tf_T_ok, nf_T, rfl, Or.inl rfl⟩, fun _ h => absurd h List.not_mem_nil⟩⟩⟩)
theorem po_34_H_usedCells : ∀ t ∈ ([1] : List Nat), POK 34 t 4 0 := (List.forall_mem_cons.mpr ⟨⟨0, ("ResurrectingHeap", F_H, 7), tf_H, rfl, rfl, tf_H_ok, nf_H, rfl, Or.inl rfl⟩, fun _ h => absurd h List.not_mem_nil⟩)
theorem po_34_G_place : ∀ t ∈ ([3, 4, 5] : List Nat), POK 34 t 2 0 := (List.forall_mem_cons.mpr ⟨⟨2, ("ResurrectingHeap$Vector", F_V, 7), tf_V, rfl, rfl, tf_V_ok, nf_V, rfl, Or.inl rfl⟩, List.forall_mem_cons.mpr ⟨⟨3, ("ResurrectingHeap$Weak", F_K, 7), tf_K, rfl, rfl, tf_K_ok, nf_K, rfl, Or.inl rfl⟩, List.forall_mem_cons.mpr ⟨⟨4, ("ResurrectingHeap$Table", F_T, 9), tf_T, rfl, rfl, tf_T_ok, nf_T, rfl, Or.inl rfl⟩, fun _ h => absurd h List.not_mem_nil⟩⟩⟩)
theorem po_35_G_marked : ∀ t ∈ ([3, 4, 5] : List Nat), POK 35 t 3 1 := (List.forall_mem_cons.mpr ⟨⟨2, ("ResurrectingHeap$Vector", F_V, 7), tf_V, rfl, rfl, tf_V_ok, nf_V, rfl, Or.inl rfl⟩, List.forall_mem_cons.mpr ⟨⟨3, ("ResurrectingHeap$Weak", F_K, 7), tf_K, rfl, rfl, tf_K_ok, nf_K, rfl, Or.inl rfl⟩, List.forall_mem_cons.mpr ⟨⟨4, ("ResurrectingHeap$Table", F_T, 9), tf_T, rfl, rfl, tf_T_ok, nf_T, rfl, Or.inl rfl⟩, fun _ h => absurd h List.not_mem_nil⟩⟩⟩)
theorem po_36_M_varIs : ∀ t ∈ ([7] : List Nat), POK 36 t 0 2 := (List.forall_mem_cons.mpr ⟨⟨6, ("ResurrectingHeapModel", F_M, 18), tf_M, rfl, rfl, tf_M_ok, nf_M, Or.inr ⟨_, rfl⟩, Or.inl rfl⟩, fun _ h => absurd h List.not_mem_nil⟩)
theorem po_36_M_varHas : ∀ t ∈ ([7] : List Nat), POK 36 t 1 2 := (List.forall_mem_cons.mpr ⟨⟨6, ("ResurrectingHeapModel", F_M, 18), tf_M, rfl, rfl, tf_M_ok, nf_M, Or.inr ⟨_, rfl⟩, Or.inl rfl⟩, fun _ h => absurd h List.not_mem_nil⟩)
theorem po_36_M_name : ∀ t ∈ ([7] : List Nat), POK 36 t 4 2 := (List.forall_mem_cons.mpr ⟨⟨6, ("ResurrectingHeapModel", F_M, 18), tf_M, rfl, rfl, tf_M_ok, nf_M, Or.inr ⟨_, rfl⟩, Or.inl rfl⟩, fun _ h => absurd h List.not_mem_nil⟩)
theorem po_36_M_sort : ∀ t ∈ ([7] : List Nat), POK 36 t 5 2 := (List.forall_mem_cons.mpr ⟨⟨6, ("ResurrectingHeapModel", F_M, 18), tf_M, rfl, rfl, tf_M_ok, nf_M, Or.inr ⟨_, rfl⟩, Or.inl rfl⟩, fun _ h => absurd h List.not_mem_nil⟩)
theorem po_36_M_many : ∀ t ∈ ([7] : List Nat), POK 36 t 6 2 := (List.forall_mem_cons.mpr ⟨⟨6, ("ResurrectingHeapModel", F_M, 18), tf_M, rfl, rfl, tf_M_ok, nf_M, Or.inr ⟨_, rfl⟩, Or.inl rfl⟩, fun _ h => absurd h List.not_mem_nil⟩)
theorem po_36_M_is : ∀ t ∈ ([7] : List Nat), POK 36 t 7 2 := (List.forall_mem_cons.mpr ⟨⟨6, ("ResurrectingHeapModel", F_M, 18), tf_M, rfl, rfl, tf_M_ok, nf_M, Or.inr ⟨_, rfl⟩, Or.inl rfl⟩, fun _ h => absurd h List.not_mem_nil⟩)
theorem po_36_M_has : ∀ t ∈ ([7] : List Nat), POK 36 t 8 2 := (List.forall_mem_cons.mpr ⟨⟨6, ("ResurrectingHeapModel", F_M, 18), tf_M, rfl, rfl, tf_M_ok, nf_M, Or.inr ⟨_, rfl⟩, Or.inl rfl⟩, fun _ h => absurd h List.not_mem_nil⟩)
theorem po_36_M_keys : ∀ t ∈ ([7] : List Nat), POK 36 t 9 2 := (List.forall_mem_cons.mpr ⟨⟨6, ("ResurrectingHeapModel", F_M, 18), tf_M, rfl, rfl, tf_M_ok, nf_M, Or.inr ⟨_, rfl⟩, Or.inl rfl⟩, fun _ h => absurd h List.not_mem_nil⟩)
theorem po_36_M_mark : ∀ t ∈ ([7] : List Nat), POK 36 t 10 2 := (List.forall_mem_cons.mpr ⟨⟨6, ("ResurrectingHeapModel", F_M, 18), tf_M, rfl, rfl, tf_M_ok, nf_M, Or.inr ⟨_, rfl⟩, Or.inl rfl⟩, fun _ h => absurd h List.not_mem_nil⟩)
theorem po_36_M_regName : ∀ t ∈ ([7] : List Nat), POK 36 t 12 2 := (List.forall_mem_cons.mpr ⟨⟨6, ("ResurrectingHeapModel", F_M, 18), tf_M, rfl, rfl, tf_M_ok, nf_M, Or.inr ⟨_, rfl⟩, Or.inl rfl⟩, fun _ h => absurd h List.not_mem_nil⟩)
theorem po_36_M_regTag : ∀ t ∈ ([7] : List Nat), POK 36 t 13 2 := (List.forall_mem_cons.mpr ⟨⟨6, ("ResurrectingHeapModel", F_M, 18), tf_M, rfl, rfl, tf_M_ok, nf_M, Or.inr ⟨_, rfl⟩, Or.inl rfl⟩, fun _ h => absurd h List.not_mem_nil⟩)
theorem po_36_M_waitName : ∀ t ∈ ([7] : List Nat), POK 36 t 15 2 := (List.forall_mem_cons.mpr ⟨⟨6, ("ResurrectingHeapModel", F_M, 18), tf_M, rfl, rfl, tf_M_ok, nf_M, Or.inr ⟨_, rfl⟩, Or.inl rfl⟩, fun _ h => absurd h List.not_mem_nil⟩)
theorem po_36_M_waitTag : ∀ t ∈ ([7] : List Nat), POK 36 t 16 2 := (List.forall_mem_cons.mpr ⟨⟨6, ("ResurrectingHeapModel", F_M, 18), tf_M, rfl, rfl, tf_M_ok, nf_M, Or.inr ⟨_, rfl⟩, Or.inl rfl⟩, fun _ h => absurd h List.not_mem_nil⟩)
theorem po_46_M_objects : ∀ t ∈ ([7] : List Nat), POK 46 t 2 0 := (List.forall_mem_cons.mpr ⟨⟨6, ("ResurrectingHeapModel", F_M, 18), tf_M, rfl, rfl, tf_M_ok, nf_M, rfl, Or.inl rfl⟩, fun _ h => absurd h List.not_mem_nil⟩)
theorem po_46_M_made : ∀ t ∈ ([7] : List Nat), POK 46 t 3 0 := (List.forall_mem_cons.mpr ⟨⟨6, ("ResurrectingHeapModel", F_M, 18), tf_M, rfl, rfl, tf_M_ok, nf_M, rfl, Or.inl rfl⟩, fun _ h => absurd h List.not_mem_nil⟩)
theorem po_55_M_registered : ∀ t ∈ ([7] : List Nat), POK 55 t 11 0 := (List.forall_mem_cons.mpr ⟨⟨6, ("ResurrectingHeapModel", F_M, 18), tf_M, rfl, rfl, tf_M_ok, nf_M, rfl, Or.inl rfl⟩, fun _ h => absurd h List.not_mem_nil⟩)
theorem po_56_M_waits : ∀ t ∈ ([7] : List Nat), POK 56 t 14 0 := (List.forall_mem_cons.mpr ⟨⟨6, ("ResurrectingHeapModel", F_M, 18), tf_M, rfl, rfl, tf_M_ok, nf_M, rfl, Or.inl rfl⟩, fun _ h => absurd h List.not_mem_nil⟩)
theorem po_64_M_waits : ∀ t ∈ ([7] : List Nat), POK 64 t 14 0 := (List.forall_mem_cons.mpr ⟨⟨6, ("ResurrectingHeapModel", F_M, 18), tf_M, rfl, rfl, tf_M_ok, nf_M, rfl, Or.inl rfl⟩, fun _ h => absurd h List.not_mem_nil⟩)
theorem po_64_M_registered : ∀ t ∈ ([7] : List Nat), POK 64 t 11 0 := (List.forall_mem_cons.mpr ⟨⟨6, ("ResurrectingHeapModel", F_M, 18), tf_M, rfl, rfl, tf_M_ok, nf_M, rfl, Or.inl rfl⟩, fun _ h => absurd h List.not_mem_nil⟩)
theorem po_65_M_objects : ∀ t ∈ ([7] : List Nat), POK 65 t 2 0 := (List.forall_mem_cons.mpr ⟨⟨6, ("ResurrectingHeapModel", F_M, 18), tf_M, rfl, rfl, tf_M_ok, nf_M, rfl, Or.inl rfl⟩, fun _ h => absurd h List.not_mem_nil⟩)
theorem po_66_M_runs : ∀ t ∈ ([7] : List Nat), POK 66 t 17 0 := (List.forall_mem_cons.mpr ⟨⟨6, ("ResurrectingHeapModel", F_M, 18), tf_M, rfl, rfl, tf_M_ok, nf_M, rfl, Or.inl rfl⟩, fun _ h => absurd h List.not_mem_nil⟩)
theorem po_75_N_amount : ∀ t ∈ ([2] : List Nat), POK 75 t 0 0 := (List.forall_mem_cons.mpr ⟨⟨1, ("ResurrectingHeap$Numeral", F_N, 1), tf_N, rfl, rfl, tf_N_ok, nf_N, rfl, Or.inr ⟨rfl, rfl, rfl⟩⟩, fun _ h => absurd h List.not_mem_nil⟩)
theorem po_77_R_things : ∀ t ∈ ([6] : List Nat), POK 77 t 0 2 := (List.forall_mem_cons.mpr ⟨⟨5, ("ResurrectingHeap$Row", F_R, 2), tf_R, rfl, rfl, tf_R_ok, nf_R, Or.inr ⟨_, rfl⟩, Or.inr ⟨rfl, rfl, rfl⟩⟩, fun _ h => absurd h List.not_mem_nil⟩)
theorem po_80_R_count : ∀ t ∈ ([6] : List Nat), POK 80 t 1 0 := (List.forall_mem_cons.mpr ⟨⟨5, ("ResurrectingHeap$Row", F_R, 2), tf_R, rfl, rfl, tf_R_ok, nf_R, rfl, Or.inl rfl⟩, fun _ h => absurd h List.not_mem_nil⟩)
theorem po_81_R_count : ∀ t ∈ ([6] : List Nat), POK 81 t 1 0 := (List.forall_mem_cons.mpr ⟨⟨5, ("ResurrectingHeap$Row", F_R, 2), tf_R, rfl, rfl, tf_R_ok, nf_R, rfl, Or.inl rfl⟩, fun _ h => absurd h List.not_mem_nil⟩)
theorem po_83_R_count : ∀ t ∈ ([6] : List Nat), POK 83 t 1 0 := (List.forall_mem_cons.mpr ⟨⟨5, ("ResurrectingHeap$Row", F_R, 2), tf_R, rfl, rfl, tf_R_ok, nf_R, rfl, Or.inl rfl⟩, fun _ h => absurd h List.not_mem_nil⟩)
theorem po_84_T_keys : ∀ t ∈ ([5] : List Nat), POK 84 t 6 2 := (List.forall_mem_cons.mpr ⟨⟨4, ("ResurrectingHeap$Table", F_T, 9), tf_T, rfl, rfl, tf_T_ok, nf_T, Or.inr ⟨_, rfl⟩, Or.inr ⟨rfl, rfl, rfl⟩⟩, fun _ h => absurd h List.not_mem_nil⟩)
theorem po_84_T_values : ∀ t ∈ ([5] : List Nat), POK 84 t 7 2 := (List.forall_mem_cons.mpr ⟨⟨4, ("ResurrectingHeap$Table", F_T, 9), tf_T, rfl, rfl, tf_T_ok, nf_T, Or.inr ⟨_, rfl⟩, Or.inr ⟨rfl, rfl, rfl⟩⟩, fun _ h => absurd h List.not_mem_nil⟩)
theorem po_85_T_entryCount : ∀ t ∈ ([5] : List Nat), POK 85 t 8 0 := (List.forall_mem_cons.mpr ⟨⟨4, ("ResurrectingHeap$Table", F_T, 9), tf_T, rfl, rfl, tf_T_ok, nf_T, rfl, Or.inl rfl⟩, fun _ h => absurd h List.not_mem_nil⟩)
theorem po_91_T_entryCount : ∀ t ∈ ([5] : List Nat), POK 91 t 8 0 := (List.forall_mem_cons.mpr ⟨⟨4, ("ResurrectingHeap$Table", F_T, 9), tf_T, rfl, rfl, tf_T_ok, nf_T, rfl, Or.inl rfl⟩, fun _ h => absurd h List.not_mem_nil⟩)
theorem po_92_G_hash : ∀ t ∈ ([3, 4, 5] : List Nat), POK 92 t 0 0 := (List.forall_mem_cons.mpr ⟨⟨2, ("ResurrectingHeap$Vector", F_V, 7), tf_V, rfl, rfl, tf_V_ok, nf_V, rfl, Or.inr ⟨rfl, rfl, rfl⟩⟩, List.forall_mem_cons.mpr ⟨⟨3, ("ResurrectingHeap$Weak", F_K, 7), tf_K, rfl, rfl, tf_K_ok, nf_K, rfl, Or.inr ⟨rfl, rfl, rfl⟩⟩, List.forall_mem_cons.mpr ⟨⟨4, ("ResurrectingHeap$Table", F_T, 9), tf_T, rfl, rfl, tf_T_ok, nf_T, rfl, Or.inr ⟨rfl, rfl, rfl⟩⟩, fun _ h => absurd h List.not_mem_nil⟩⟩⟩)
theorem po_92_G_cells : ∀ t ∈ ([3, 4, 5] : List Nat), POK 92 t 1 0 := (List.forall_mem_cons.mpr ⟨⟨2, ("ResurrectingHeap$Vector", F_V, 7), tf_V, rfl, rfl, tf_V_ok, nf_V, rfl, Or.inr ⟨rfl, rfl, rfl⟩⟩, List.forall_mem_cons.mpr ⟨⟨3, ("ResurrectingHeap$Weak", F_K, 7), tf_K, rfl, rfl, tf_K_ok, nf_K, rfl, Or.inr ⟨rfl, rfl, rfl⟩⟩, List.forall_mem_cons.mpr ⟨⟨4, ("ResurrectingHeap$Table", F_T, 9), tf_T, rfl, rfl, tf_T_ok, nf_T, rfl, Or.inr ⟨rfl, rfl, rfl⟩⟩, fun _ h => absurd h List.not_mem_nil⟩⟩⟩)
theorem po_94_V_fields : ∀ t ∈ ([3] : List Nat), POK 94 t 6 2 := (List.forall_mem_cons.mpr ⟨⟨2, ("ResurrectingHeap$Vector", F_V, 7), tf_V, rfl, rfl, tf_V_ok, nf_V, Or.inr ⟨_, rfl⟩, Or.inr ⟨rfl, rfl, rfl⟩⟩, fun _ h => absurd h List.not_mem_nil⟩)
theorem po_100_K_target : ∀ t ∈ ([4] : List Nat), POK 100 t 6 2 := (List.forall_mem_cons.mpr ⟨⟨3, ("ResurrectingHeap$Weak", F_K, 7), tf_K, rfl, rfl, tf_K_ok, nf_K, Or.inl ⟨_, rfl⟩, Or.inl rfl⟩, fun _ h => absurd h List.not_mem_nil⟩)
theorem po_104_K_target : ∀ t ∈ ([4] : List Nat), POK 104 t 6 2 := (List.forall_mem_cons.mpr ⟨⟨3, ("ResurrectingHeap$Weak", F_K, 7), tf_K, rfl, rfl, tf_K_ok, nf_K, Or.inl ⟨_, rfl⟩, Or.inl rfl⟩, fun _ h => absurd h List.not_mem_nil⟩)
theorem no_0_7 : NOK 0 7 1 7 df_H := ⟨0, ("ResurrectingHeap", F_H, 7), tf_H, rfl, by decide, rfl, rfl, tf_H_ok, by decide +kernel, fun j => (by unfold df_H; (repeat' split) <;> first | exact inR0 | exact trivial), ly_H, inW 40 (by decide +kernel) (by decide +kernel), inW 41 (by decide +kernel) (by decide +kernel), inW 31 (by decide +kernel) (by decide +kernel), by decide⟩
theorem no_0_10 : NOK 0 10 7 18 df_M := ⟨6, ("ResurrectingHeapModel", F_M, 18), tf_M, rfl, by decide, rfl, rfl, tf_M_ok, by decide +kernel, fun j => (by unfold df_M; (repeat' split) <;> first | exact inR0 | exact trivial), ly_M, inW 411 (by decide +kernel) (by decide +kernel), inW 412 (by decide +kernel) (by decide +kernel), inW 33 (by decide +kernel) (by decide +kernel), by decide⟩
theorem no_1_15 : NOK 1 15 6 2 df_R := ⟨5, ("ResurrectingHeap$Row", F_R, 2), tf_R, rfl, by decide, rfl, rfl, tf_R_ok, by decide +kernel, fun j => (by unfold df_R; (repeat' split) <;> first | exact inR0 | exact trivial), ly_R, inW 50 (by decide +kernel) (by decide +kernel), inW 51 (by decide +kernel) (by decide +kernel), inW 32 (by decide +kernel) (by decide +kernel), by decide⟩
theorem no_2_36 : NOK 2 36 2 1 df_N := ⟨1, ("ResurrectingHeap$Numeral", F_N, 1), tf_N, rfl, by decide, rfl, rfl, tf_N_ok, by decide +kernel, fun j => (by unfold df_N; (repeat' split) <;> first | exact inR0 | exact trivial), ly_N, inW 96 (by decide +kernel) (by decide +kernel), inW 97 (by decide +kernel) (by decide +kernel), inW 35 (by decide +kernel) (by decide +kernel), by decide⟩
theorem no_4_46 : NOK 4 46 3 7 df_V := ⟨2, ("ResurrectingHeap$Vector", F_V, 7), tf_V, rfl, by decide, rfl, rfl, tf_V_ok, by decide +kernel, fun j => (by unfold df_V; (repeat' split) <;> first | exact inR0 | exact trivial), ly_V, inW 209 (by decide +kernel) (by decide +kernel), inW 210 (by decide +kernel) (by decide +kernel), inW 37 (by decide +kernel) (by decide +kernel), by decide⟩
theorem no_5_63 : NOK 5 63 4 7 df_K := ⟨3, ("ResurrectingHeap$Weak", F_K, 7), tf_K, rfl, by decide, rfl, rfl, tf_K_ok, by decide +kernel, fun j => (by unfold df_K; (repeat' split) <;> first | exact inR0 | exact trivial), ly_K, inW 259 (by decide +kernel) (by decide +kernel), inW 260 (by decide +kernel) (by decide +kernel), inW 38 (by decide +kernel) (by decide +kernel), by decide⟩
theorem no_6_68 : NOK 6 68 5 9 df_T := ⟨4, ("ResurrectingHeap$Table", F_T, 9), tf_T, rfl, by decide, rfl, rfl, tf_T_ok, by decide +kernel, fun j => (by unfold df_T; (repeat' split) <;> first | exact inR0 | exact trivial), ly_T, inW 280 (by decide +kernel) (by decide +kernel), inW 281 (by decide +kernel) (by decide +kernel), inW 39 (by decide +kernel) (by decide +kernel), by decide⟩
theorem yo_G : YOK "ResurrectingHeap$Thing" [3, 4, 5] := (List.forall_mem_cons.mpr ⟨⟨2, ("ResurrectingHeap$Vector", F_V, 7), rfl, by decide, rfl, inW 629 (by decide +kernel) (by decide +kernel)⟩, List.forall_mem_cons.mpr ⟨⟨3, ("ResurrectingHeap$Weak", F_K, 7), rfl, by decide, rfl, inW 630 (by decide +kernel) (by decide +kernel)⟩, List.forall_mem_cons.mpr ⟨⟨4, ("ResurrectingHeap$Table", F_T, 9), rfl, by decide, rfl, inW 628 (by decide +kernel) (by decide +kernel)⟩, fun _ h => absurd h List.not_mem_nil⟩⟩⟩)
theorem zo_G : ZOK "ResurrectingHeap$Thing" [2] := (List.forall_mem_cons.mpr ⟨⟨1, ("ResurrectingHeap$Numeral", F_N, 1), rfl, by decide, rfl, by decide +kernel⟩, fun _ h => absurd h List.not_mem_nil⟩)
theorem yo_U : YOK "ResurrectingHeap$Value" [2, 3, 4, 5] := (List.forall_mem_cons.mpr ⟨⟨1, ("ResurrectingHeap$Numeral", F_N, 1), rfl, by decide, rfl, inW 635 (by decide +kernel) (by decide +kernel)⟩, List.forall_mem_cons.mpr ⟨⟨2, ("ResurrectingHeap$Vector", F_V, 7), rfl, by decide, rfl, inW 637 (by decide +kernel) (by decide +kernel)⟩, List.forall_mem_cons.mpr ⟨⟨3, ("ResurrectingHeap$Weak", F_K, 7), rfl, by decide, rfl, inW 638 (by decide +kernel) (by decide +kernel)⟩, List.forall_mem_cons.mpr ⟨⟨4, ("ResurrectingHeap$Table", F_T, 9), rfl, by decide, rfl, inW 636 (by decide +kernel) (by decide +kernel)⟩, fun _ h => absurd h List.not_mem_nil⟩⟩⟩⟩)
theorem yo_V : YOK "ResurrectingHeap$Vector" [3] := (List.forall_mem_cons.mpr ⟨⟨2, ("ResurrectingHeap$Vector", F_V, 7), rfl, by decide, rfl, inW 631 (by decide +kernel) (by decide +kernel)⟩, fun _ h => absurd h List.not_mem_nil⟩)
theorem zo_V : ZOK "ResurrectingHeap$Vector" [2, 4, 5] := (List.forall_mem_cons.mpr ⟨⟨1, ("ResurrectingHeap$Numeral", F_N, 1), rfl, by decide, rfl, by decide +kernel⟩, List.forall_mem_cons.mpr ⟨⟨3, ("ResurrectingHeap$Weak", F_K, 7), rfl, by decide, rfl, by decide +kernel⟩, List.forall_mem_cons.mpr ⟨⟨4, ("ResurrectingHeap$Table", F_T, 9), rfl, by decide, rfl, by decide +kernel⟩, fun _ h => absurd h List.not_mem_nil⟩⟩⟩)
theorem yo_K : YOK "ResurrectingHeap$Weak" [4] := (List.forall_mem_cons.mpr ⟨⟨3, ("ResurrectingHeap$Weak", F_K, 7), rfl, by decide, rfl, inW 632 (by decide +kernel) (by decide +kernel)⟩, fun _ h => absurd h List.not_mem_nil⟩)
theorem zo_K : ZOK "ResurrectingHeap$Weak" [2, 3, 5] := (List.forall_mem_cons.mpr ⟨⟨1, ("ResurrectingHeap$Numeral", F_N, 1), rfl, by decide, rfl, by decide +kernel⟩, List.forall_mem_cons.mpr ⟨⟨2, ("ResurrectingHeap$Vector", F_V, 7), rfl, by decide, rfl, by decide +kernel⟩, List.forall_mem_cons.mpr ⟨⟨4, ("ResurrectingHeap$Table", F_T, 9), rfl, by decide, rfl, by decide +kernel⟩, fun _ h => absurd h List.not_mem_nil⟩⟩⟩)
theorem yo_T : YOK "ResurrectingHeap$Table" [5] := (List.forall_mem_cons.mpr ⟨⟨4, ("ResurrectingHeap$Table", F_T, 9), rfl, by decide, rfl, inW 633 (by decide +kernel) (by decide +kernel)⟩, fun _ h => absurd h List.not_mem_nil⟩)
theorem zo_T : ZOK "ResurrectingHeap$Table" [2, 3, 4] := (List.forall_mem_cons.mpr ⟨⟨1, ("ResurrectingHeap$Numeral", F_N, 1), rfl, by decide, rfl, by decide +kernel⟩, List.forall_mem_cons.mpr ⟨⟨2, ("ResurrectingHeap$Vector", F_V, 7), rfl, by decide, rfl, by decide +kernel⟩, List.forall_mem_cons.mpr ⟨⟨3, ("ResurrectingHeap$Weak", F_K, 7), rfl, by decide, rfl, by decide +kernel⟩, fun _ h => absurd h List.not_mem_nil⟩⟩⟩)
theorem yo_N : YOK "ResurrectingHeap$Numeral" [2] := (List.forall_mem_cons.mpr ⟨⟨1, ("ResurrectingHeap$Numeral", F_N, 1), rfl, by decide, rfl, inW 634 (by decide +kernel) (by decide +kernel)⟩, fun _ h => absurd h List.not_mem_nil⟩)
theorem zo_N : ZOK "ResurrectingHeap$Numeral" [3, 4, 5] := (List.forall_mem_cons.mpr ⟨⟨2, ("ResurrectingHeap$Vector", F_V, 7), rfl, by decide, rfl, by decide +kernel⟩, List.forall_mem_cons.mpr ⟨⟨3, ("ResurrectingHeap$Weak", F_K, 7), rfl, by decide, rfl, by decide +kernel⟩, List.forall_mem_cons.mpr ⟨⟨4, ("ResurrectingHeap$Table", F_T, 9), rfl, by decide, rfl, by decide +kernel⟩, fun _ h => absurd h List.not_mem_nil⟩⟩⟩)
theorem ko_1 : COK 1 0 := ⟨inW 44 (by decide +kernel) (by decide +kernel), inW 31 (by decide +kernel) (by decide +kernel), by decide, by decide +kernel⟩
theorem mo_1 : MOK 1 := ⟨by decide +kernel, rfl, fun h => (by first | rfl | cases h), by decide⟩
theorem ko_2 : COK 2 2 := ⟨inW 90 (by decide +kernel) (by decide +kernel), inW 31 (by decide +kernel) (by decide +kernel), by decide, by decide +kernel⟩
theorem mo_2 : MOK 2 := ⟨by decide +kernel, rfl, fun h => (by first | rfl | cases h), by decide⟩
theorem ko_3 : COK 3 2 := ⟨inW 113 (by decide +kernel) (by decide +kernel), inW 31 (by decide +kernel) (by decide +kernel), by decide, by decide +kernel⟩
theorem mo_3 : MOK 3 := ⟨by decide +kernel, rfl, fun h => (by first | rfl | cases h), by decide⟩
theorem ko_4 : COK 4 2 := ⟨inW 121 (by decide +kernel) (by decide +kernel), inW 31 (by decide +kernel) (by decide +kernel), by decide, by decide +kernel⟩
theorem mo_4 : MOK 4 := ⟨by decide +kernel, rfl, fun h => (by first | rfl | cases h), by decide⟩
theorem ko_5 : COK 5 2 := ⟨inW 254 (by decide +kernel) (by decide +kernel), inW 31 (by decide +kernel) (by decide +kernel), by decide, by decide +kernel⟩
theorem mo_5 : MOK 5 := ⟨by decide +kernel, rfl, fun h => (by first | rfl | cases h), by decide⟩
theorem ko_6 : COK 6 1 := ⟨inW 279 (by decide +kernel) (by decide +kernel), inW 31 (by decide +kernel) (by decide +kernel), by decide, by decide +kernel⟩
theorem mo_6 : MOK 6 := ⟨by decide +kernel, rfl, fun h => (by first | rfl | cases h), by decide⟩
theorem ko_7 : COK 7 3 := ⟨inW 307 (by decide +kernel) (by decide +kernel), inW 31 (by decide +kernel) (by decide +kernel), by decide, by decide +kernel⟩
theorem mo_7 : MOK 7 := ⟨by decide +kernel, rfl, fun h => (by first | rfl | cases h), by decide⟩
theorem ko_8 : COK 8 3 := ⟨inW 315 (by decide +kernel) (by decide +kernel), inW 31 (by decide +kernel) (by decide +kernel), by decide, by decide +kernel⟩
theorem mo_8 : MOK 8 := ⟨by decide +kernel, rfl, fun h => (by first | rfl | cases h), by decide⟩
theorem ko_9 : COK 9 3 := ⟨inW 319 (by decide +kernel) (by decide +kernel), inW 31 (by decide +kernel) (by decide +kernel), by decide, by decide +kernel⟩
theorem mo_9 : MOK 9 := ⟨by decide +kernel, rfl, fun h => (by first | rfl | cases h), by decide⟩
theorem ko_10 : COK 10 3 := ⟨inW 331 (by decide +kernel) (by decide +kernel), inW 31 (by decide +kernel) (by decide +kernel), by decide, by decide +kernel⟩
theorem mo_10 : MOK 10 := ⟨by decide +kernel, rfl, fun h => (by first | rfl | cases h), by decide⟩
theorem ko_11 : COK 11 2 := ⟨inW 339 (by decide +kernel) (by decide +kernel), inW 31 (by decide +kernel) (by decide +kernel), by decide, by decide +kernel⟩
theorem mo_11 : MOK 11 := ⟨by decide +kernel, rfl, fun h => (by first | rfl | cases h), by decide⟩
theorem ko_12 : COK 12 1 := ⟨inW 343 (by decide +kernel) (by decide +kernel), inW 31 (by decide +kernel) (by decide +kernel), by decide, by decide +kernel⟩
theorem mo_12 : MOK 12 := ⟨by decide +kernel, rfl, fun h => (by first | rfl | cases h), by decide⟩
theorem ko_13 : COK 13 0 := ⟨inW 351 (by decide +kernel) (by decide +kernel), inW 31 (by decide +kernel) (by decide +kernel), by decide, by decide +kernel⟩
theorem mo_13 : MOK 13 := ⟨by decide +kernel, rfl, fun h => (by first | rfl | cases h), by decide⟩
theorem ko_14 : COK 14 1 := ⟨inW 355 (by decide +kernel) (by decide +kernel), inW 31 (by decide +kernel) (by decide +kernel), by decide, by decide +kernel⟩
theorem mo_14 : MOK 14 := ⟨by decide +kernel, rfl, fun h => (by first | rfl | cases h), by decide⟩
theorem ko_15 : COK 15 1 := ⟨inW 374 (by decide +kernel) (by decide +kernel), inW 31 (by decide +kernel) (by decide +kernel), by decide, by decide +kernel⟩
theorem mo_15 : MOK 15 := ⟨by decide +kernel, rfl, fun h => (by first | rfl | cases h), by decide⟩
theorem ko_16 : COK 16 1 := ⟨inW 378 (by decide +kernel) (by decide +kernel), inW 31 (by decide +kernel) (by decide +kernel), by decide, by decide +kernel⟩
theorem mo_16 : MOK 16 := ⟨by decide +kernel, rfl, fun h => (by first | rfl | cases h), by decide⟩
theorem ko_17 : COK 17 1 := ⟨inW 382 (by decide +kernel) (by decide +kernel), inW 31 (by decide +kernel) (by decide +kernel), by decide, by decide +kernel⟩
theorem mo_17 : MOK 17 := ⟨by decide +kernel, rfl, fun h => (by first | rfl | cases h), by decide⟩
theorem ko_18 : COK 18 1 := ⟨inW 386 (by decide +kernel) (by decide +kernel), inW 31 (by decide +kernel) (by decide +kernel), by decide, by decide +kernel⟩
theorem mo_18 : MOK 18 := ⟨by decide +kernel, rfl, fun h => (by first | rfl | cases h), by decide⟩
theorem ko_19 : COK 19 0 := ⟨inW 402 (by decide +kernel) (by decide +kernel), inW 31 (by decide +kernel) (by decide +kernel), by decide, by decide +kernel⟩
theorem mo_19 : MOK 19 := ⟨by decide +kernel, rfl, fun h => (by first | rfl | cases h), by decide⟩
theorem ko_20 : COK 20 0 := ⟨inW 406 (by decide +kernel) (by decide +kernel), inW 31 (by decide +kernel) (by decide +kernel), by decide, by decide +kernel⟩
theorem mo_20 : MOK 20 := ⟨by decide +kernel, rfl, fun h => (by first | rfl | cases h), by decide⟩
theorem ko_21 : COK 21 0 := ⟨inW 410 (by decide +kernel) (by decide +kernel), inW 31 (by decide +kernel) (by decide +kernel), by decide, by decide +kernel⟩
theorem mo_21 : MOK 21 := ⟨by decide +kernel, rfl, fun h => (by first | rfl | cases h), by decide⟩
theorem ko_22 : COK 22 1 := ⟨inW 93 (by decide +kernel) (by decide +kernel), inW 31 (by decide +kernel) (by decide +kernel), by decide, by decide +kernel⟩
theorem mo_22 : MOK 22 := ⟨by decide +kernel, rfl, fun h => (by first | rfl | cases h), by decide⟩
theorem ko_23 : COK 23 1 := ⟨inW 117 (by decide +kernel) (by decide +kernel), inW 31 (by decide +kernel) (by decide +kernel), by decide, by decide +kernel⟩
theorem mo_23 : MOK 23 := ⟨by decide +kernel, rfl, fun h => (by first | rfl | cases h), by decide⟩
theorem ko_24 : COK 24 1 := ⟨inW 258 (by decide +kernel) (by decide +kernel), inW 31 (by decide +kernel) (by decide +kernel), by decide, by decide +kernel⟩
theorem mo_24 : MOK 24 := ⟨by decide +kernel, rfl, fun h => (by first | rfl | cases h), by decide⟩
theorem ko_25 : COK 25 1 := ⟨inW 125 (by decide +kernel) (by decide +kernel), inW 31 (by decide +kernel) (by decide +kernel), by decide, by decide +kernel⟩
theorem mo_25 : MOK 25 := ⟨by decide +kernel, rfl, fun h => (by first | rfl | cases h), by decide⟩
theorem ko_26 : COK 26 2 := ⟨inW 250 (by decide +kernel) (by decide +kernel), inW 31 (by decide +kernel) (by decide +kernel), by decide, by decide +kernel⟩
theorem mo_26 : MOK 26 := ⟨by decide +kernel, rfl, fun h => (by first | rfl | cases h), by decide⟩
theorem ko_27 : COK 27 0 := ⟨inW 129 (by decide +kernel) (by decide +kernel), inW 31 (by decide +kernel) (by decide +kernel), by decide, by decide +kernel⟩
theorem mo_27 : MOK 27 := ⟨by decide +kernel, rfl, fun h => (by first | rfl | cases h), by decide⟩
theorem ko_28 : COK 28 0 := ⟨inW 133 (by decide +kernel) (by decide +kernel), inW 31 (by decide +kernel) (by decide +kernel), by decide, by decide +kernel⟩
theorem mo_28 : MOK 28 := ⟨by decide +kernel, rfl, fun h => (by first | rfl | cases h), by decide⟩
theorem ko_29 : COK 29 0 := ⟨inW 145 (by decide +kernel) (by decide +kernel), inW 31 (by decide +kernel) (by decide +kernel), by decide, by decide +kernel⟩
theorem mo_29 : MOK 29 := ⟨by decide +kernel, rfl, fun h => (by first | rfl | cases h), by decide⟩
theorem ko_30 : COK 30 0 := ⟨inW 158 (by decide +kernel) (by decide +kernel), inW 31 (by decide +kernel) (by decide +kernel), by decide, by decide +kernel⟩
theorem mo_30 : MOK 30 := ⟨by decide +kernel, rfl, fun h => (by first | rfl | cases h), by decide⟩
theorem ko_31 : COK 31 0 := ⟨inW 162 (by decide +kernel) (by decide +kernel), inW 31 (by decide +kernel) (by decide +kernel), by decide, by decide +kernel⟩
theorem mo_31 : MOK 31 := ⟨by decide +kernel, rfl, fun h => (by first | rfl | cases h), by decide⟩
theorem ko_32 : COK 32 0 := ⟨inW 180 (by decide +kernel) (by decide +kernel), inW 31 (by decide +kernel) (by decide +kernel), by decide, by decide +kernel⟩
theorem mo_32 : MOK 32 := ⟨by decide +kernel, rfl, fun h => (by first | rfl | cases h), by decide⟩
theorem ko_33 : COK 33 0 := ⟨inW 196 (by decide +kernel) (by decide +kernel), inW 31 (by decide +kernel) (by decide +kernel), by decide, by decide +kernel⟩
theorem mo_33 : MOK 33 := ⟨by decide +kernel, rfl, fun h => (by first | rfl | cases h), by decide⟩
theorem ko_34 : COK 34 0 := ⟨inW 208 (by decide +kernel) (by decide +kernel), inW 31 (by decide +kernel) (by decide +kernel), by decide, by decide +kernel⟩
theorem mo_34 : MOK 34 := ⟨by decide +kernel, rfl, fun h => (by first | rfl | cases h), by decide⟩
theorem ko_35 : COK 35 1 := ⟨inW 148 (by decide +kernel) (by decide +kernel), inW 31 (by decide +kernel) (by decide +kernel), by decide, by decide +kernel⟩
theorem mo_35 : MOK 35 := ⟨by decide +kernel, rfl, fun h => (by first | rfl | cases h), by decide⟩
theorem ko_36 : COK 36 0 := ⟨inW 415 (by decide +kernel) (by decide +kernel), inW 33 (by decide +kernel) (by decide +kernel), by decide, by decide +kernel⟩
theorem mo_36 : MOK 36 := ⟨by decide +kernel, rfl, fun h => (by first | rfl | cases h), by decide⟩
theorem ko_37 : COK 37 1 := ⟨inW 480 (by decide +kernel) (by decide +kernel), inW 33 (by decide +kernel) (by decide +kernel), by decide, by decide +kernel⟩
theorem mo_37 : MOK 37 := ⟨by decide +kernel, rfl, fun h => (by first | rfl | cases h), by decide⟩
theorem ko_38 : COK 38 1 := ⟨inW 522 (by decide +kernel) (by decide +kernel), inW 33 (by decide +kernel) (by decide +kernel), by decide, by decide +kernel⟩
theorem mo_38 : MOK 38 := ⟨by decide +kernel, rfl, fun h => (by first | rfl | cases h), by decide⟩
theorem ko_39 : COK 39 1 := ⟨inW 558 (by decide +kernel) (by decide +kernel), inW 33 (by decide +kernel) (by decide +kernel), by decide, by decide +kernel⟩
theorem mo_39 : MOK 39 := ⟨by decide +kernel, rfl, fun h => (by first | rfl | cases h), by decide⟩
theorem ko_40 : COK 40 2 := ⟨inW 570 (by decide +kernel) (by decide +kernel), inW 33 (by decide +kernel) (by decide +kernel), by decide, by decide +kernel⟩
theorem mo_40 : MOK 40 := ⟨by decide +kernel, rfl, fun h => (by first | rfl | cases h), by decide⟩
theorem ko_41 : COK 41 3 := ⟨inW 486 (by decide +kernel) (by decide +kernel), inW 33 (by decide +kernel) (by decide +kernel), by decide, by decide +kernel⟩
theorem mo_41 : MOK 41 := ⟨by decide +kernel, rfl, fun h => (by first | rfl | cases h), by decide⟩
theorem ko_42 : COK 42 2 := ⟨inW 477 (by decide +kernel) (by decide +kernel), inW 33 (by decide +kernel) (by decide +kernel), by decide, by decide +kernel⟩
theorem mo_42 : MOK 42 := ⟨by decide +kernel, rfl, fun h => (by first | rfl | cases h), by decide⟩
theorem ko_43 : COK 43 2 := ⟨inW 490 (by decide +kernel) (by decide +kernel), inW 33 (by decide +kernel) (by decide +kernel), by decide, by decide +kernel⟩
theorem mo_43 : MOK 43 := ⟨by decide +kernel, rfl, fun h => (by first | rfl | cases h), by decide⟩
theorem ko_44 : COK 44 1 := ⟨inW 506 (by decide +kernel) (by decide +kernel), inW 33 (by decide +kernel) (by decide +kernel), by decide, by decide +kernel⟩
theorem mo_44 : MOK 44 := ⟨by decide +kernel, rfl, fun h => (by first | rfl | cases h), by decide⟩
theorem ko_45 : COK 45 1 := ⟨inW 502 (by decide +kernel) (by decide +kernel), inW 33 (by decide +kernel) (by decide +kernel), by decide, by decide +kernel⟩
theorem mo_45 : MOK 45 := ⟨by decide +kernel, rfl, fun h => (by first | rfl | cases h), by decide⟩
theorem ko_46 : COK 46 3 := ⟨inW 498 (by decide +kernel) (by decide +kernel), inW 33 (by decide +kernel) (by decide +kernel), by decide, by decide +kernel⟩
theorem mo_46 : MOK 46 := ⟨by decide +kernel, rfl, fun h => (by first | rfl | cases h), by decide⟩
theorem ko_47 : COK 47 2 := ⟨inW 494 (by decide +kernel) (by decide +kernel), inW 33 (by decide +kernel) (by decide +kernel), by decide, by decide +kernel⟩
theorem mo_47 : MOK 47 := ⟨by decide +kernel, rfl, fun h => (by first | rfl | cases h), by decide⟩
theorem ko_48 : COK 48 2 := ⟨inW 554 (by decide +kernel) (by decide +kernel), inW 33 (by decide +kernel) (by decide +kernel), by decide, by decide +kernel⟩
theorem mo_48 : MOK 48 := ⟨by decide +kernel, rfl, fun h => (by first | rfl | cases h), by decide⟩
theorem ko_49 : COK 49 1 := ⟨inW 562 (by decide +kernel) (by decide +kernel), inW 33 (by decide +kernel) (by decide +kernel), by decide, by decide +kernel⟩
theorem mo_49 : MOK 49 := ⟨by decide +kernel, rfl, fun h => (by first | rfl | cases h), by decide⟩
theorem ko_50 : COK 50 3 := ⟨inW 566 (by decide +kernel) (by decide +kernel), inW 33 (by decide +kernel) (by decide +kernel), by decide, by decide +kernel⟩
theorem mo_50 : MOK 50 := ⟨by decide +kernel, rfl, fun h => (by first | rfl | cases h), by decide⟩
theorem ko_51 : COK 51 3 := ⟨inW 574 (by decide +kernel) (by decide +kernel), inW 33 (by decide +kernel) (by decide +kernel), by decide, by decide +kernel⟩
theorem mo_51 : MOK 51 := ⟨by decide +kernel, rfl, fun h => (by first | rfl | cases h), by decide⟩
theorem ko_52 : COK 52 2 := ⟨inW 582 (by decide +kernel) (by decide +kernel), inW 33 (by decide +kernel) (by decide +kernel), by decide, by decide +kernel⟩
theorem mo_52 : MOK 52 := ⟨by decide +kernel, rfl, fun h => (by first | rfl | cases h), by decide⟩
theorem ko_53 : COK 53 3 := ⟨inW 578 (by decide +kernel) (by decide +kernel), inW 33 (by decide +kernel) (by decide +kernel), by decide, by decide +kernel⟩
theorem mo_53 : MOK 53 := ⟨by decide +kernel, rfl, fun h => (by first | rfl | cases h), by decide⟩
theorem ko_54 : COK 54 3 := ⟨inW 586 (by decide +kernel) (by decide +kernel), inW 33 (by decide +kernel) (by decide +kernel), by decide, by decide +kernel⟩
theorem mo_54 : MOK 54 := ⟨by decide +kernel, rfl, fun h => (by first | rfl | cases h), by decide⟩
theorem ko_55 : COK 55 2 := ⟨inW 590 (by decide +kernel) (by decide +kernel), inW 33 (by decide +kernel) (by decide +kernel), by decide, by decide +kernel⟩
theorem mo_55 : MOK 55 := ⟨by decide +kernel, rfl, fun h => (by first | rfl | cases h), by decide⟩
theorem ko_56 : COK 56 1 := ⟨inW 594 (by decide +kernel) (by decide +kernel), inW 33 (by decide +kernel) (by decide +kernel), by decide, by decide +kernel⟩
theorem mo_56 : MOK 56 := ⟨by decide +kernel, rfl, fun h => (by first | rfl | cases h), by decide⟩
theorem ko_57 : COK 57 1 := ⟨inW 538 (by decide +kernel) (by decide +kernel), inW 33 (by decide +kernel) (by decide +kernel), by decide, by decide +kernel⟩
theorem mo_57 : MOK 57 := ⟨by decide +kernel, rfl, fun h => (by first | rfl | cases h), by decide⟩
theorem ko_58 : COK 58 1 := ⟨inW 518 (by decide +kernel) (by decide +kernel), inW 33 (by decide +kernel) (by decide +kernel), by decide, by decide +kernel⟩
theorem mo_58 : MOK 58 := ⟨by decide +kernel, rfl, fun h => (by first | rfl | cases h), by decide⟩
theorem ko_59 : COK 59 0 := ⟨inW 514 (by decide +kernel) (by decide +kernel), inW 33 (by decide +kernel) (by decide +kernel), by decide, by decide +kernel⟩
theorem mo_59 : MOK 59 := ⟨by decide +kernel, rfl, fun h => (by first | rfl | cases h), by decide⟩
theorem ko_60 : COK 60 0 := ⟨inW 526 (by decide +kernel) (by decide +kernel), inW 33 (by decide +kernel) (by decide +kernel), by decide, by decide +kernel⟩
theorem mo_60 : MOK 60 := ⟨by decide +kernel, rfl, fun h => (by first | rfl | cases h), by decide⟩
theorem ko_61 : COK 61 1 := ⟨inW 534 (by decide +kernel) (by decide +kernel), inW 33 (by decide +kernel) (by decide +kernel), by decide, by decide +kernel⟩
theorem mo_61 : MOK 61 := ⟨by decide +kernel, rfl, fun h => (by first | rfl | cases h), by decide⟩
theorem ko_62 : COK 62 1 := ⟨inW 530 (by decide +kernel) (by decide +kernel), inW 33 (by decide +kernel) (by decide +kernel), by decide, by decide +kernel⟩
theorem mo_62 : MOK 62 := ⟨by decide +kernel, rfl, fun h => (by first | rfl | cases h), by decide⟩
theorem ko_63 : COK 63 0 := ⟨inW 542 (by decide +kernel) (by decide +kernel), inW 33 (by decide +kernel) (by decide +kernel), by decide, by decide +kernel⟩
theorem mo_63 : MOK 63 := ⟨by decide +kernel, rfl, fun h => (by first | rfl | cases h), by decide⟩
theorem ko_64 : COK 64 0 := ⟨inW 546 (by decide +kernel) (by decide +kernel), inW 33 (by decide +kernel) (by decide +kernel), by decide, by decide +kernel⟩
theorem mo_64 : MOK 64 := ⟨by decide +kernel, rfl, fun h => (by first | rfl | cases h), by decide⟩
theorem ko_65 : COK 65 0 := ⟨inW 550 (by decide +kernel) (by decide +kernel), inW 33 (by decide +kernel) (by decide +kernel), by decide, by decide +kernel⟩
theorem mo_65 : MOK 65 := ⟨by decide +kernel, rfl, fun h => (by first | rfl | cases h), by decide⟩
theorem ko_66 : COK 66 0 := ⟨inW 510 (by decide +kernel) (by decide +kernel), inW 33 (by decide +kernel) (by decide +kernel), by decide, by decide +kernel⟩
theorem mo_66 : MOK 66 := ⟨by decide +kernel, rfl, fun h => (by first | rfl | cases h), by decide⟩
theorem ko_67 : COK 67 1 := ⟨inW 599 (by decide +kernel) (by decide +kernel), inW 33 (by decide +kernel) (by decide +kernel), by decide, by decide +kernel⟩
theorem mo_67 : MOK 67 := ⟨by decide +kernel, rfl, fun h => (by first | rfl | cases h), by decide⟩
theorem ko_68 : COK 68 1 := ⟨inW 603 (by decide +kernel) (by decide +kernel), inW 33 (by decide +kernel) (by decide +kernel), by decide, by decide +kernel⟩
theorem mo_68 : MOK 68 := ⟨by decide +kernel, rfl, fun h => (by first | rfl | cases h), by decide⟩
theorem ko_69 : COK 69 1 := ⟨inW 607 (by decide +kernel) (by decide +kernel), inW 33 (by decide +kernel) (by decide +kernel), by decide, by decide +kernel⟩
theorem mo_69 : MOK 69 := ⟨by decide +kernel, rfl, fun h => (by first | rfl | cases h), by decide⟩
theorem ko_70 : COK 70 1 := ⟨inW 611 (by decide +kernel) (by decide +kernel), inW 33 (by decide +kernel) (by decide +kernel), by decide, by decide +kernel⟩
theorem mo_70 : MOK 70 := ⟨by decide +kernel, rfl, fun h => (by first | rfl | cases h), by decide⟩
theorem ko_71 : COK 71 1 := ⟨inW 615 (by decide +kernel) (by decide +kernel), inW 33 (by decide +kernel) (by decide +kernel), by decide, by decide +kernel⟩
theorem mo_71 : MOK 71 := ⟨by decide +kernel, rfl, fun h => (by first | rfl | cases h), by decide⟩
theorem ko_72 : COK 72 0 := ⟨inW 619 (by decide +kernel) (by decide +kernel), inW 33 (by decide +kernel) (by decide +kernel), by decide, by decide +kernel⟩
theorem mo_72 : MOK 72 := ⟨by decide +kernel, rfl, fun h => (by first | rfl | cases h), by decide⟩
theorem ko_73 : COK 73 0 := ⟨inW 623 (by decide +kernel) (by decide +kernel), inW 33 (by decide +kernel) (by decide +kernel), by decide, by decide +kernel⟩
theorem mo_73 : MOK 73 := ⟨by decide +kernel, rfl, fun h => (by first | rfl | cases h), by decide⟩
theorem ko_74 : COK 74 0 := ⟨inW 627 (by decide +kernel) (by decide +kernel), inW 33 (by decide +kernel) (by decide +kernel), by decide, by decide +kernel⟩
theorem mo_74 : MOK 74 := ⟨by decide +kernel, rfl, fun h => (by first | rfl | cases h), by decide⟩
theorem ko_75 : COK 75 1 := ⟨inW 100 (by decide +kernel) (by decide +kernel), inW 35 (by decide +kernel) (by decide +kernel), by decide, by decide +kernel⟩
theorem mo_75 : MOK 75 := ⟨by decide +kernel, rfl, fun h => (by first | rfl | cases h), by decide⟩
theorem ko_76 : COK 76 0 := ⟨inW 361 (by decide +kernel) (by decide +kernel), inW 35 (by decide +kernel) (by decide +kernel), by decide, by decide +kernel⟩
theorem mo_76 : MOK 76 := ⟨by decide +kernel, rfl, fun h => (by first | rfl | cases h), by decide⟩
theorem ko_77 : COK 77 1 := ⟨inW 54 (by decide +kernel) (by decide +kernel), inW 32 (by decide +kernel) (by decide +kernel), by decide, by decide +kernel⟩
theorem mo_77 : MOK 77 := ⟨by decide +kernel, rfl, fun h => (by first | rfl | cases h), by decide⟩
theorem ko_78 : COK 78 0 := ⟨inW 137 (by decide +kernel) (by decide +kernel), inW 32 (by decide +kernel) (by decide +kernel), by decide, by decide +kernel⟩
theorem mo_78 : MOK 78 := ⟨by decide +kernel, rfl, fun h => (by first | rfl | cases h), by decide⟩
theorem ko_79 : COK 79 1 := ⟨inW 141 (by decide +kernel) (by decide +kernel), inW 32 (by decide +kernel) (by decide +kernel), by decide, by decide +kernel⟩
theorem mo_79 : MOK 79 := ⟨by decide +kernel, rfl, fun h => (by first | rfl | cases h), by decide⟩
theorem ko_80 : COK 80 1 := ⟨inW 200 (by decide +kernel) (by decide +kernel), inW 32 (by decide +kernel) (by decide +kernel), by decide, by decide +kernel⟩
theorem mo_80 : MOK 80 := ⟨by decide +kernel, rfl, fun h => (by first | rfl | cases h), by decide⟩
theorem ko_81 : COK 81 0 := ⟨inW 347 (by decide +kernel) (by decide +kernel), inW 32 (by decide +kernel) (by decide +kernel), by decide, by decide +kernel⟩
theorem mo_81 : MOK 81 := ⟨by decide +kernel, rfl, fun h => (by first | rfl | cases h), by decide⟩
theorem ko_82 : COK 82 0 := ⟨inW 153 (by decide +kernel) (by decide +kernel), inW 32 (by decide +kernel) (by decide +kernel), by decide, by decide +kernel⟩
theorem mo_82 : MOK 82 := ⟨by decide +kernel, rfl, fun h => (by first | rfl | cases h), by decide⟩
theorem ko_83 : COK 83 0 := ⟨inW 204 (by decide +kernel) (by decide +kernel), inW 32 (by decide +kernel) (by decide +kernel), by decide, by decide +kernel⟩
theorem mo_83 : MOK 83 := ⟨by decide +kernel, rfl, fun h => (by first | rfl | cases h), by decide⟩
theorem ko_84 : COK 84 1 := ⟨inW 284 (by decide +kernel) (by decide +kernel), inW 39 (by decide +kernel) (by decide +kernel), by decide, by decide +kernel⟩
theorem mo_84 : MOK 84 := ⟨by decide +kernel, rfl, fun h => (by first | rfl | cases h), by decide⟩
theorem ko_85 : COK 85 2 := ⟨inW 323 (by decide +kernel) (by decide +kernel), inW 39 (by decide +kernel) (by decide +kernel), by decide, by decide +kernel⟩
theorem mo_85 : MOK 85 := ⟨by decide +kernel, rfl, fun h => (by first | rfl | cases h), by decide⟩
theorem ko_86 : COK 86 1 := ⟨inW 335 (by decide +kernel) (by decide +kernel), inW 39 (by decide +kernel) (by decide +kernel), by decide, by decide +kernel⟩
theorem mo_86 : MOK 86 := ⟨by decide +kernel, rfl, fun h => (by first | rfl | cases h), by decide⟩
theorem ko_87 : COK 87 1 := ⟨inW 327 (by decide +kernel) (by decide +kernel), inW 39 (by decide +kernel) (by decide +kernel), by decide, by decide +kernel⟩
theorem mo_87 : MOK 87 := ⟨by decide +kernel, rfl, fun h => (by first | rfl | cases h), by decide⟩
theorem ko_88 : COK 88 0 := ⟨inW 364 (by decide +kernel) (by decide +kernel), inW 39 (by decide +kernel) (by decide +kernel), by decide, by decide +kernel⟩
theorem mo_88 : MOK 88 := ⟨by decide +kernel, rfl, fun h => (by first | rfl | cases h), by decide⟩
theorem ko_89 : COK 89 0 := ⟨inW 392 (by decide +kernel) (by decide +kernel), inW 39 (by decide +kernel) (by decide +kernel), by decide, by decide +kernel⟩
theorem mo_89 : MOK 89 := ⟨by decide +kernel, rfl, fun h => (by first | rfl | cases h), by decide⟩
theorem ko_90 : COK 90 0 := ⟨inW 168 (by decide +kernel) (by decide +kernel), inW 39 (by decide +kernel) (by decide +kernel), by decide, by decide +kernel⟩
theorem mo_90 : MOK 90 := ⟨by decide +kernel, rfl, fun h => (by first | rfl | cases h), by decide⟩
theorem ko_91 : COK 91 0 := ⟨inW 186 (by decide +kernel) (by decide +kernel), inW 39 (by decide +kernel) (by decide +kernel), by decide, by decide +kernel⟩
theorem mo_91 : MOK 91 := ⟨by decide +kernel, rfl, fun h => (by first | rfl | cases h), by decide⟩
theorem ko_92 : COK 92 2 := ⟨inW 216 (by decide +kernel) (by decide +kernel), inW 36 (by decide +kernel) (by decide +kernel), by decide, by decide +kernel⟩
theorem mo_92 : MOK 92 := ⟨by decide +kernel, rfl, fun h => (by first | rfl | cases h), by decide⟩
theorem ko_93 : COK 93 0 := ⟨inW 103 (by decide +kernel) (by decide +kernel), inW 34 (by decide +kernel) (by decide +kernel), by decide, by decide +kernel⟩
theorem mo_93 : MOK 93 := ⟨by decide +kernel, rfl, fun h => (by first | rfl | cases h), by decide⟩
theorem ko_94 : COK 94 2 := ⟨inW 213 (by decide +kernel) (by decide +kernel), inW 37 (by decide +kernel) (by decide +kernel), by decide, by decide +kernel⟩
theorem mo_94 : MOK 94 := ⟨by decide +kernel, rfl, fun h => (by first | rfl | cases h), by decide⟩
theorem ko_95 : COK 95 1 := ⟨inW 311 (by decide +kernel) (by decide +kernel), inW 37 (by decide +kernel) (by decide +kernel), by decide, by decide +kernel⟩
theorem mo_95 : MOK 95 := ⟨by decide +kernel, rfl, fun h => (by first | rfl | cases h), by decide⟩
theorem ko_96 : COK 96 0 := ⟨inW 367 (by decide +kernel) (by decide +kernel), inW 37 (by decide +kernel) (by decide +kernel), by decide, by decide +kernel⟩
theorem mo_96 : MOK 96 := ⟨by decide +kernel, rfl, fun h => (by first | rfl | cases h), by decide⟩
theorem ko_97 : COK 97 0 := ⟨inW 395 (by decide +kernel) (by decide +kernel), inW 37 (by decide +kernel) (by decide +kernel), by decide, by decide +kernel⟩
theorem mo_97 : MOK 97 := ⟨by decide +kernel, rfl, fun h => (by first | rfl | cases h), by decide⟩
theorem ko_98 : COK 98 0 := ⟨inW 172 (by decide +kernel) (by decide +kernel), inW 37 (by decide +kernel) (by decide +kernel), by decide, by decide +kernel⟩
theorem mo_98 : MOK 98 := ⟨by decide +kernel, rfl, fun h => (by first | rfl | cases h), by decide⟩
theorem ko_99 : COK 99 0 := ⟨inW 189 (by decide +kernel) (by decide +kernel), inW 37 (by decide +kernel) (by decide +kernel), by decide, by decide +kernel⟩
theorem mo_99 : MOK 99 := ⟨by decide +kernel, rfl, fun h => (by first | rfl | cases h), by decide⟩
theorem ko_100 : COK 100 2 := ⟨inW 263 (by decide +kernel) (by decide +kernel), inW 38 (by decide +kernel) (by decide +kernel), by decide, by decide +kernel⟩
theorem mo_100 : MOK 100 := ⟨by decide +kernel, rfl, fun h => (by first | rfl | cases h), by decide⟩
theorem ko_101 : COK 101 0 := ⟨inW 370 (by decide +kernel) (by decide +kernel), inW 38 (by decide +kernel) (by decide +kernel), by decide, by decide +kernel⟩
theorem mo_101 : MOK 101 := ⟨by decide +kernel, rfl, fun h => (by first | rfl | cases h), by decide⟩
theorem ko_102 : COK 102 0 := ⟨inW 398 (by decide +kernel) (by decide +kernel), inW 38 (by decide +kernel) (by decide +kernel), by decide, by decide +kernel⟩
theorem mo_102 : MOK 102 := ⟨by decide +kernel, rfl, fun h => (by first | rfl | cases h), by decide⟩
theorem ko_103 : COK 103 0 := ⟨inW 176 (by decide +kernel) (by decide +kernel), inW 38 (by decide +kernel) (by decide +kernel), by decide, by decide +kernel⟩
theorem mo_103 : MOK 103 := ⟨by decide +kernel, rfl, fun h => (by first | rfl | cases h), by decide⟩
theorem ko_104 : COK 104 0 := ⟨inW 192 (by decide +kernel) (by decide +kernel), inW 38 (by decide +kernel) (by decide +kernel), by decide, by decide +kernel⟩
theorem mo_104 : MOK 104 := ⟨by decide +kernel, rfl, fun h => (by first | rfl | cases h), by decide⟩
end
section
/-! each method's instructions are sound (by program) -/
section OK0
variable {G : MG}
set_option maxRecDepth 20000 in
theorem ok_l_0_0 (hK : K0 G) : ∀ q ∈ l_0_0, SE G 0 q.1 q.2 :=
  List.forall_mem_cons.mpr ⟨(show SE G 0 0 (.inl (i_new 1 7 df_H 3)) from s_new (idx := 7) hK (by decide +kernel) no_0_7),
  List.forall_mem_cons.mpr ⟨(show SE G 0 3 (.inl (i_dup 4)) from s_dup (by decide +kernel)),
  List.forall_mem_cons.mpr ⟨(show SE G 0 4 (.inr (.inl (false, 1, [(1, 1)], 7))) from ⟨c_init (idx := 9) (n := 0) (k1 := 1) (ts := [1]) (by decide +kernel) ko_1 (inW 42 (by decide +kernel) (by decide +kernel)) (inW 43 (by decide +kernel) (by decide +kernel)) rfl rfl, (List.forall_mem_cons.mpr ⟨⟨mo_1, by decide⟩, fun _ h => absurd h List.not_mem_nil⟩)⟩),
  List.forall_mem_cons.mpr ⟨(show SE G 0 7 (.inl (i_as 1 8)) from s_astore_n (j := 1) (by decide +kernel) (by decide)),
  List.forall_mem_cons.mpr ⟨(show SE G 0 8 (.inl (i_new 7 18 df_M 11)) from s_new (idx := 10) hK (by decide +kernel) no_0_10),
  List.forall_mem_cons.mpr ⟨(show SE G 0 11 (.inl (i_dup 12)) from s_dup (by decide +kernel)),
  List.forall_mem_cons.mpr ⟨(show SE G 0 12 (.inr (.inl (false, 1, [(7, 36)], 15))) from ⟨c_init (idx := 12) (n := 0) (k1 := 36) (ts := [7]) (by decide +kernel) ko_36 (inW 413 (by decide +kernel) (by decide +kernel)) (inW 414 (by decide +kernel) (by decide +kernel)) rfl rfl, (List.forall_mem_cons.mpr ⟨⟨mo_36, by decide⟩, fun _ h => absurd h List.not_mem_nil⟩)⟩),
  List.forall_mem_cons.mpr ⟨(show SE G 0 15 (.inl (i_as 2 16)) from s_astore_n (j := 2) (by decide +kernel) (by decide)),
  List.forall_mem_cons.mpr ⟨(show SE G 0 16 (.inl (i_c 0 17)) from s_iconst (e := 0) (by decide +kernel) (by decide)),
  List.forall_mem_cons.mpr ⟨(show SE G 0 17 (.inl (i_is 3 18)) from s_istore_n (j := 3) (by decide +kernel) (by decide)),
  List.forall_mem_cons.mpr ⟨(show SE G 0 18 (.inl (i_il 3 19)) from s_iload_n (j := 3) (by decide +kernel)),
  List.forall_mem_cons.mpr ⟨(show SE G 0 19 (.inl (i_al 0 20)) from s_aload_n (j := 0) (by decide +kernel)),
  List.forall_mem_cons.mpr ⟨(show SE G 0 20 (.inl (i_len 21)) from s_len hK (by decide +kernel)),
  List.forall_mem_cons.mpr ⟨(show SE G 0 21 (.inl (i_c 4 22)) from s_iconst (e := 4) (by decide +kernel) (by decide)),
  List.forall_mem_cons.mpr ⟨(show SE G 0 22 (.inl (i_bin (fun a b => a - b) 23)) from s_isub (by decide +kernel)),
  List.forall_mem_cons.mpr ⟨(show SE G 0 23 (.inl (i_cmp 4 684 26)) from s_icmp_gt (tg := 684) (off := 661) (by decide +kernel) (by decide)),
  List.forall_mem_cons.mpr ⟨(show SE G 0 26 (.inl (i_al 0 27)) from s_aload_n (j := 0) (by decide +kernel)),
  List.forall_mem_cons.mpr ⟨(show SE G 0 27 (.inl (i_il 3 28)) from s_iload_n (j := 3) (by decide +kernel)),
  List.forall_mem_cons.mpr ⟨(show SE G 0 28 (.inl (i_ld [20, 30] 29)) from s_iald hK (by decide +kernel)),
  List.forall_mem_cons.mpr ⟨(show SE G 0 29 (.inl (i_c 31 31)) from s_bipush (e := 31) (by decide +kernel) (by decide +kernel) (by decide)),
  List.forall_mem_cons.mpr ⟨(show SE G 0 31 (.inl (i_and 32)) from s_iand (by decide +kernel)),
  List.forall_mem_cons.mpr ⟨(show SE G 0 32 (.inl (i_sw 0 19 [128, 161, 194, 227, 260, 283, 326, 369, 412, 455, 488, 511, 524, 547, 570, 593, 616, 639, 652, 665] 678)) from s_switch (df := 646) (lo := 0) (hi := 19) (offs := #[96, 129, 162, 195, 228, 251, 294, 337, 380, 423, 456, 479, 492, 515, 538, 561, 584, 607, 620, 633]) (len := 96) (dt := 678) (by decide +kernel) (by decide) (by decide)),
  List.forall_mem_cons.mpr ⟨(show SE G 0 128 (.inl (i_al 1 129)) from s_aload_n (j := 1) (by decide +kernel)),
  List.forall_mem_cons.mpr ⟨(show SE G 0 129 (.inl (i_al 0 130)) from s_aload_n (j := 0) (by decide +kernel)),
  List.forall_mem_cons.mpr ⟨(show SE G 0 130 (.inl (i_il 3 131)) from s_iload_n (j := 3) (by decide +kernel)),
  List.forall_mem_cons.mpr ⟨(show SE G 0 131 (.inl (i_c 1 132)) from s_iconst (e := 1) (by decide +kernel) (by decide)),
  List.forall_mem_cons.mpr ⟨(show SE G 0 132 (.inl (i_bin (fun a b => a + b) 133)) from s_iadd (by decide +kernel)),
  List.forall_mem_cons.mpr ⟨(show SE G 0 133 (.inl (i_ld [20, 30] 134)) from s_iald hK (by decide +kernel)),
  List.forall_mem_cons.mpr ⟨(show SE G 0 134 (.inl (i_al 0 135)) from s_aload_n (j := 0) (by decide +kernel)),
  List.forall_mem_cons.mpr ⟨(show SE G 0 135 (.inl (i_il 3 136)) from s_iload_n (j := 3) (by decide +kernel)),
  fun _ h => absurd h List.not_mem_nil⟩⟩⟩⟩⟩⟩⟩⟩⟩⟩⟩⟩⟩⟩⟩⟩⟩⟩⟩⟩⟩⟩⟩⟩⟩⟩⟩⟩⟩⟩
set_option maxRecDepth 20000 in
theorem ok_l_0_1 (hK : K0 G) : ∀ q ∈ l_0_1, SE G 0 q.1 q.2 :=
  List.forall_mem_cons.mpr ⟨(show SE G 0 136 (.inl (i_c 2 137)) from s_iconst (e := 2) (by decide +kernel) (by decide)),
  List.forall_mem_cons.mpr ⟨(show SE G 0 137 (.inl (i_bin (fun a b => a + b) 138)) from s_iadd (by decide +kernel)),
  List.forall_mem_cons.mpr ⟨(show SE G 0 138 (.inl (i_ld [20, 30] 139)) from s_iald hK (by decide +kernel)),
  List.forall_mem_cons.mpr ⟨(show SE G 0 139 (.inr (.inl (false, 3, [(1, 2)], 142))) from ⟨c_virt (idx := 13) (n := 2) hK (by decide +kernel) (List.forall_mem_cons.mpr ⟨⟨ko_2, inW 87 (by decide +kernel) (by decide +kernel), inW 88 (by decide +kernel) (by decide +kernel), 0, _, rfl, by decide, rfl, inW 89 (by decide +kernel) (by decide +kernel)⟩, fun _ h => absurd h List.not_mem_nil⟩), (List.forall_mem_cons.mpr ⟨⟨mo_2, by decide⟩, fun _ h => absurd h List.not_mem_nil⟩)⟩),
  List.forall_mem_cons.mpr ⟨(show SE G 0 142 (.inl (i_al 2 143)) from s_aload_n (j := 2) (by decide +kernel)),
  List.forall_mem_cons.mpr ⟨(show SE G 0 143 (.inl (i_al 0 144)) from s_aload_n (j := 0) (by decide +kernel)),
  List.forall_mem_cons.mpr ⟨(show SE G 0 144 (.inl (i_il 3 145)) from s_iload_n (j := 3) (by decide +kernel)),
  List.forall_mem_cons.mpr ⟨(show SE G 0 145 (.inl (i_c 1 146)) from s_iconst (e := 1) (by decide +kernel) (by decide)),
  List.forall_mem_cons.mpr ⟨(show SE G 0 146 (.inl (i_bin (fun a b => a + b) 147)) from s_iadd (by decide +kernel)),
  List.forall_mem_cons.mpr ⟨(show SE G 0 147 (.inl (i_ld [20, 30] 148)) from s_iald hK (by decide +kernel)),
  List.forall_mem_cons.mpr ⟨(show SE G 0 148 (.inl (i_al 0 149)) from s_aload_n (j := 0) (by decide +kernel)),
  List.forall_mem_cons.mpr ⟨(show SE G 0 149 (.inl (i_il 3 150)) from s_iload_n (j := 3) (by decide +kernel)),
  List.forall_mem_cons.mpr ⟨(show SE G 0 150 (.inl (i_c 2 151)) from s_iconst (e := 2) (by decide +kernel) (by decide)),
  List.forall_mem_cons.mpr ⟨(show SE G 0 151 (.inl (i_bin (fun a b => a + b) 152)) from s_iadd (by decide +kernel)),
  List.forall_mem_cons.mpr ⟨(show SE G 0 152 (.inl (i_ld [20, 30] 153)) from s_iald hK (by decide +kernel)),
  List.forall_mem_cons.mpr ⟨(show SE G 0 153 (.inr (.inl (false, 3, [(7, 42)], 156))) from ⟨c_virt (idx := 17) (n := 2) hK (by decide +kernel) (List.forall_mem_cons.mpr ⟨⟨ko_42, inW 474 (by decide +kernel) (by decide +kernel), inW 475 (by decide +kernel) (by decide +kernel), 6, _, rfl, by decide, rfl, inW 476 (by decide +kernel) (by decide +kernel)⟩, fun _ h => absurd h List.not_mem_nil⟩), (List.forall_mem_cons.mpr ⟨⟨mo_42, by decide⟩, fun _ h => absurd h List.not_mem_nil⟩)⟩),
  List.forall_mem_cons.mpr ⟨(show SE G 0 156 (.inl (i_cmp 0 678 159)) from s_icmp_eq (tg := 678) (off := 522) (by decide +kernel) (by decide)),
  List.forall_mem_cons.mpr ⟨(show SE G 0 159 (.inl (i_c 0 160)) from s_iconst (e := 0) (by decide +kernel) (by decide)),
  List.forall_mem_cons.mpr ⟨(show SE G 0 160 (.inr (.inr 1)) from ⟨(by decide +kernel), rfl⟩),
  List.forall_mem_cons.mpr ⟨(show SE G 0 161 (.inl (i_al 1 162)) from s_aload_n (j := 1) (by decide +kernel)),
  List.forall_mem_cons.mpr ⟨(show SE G 0 162 (.inl (i_al 0 163)) from s_aload_n (j := 0) (by decide +kernel)),
  List.forall_mem_cons.mpr ⟨(show SE G 0 163 (.inl (i_il 3 164)) from s_iload_n (j := 3) (by decide +kernel)),
  List.forall_mem_cons.mpr ⟨(show SE G 0 164 (.inl (i_c 1 165)) from s_iconst (e := 1) (by decide +kernel) (by decide)),
  List.forall_mem_cons.mpr ⟨(show SE G 0 165 (.inl (i_bin (fun a b => a + b) 166)) from s_iadd (by decide +kernel)),
  List.forall_mem_cons.mpr ⟨(show SE G 0 166 (.inl (i_ld [20, 30] 167)) from s_iald hK (by decide +kernel)),
  List.forall_mem_cons.mpr ⟨(show SE G 0 167 (.inl (i_al 0 168)) from s_aload_n (j := 0) (by decide +kernel)),
  List.forall_mem_cons.mpr ⟨(show SE G 0 168 (.inl (i_il 3 169)) from s_iload_n (j := 3) (by decide +kernel)),
  List.forall_mem_cons.mpr ⟨(show SE G 0 169 (.inl (i_c 2 170)) from s_iconst (e := 2) (by decide +kernel) (by decide)),
  List.forall_mem_cons.mpr ⟨(show SE G 0 170 (.inl (i_bin (fun a b => a + b) 171)) from s_iadd (by decide +kernel)),
  List.forall_mem_cons.mpr ⟨(show SE G 0 171 (.inl (i_ld [20, 30] 172)) from s_iald hK (by decide +kernel)),
  fun _ h => absurd h List.not_mem_nil⟩⟩⟩⟩⟩⟩⟩⟩⟩⟩⟩⟩⟩⟩⟩⟩⟩⟩⟩⟩⟩⟩⟩⟩⟩⟩⟩⟩⟩⟩
set_option maxRecDepth 20000 in
theorem ok_l_0_2 (hK : K0 G) : ∀ q ∈ l_0_2, SE G 0 q.1 q.2 :=
  List.forall_mem_cons.mpr ⟨(show SE G 0 172 (.inr (.inl (false, 3, [(1, 3)], 175))) from ⟨c_virt (idx := 18) (n := 2) hK (by decide +kernel) (List.forall_mem_cons.mpr ⟨⟨ko_3, inW 110 (by decide +kernel) (by decide +kernel), inW 111 (by decide +kernel) (by decide +kernel), 0, _, rfl, by decide, rfl, inW 112 (by decide +kernel) (by decide +kernel)⟩, fun _ h => absurd h List.not_mem_nil⟩), (List.forall_mem_cons.mpr ⟨⟨mo_3, by decide⟩, fun _ h => absurd h List.not_mem_nil⟩)⟩),
  List.forall_mem_cons.mpr ⟨(show SE G 0 175 (.inl (i_al 2 176)) from s_aload_n (j := 2) (by decide +kernel)),
  List.forall_mem_cons.mpr ⟨(show SE G 0 176 (.inl (i_al 0 177)) from s_aload_n (j := 0) (by decide +kernel)),
  List.forall_mem_cons.mpr ⟨(show SE G 0 177 (.inl (i_il 3 178)) from s_iload_n (j := 3) (by decide +kernel)),
  List.forall_mem_cons.mpr ⟨(show SE G 0 178 (.inl (i_c 1 179)) from s_iconst (e := 1) (by decide +kernel) (by decide)),
  List.forall_mem_cons.mpr ⟨(show SE G 0 179 (.inl (i_bin (fun a b => a + b) 180)) from s_iadd (by decide +kernel)),
  List.forall_mem_cons.mpr ⟨(show SE G 0 180 (.inl (i_ld [20, 30] 181)) from s_iald hK (by decide +kernel)),
  List.forall_mem_cons.mpr ⟨(show SE G 0 181 (.inl (i_al 0 182)) from s_aload_n (j := 0) (by decide +kernel)),
  List.forall_mem_cons.mpr ⟨(show SE G 0 182 (.inl (i_il 3 183)) from s_iload_n (j := 3) (by decide +kernel)),
  List.forall_mem_cons.mpr ⟨(show SE G 0 183 (.inl (i_c 2 184)) from s_iconst (e := 2) (by decide +kernel) (by decide)),
  List.forall_mem_cons.mpr ⟨(show SE G 0 184 (.inl (i_bin (fun a b => a + b) 185)) from s_iadd (by decide +kernel)),
  List.forall_mem_cons.mpr ⟨(show SE G 0 185 (.inl (i_ld [20, 30] 186)) from s_iald hK (by decide +kernel)),
  List.forall_mem_cons.mpr ⟨(show SE G 0 186 (.inr (.inl (false, 3, [(7, 43)], 189))) from ⟨c_virt (idx := 21) (n := 2) hK (by decide +kernel) (List.forall_mem_cons.mpr ⟨⟨ko_43, inW 487 (by decide +kernel) (by decide +kernel), inW 488 (by decide +kernel) (by decide +kernel), 6, _, rfl, by decide, rfl, inW 489 (by decide +kernel) (by decide +kernel)⟩, fun _ h => absurd h List.not_mem_nil⟩), (List.forall_mem_cons.mpr ⟨⟨mo_43, by decide⟩, fun _ h => absurd h List.not_mem_nil⟩)⟩),
  List.forall_mem_cons.mpr ⟨(show SE G 0 189 (.inl (i_cmp 0 678 192)) from s_icmp_eq (tg := 678) (off := 489) (by decide +kernel) (by decide)),
  List.forall_mem_cons.mpr ⟨(show SE G 0 192 (.inl (i_c 0 193)) from s_iconst (e := 0) (by decide +kernel) (by decide)),
  List.forall_mem_cons.mpr ⟨(show SE G 0 193 (.inr (.inr 1)) from ⟨(by decide +kernel), rfl⟩),
  List.forall_mem_cons.mpr ⟨(show SE G 0 194 (.inl (i_al 1 195)) from s_aload_n (j := 1) (by decide +kernel)),
  List.forall_mem_cons.mpr ⟨(show SE G 0 195 (.inl (i_al 0 196)) from s_aload_n (j := 0) (by decide +kernel)),
  List.forall_mem_cons.mpr ⟨(show SE G 0 196 (.inl (i_il 3 197)) from s_iload_n (j := 3) (by decide +kernel)),
  List.forall_mem_cons.mpr ⟨(show SE G 0 197 (.inl (i_c 1 198)) from s_iconst (e := 1) (by decide +kernel) (by decide)),
  List.forall_mem_cons.mpr ⟨(show SE G 0 198 (.inl (i_bin (fun a b => a + b) 199)) from s_iadd (by decide +kernel)),
  List.forall_mem_cons.mpr ⟨(show SE G 0 199 (.inl (i_ld [20, 30] 200)) from s_iald hK (by decide +kernel)),
  List.forall_mem_cons.mpr ⟨(show SE G 0 200 (.inl (i_al 0 201)) from s_aload_n (j := 0) (by decide +kernel)),
  List.forall_mem_cons.mpr ⟨(show SE G 0 201 (.inl (i_il 3 202)) from s_iload_n (j := 3) (by decide +kernel)),
  List.forall_mem_cons.mpr ⟨(show SE G 0 202 (.inl (i_c 2 203)) from s_iconst (e := 2) (by decide +kernel) (by decide)),
  List.forall_mem_cons.mpr ⟨(show SE G 0 203 (.inl (i_bin (fun a b => a + b) 204)) from s_iadd (by decide +kernel)),
  List.forall_mem_cons.mpr ⟨(show SE G 0 204 (.inl (i_ld [20, 30] 205)) from s_iald hK (by decide +kernel)),
  List.forall_mem_cons.mpr ⟨(show SE G 0 205 (.inr (.inl (false, 3, [(1, 4)], 208))) from ⟨c_virt (idx := 22) (n := 2) hK (by decide +kernel) (List.forall_mem_cons.mpr ⟨⟨ko_4, inW 118 (by decide +kernel) (by decide +kernel), inW 119 (by decide +kernel) (by decide +kernel), 0, _, rfl, by decide, rfl, inW 120 (by decide +kernel) (by decide +kernel)⟩, fun _ h => absurd h List.not_mem_nil⟩), (List.forall_mem_cons.mpr ⟨⟨mo_4, by decide⟩, fun _ h => absurd h List.not_mem_nil⟩)⟩),
  List.forall_mem_cons.mpr ⟨(show SE G 0 208 (.inl (i_al 2 209)) from s_aload_n (j := 2) (by decide +kernel)),
  List.forall_mem_cons.mpr ⟨(show SE G 0 209 (.inl (i_al 0 210)) from s_aload_n (j := 0) (by decide +kernel)),
  fun _ h => absurd h List.not_mem_nil⟩⟩⟩⟩⟩⟩⟩⟩⟩⟩⟩⟩⟩⟩⟩⟩⟩⟩⟩⟩⟩⟩⟩⟩⟩⟩⟩⟩⟩⟩
set_option maxRecDepth 20000 in
theorem ok_l_0_3 (hK : K0 G) : ∀ q ∈ l_0_3, SE G 0 q.1 q.2 :=
  List.forall_mem_cons.mpr ⟨(show SE G 0 210 (.inl (i_il 3 211)) from s_iload_n (j := 3) (by decide +kernel)),
  List.forall_mem_cons.mpr ⟨(show SE G 0 211 (.inl (i_c 1 212)) from s_iconst (e := 1) (by decide +kernel) (by decide)),
  List.forall_mem_cons.mpr ⟨(show SE G 0 212 (.inl (i_bin (fun a b => a + b) 213)) from s_iadd (by decide +kernel)),
  List.forall_mem_cons.mpr ⟨(show SE G 0 213 (.inl (i_ld [20, 30] 214)) from s_iald hK (by decide +kernel)),
  List.forall_mem_cons.mpr ⟨(show SE G 0 214 (.inl (i_al 0 215)) from s_aload_n (j := 0) (by decide +kernel)),
  List.forall_mem_cons.mpr ⟨(show SE G 0 215 (.inl (i_il 3 216)) from s_iload_n (j := 3) (by decide +kernel)),
  List.forall_mem_cons.mpr ⟨(show SE G 0 216 (.inl (i_c 2 217)) from s_iconst (e := 2) (by decide +kernel) (by decide)),
  List.forall_mem_cons.mpr ⟨(show SE G 0 217 (.inl (i_bin (fun a b => a + b) 218)) from s_iadd (by decide +kernel)),
  List.forall_mem_cons.mpr ⟨(show SE G 0 218 (.inl (i_ld [20, 30] 219)) from s_iald hK (by decide +kernel)),
  List.forall_mem_cons.mpr ⟨(show SE G 0 219 (.inr (.inl (false, 3, [(7, 47)], 222))) from ⟨c_virt (idx := 26) (n := 2) hK (by decide +kernel) (List.forall_mem_cons.mpr ⟨⟨ko_47, inW 491 (by decide +kernel) (by decide +kernel), inW 492 (by decide +kernel) (by decide +kernel), 6, _, rfl, by decide, rfl, inW 493 (by decide +kernel) (by decide +kernel)⟩, fun _ h => absurd h List.not_mem_nil⟩), (List.forall_mem_cons.mpr ⟨⟨mo_47, by decide⟩, fun _ h => absurd h List.not_mem_nil⟩)⟩),
  List.forall_mem_cons.mpr ⟨(show SE G 0 222 (.inl (i_cmp 0 678 225)) from s_icmp_eq (tg := 678) (off := 456) (by decide +kernel) (by decide)),
  List.forall_mem_cons.mpr ⟨(show SE G 0 225 (.inl (i_c 0 226)) from s_iconst (e := 0) (by decide +kernel) (by decide)),
  List.forall_mem_cons.mpr ⟨(show SE G 0 226 (.inr (.inr 1)) from ⟨(by decide +kernel), rfl⟩),
  List.forall_mem_cons.mpr ⟨(show SE G 0 227 (.inl (i_al 1 228)) from s_aload_n (j := 1) (by decide +kernel)),
  List.forall_mem_cons.mpr ⟨(show SE G 0 228 (.inl (i_al 0 229)) from s_aload_n (j := 0) (by decide +kernel)),
  List.forall_mem_cons.mpr ⟨(show SE G 0 229 (.inl (i_il 3 230)) from s_iload_n (j := 3) (by decide +kernel)),
  List.forall_mem_cons.mpr ⟨(show SE G 0 230 (.inl (i_c 1 231)) from s_iconst (e := 1) (by decide +kernel) (by decide)),
  List.forall_mem_cons.mpr ⟨(show SE G 0 231 (.inl (i_bin (fun a b => a + b) 232)) from s_iadd (by decide +kernel)),
  List.forall_mem_cons.mpr ⟨(show SE G 0 232 (.inl (i_ld [20, 30] 233)) from s_iald hK (by decide +kernel)),
  List.forall_mem_cons.mpr ⟨(show SE G 0 233 (.inl (i_al 0 234)) from s_aload_n (j := 0) (by decide +kernel)),
  List.forall_mem_cons.mpr ⟨(show SE G 0 234 (.inl (i_il 3 235)) from s_iload_n (j := 3) (by decide +kernel)),
  List.forall_mem_cons.mpr ⟨(show SE G 0 235 (.inl (i_c 2 236)) from s_iconst (e := 2) (by decide +kernel) (by decide)),
  List.forall_mem_cons.mpr ⟨(show SE G 0 236 (.inl (i_bin (fun a b => a + b) 237)) from s_iadd (by decide +kernel)),
  List.forall_mem_cons.mpr ⟨(show SE G 0 237 (.inl (i_ld [20, 30] 238)) from s_iald hK (by decide +kernel)),
  List.forall_mem_cons.mpr ⟨(show SE G 0 238 (.inr (.inl (false, 3, [(1, 5)], 241))) from ⟨c_virt (idx := 27) (n := 2) hK (by decide +kernel) (List.forall_mem_cons.mpr ⟨⟨ko_5, inW 251 (by decide +kernel) (by decide +kernel), inW 252 (by decide +kernel) (by decide +kernel), 0, _, rfl, by decide, rfl, inW 253 (by decide +kernel) (by decide +kernel)⟩, fun _ h => absurd h List.not_mem_nil⟩), (List.forall_mem_cons.mpr ⟨⟨mo_5, by decide⟩, fun _ h => absurd h List.not_mem_nil⟩)⟩),
  List.forall_mem_cons.mpr ⟨(show SE G 0 241 (.inl (i_al 2 242)) from s_aload_n (j := 2) (by decide +kernel)),
  List.forall_mem_cons.mpr ⟨(show SE G 0 242 (.inl (i_al 0 243)) from s_aload_n (j := 0) (by decide +kernel)),
  List.forall_mem_cons.mpr ⟨(show SE G 0 243 (.inl (i_il 3 244)) from s_iload_n (j := 3) (by decide +kernel)),
  List.forall_mem_cons.mpr ⟨(show SE G 0 244 (.inl (i_c 1 245)) from s_iconst (e := 1) (by decide +kernel) (by decide)),
  List.forall_mem_cons.mpr ⟨(show SE G 0 245 (.inl (i_bin (fun a b => a + b) 246)) from s_iadd (by decide +kernel)),
  fun _ h => absurd h List.not_mem_nil⟩⟩⟩⟩⟩⟩⟩⟩⟩⟩⟩⟩⟩⟩⟩⟩⟩⟩⟩⟩⟩⟩⟩⟩⟩⟩⟩⟩⟩⟩
set_option maxRecDepth 20000 in
theorem ok_l_0_4 (hK : K0 G) : ∀ q ∈ l_0_4, SE G 0 q.1 q.2 :=
  List.forall_mem_cons.mpr ⟨(show SE G 0 246 (.inl (i_ld [20, 30] 247)) from s_iald hK (by decide +kernel)),
  List.forall_mem_cons.mpr ⟨(show SE G 0 247 (.inl (i_al 0 248)) from s_aload_n (j := 0) (by decide +kernel)),
  List.forall_mem_cons.mpr ⟨(show SE G 0 248 (.inl (i_il 3 249)) from s_iload_n (j := 3) (by decide +kernel)),
  List.forall_mem_cons.mpr ⟨(show SE G 0 249 (.inl (i_c 2 250)) from s_iconst (e := 2) (by decide +kernel) (by decide)),
  List.forall_mem_cons.mpr ⟨(show SE G 0 250 (.inl (i_bin (fun a b => a + b) 251)) from s_iadd (by decide +kernel)),
  List.forall_mem_cons.mpr ⟨(show SE G 0 251 (.inl (i_ld [20, 30] 252)) from s_iald hK (by decide +kernel)),
  List.forall_mem_cons.mpr ⟨(show SE G 0 252 (.inr (.inl (false, 3, [(7, 48)], 255))) from ⟨c_virt (idx := 30) (n := 2) hK (by decide +kernel) (List.forall_mem_cons.mpr ⟨⟨ko_48, inW 551 (by decide +kernel) (by decide +kernel), inW 552 (by decide +kernel) (by decide +kernel), 6, _, rfl, by decide, rfl, inW 553 (by decide +kernel) (by decide +kernel)⟩, fun _ h => absurd h List.not_mem_nil⟩), (List.forall_mem_cons.mpr ⟨⟨mo_48, by decide⟩, fun _ h => absurd h List.not_mem_nil⟩)⟩),
  List.forall_mem_cons.mpr ⟨(show SE G 0 255 (.inl (i_cmp 0 678 258)) from s_icmp_eq (tg := 678) (off := 423) (by decide +kernel) (by decide)),
  List.forall_mem_cons.mpr ⟨(show SE G 0 258 (.inl (i_c 0 259)) from s_iconst (e := 0) (by decide +kernel) (by decide)),
  List.forall_mem_cons.mpr ⟨(show SE G 0 259 (.inr (.inr 1)) from ⟨(by decide +kernel), rfl⟩),
  List.forall_mem_cons.mpr ⟨(show SE G 0 260 (.inl (i_al 1 261)) from s_aload_n (j := 1) (by decide +kernel)),
  List.forall_mem_cons.mpr ⟨(show SE G 0 261 (.inl (i_al 0 262)) from s_aload_n (j := 0) (by decide +kernel)),
  List.forall_mem_cons.mpr ⟨(show SE G 0 262 (.inl (i_il 3 263)) from s_iload_n (j := 3) (by decide +kernel)),
  List.forall_mem_cons.mpr ⟨(show SE G 0 263 (.inl (i_c 1 264)) from s_iconst (e := 1) (by decide +kernel) (by decide)),
  List.forall_mem_cons.mpr ⟨(show SE G 0 264 (.inl (i_bin (fun a b => a + b) 265)) from s_iadd (by decide +kernel)),
  List.forall_mem_cons.mpr ⟨(show SE G 0 265 (.inl (i_ld [20, 30] 266)) from s_iald hK (by decide +kernel)),
  List.forall_mem_cons.mpr ⟨(show SE G 0 266 (.inr (.inl (false, 2, [(1, 6)], 269))) from ⟨c_virt (idx := 31) (n := 1) hK (by decide +kernel) (List.forall_mem_cons.mpr ⟨⟨ko_6, inW 276 (by decide +kernel) (by decide +kernel), inW 277 (by decide +kernel) (by decide +kernel), 0, _, rfl, by decide, rfl, inW 278 (by decide +kernel) (by decide +kernel)⟩, fun _ h => absurd h List.not_mem_nil⟩), (List.forall_mem_cons.mpr ⟨⟨mo_6, by decide⟩, fun _ h => absurd h List.not_mem_nil⟩)⟩),
  List.forall_mem_cons.mpr ⟨(show SE G 0 269 (.inl (i_al 2 270)) from s_aload_n (j := 2) (by decide +kernel)),
  List.forall_mem_cons.mpr ⟨(show SE G 0 270 (.inl (i_al 0 271)) from s_aload_n (j := 0) (by decide +kernel)),
  List.forall_mem_cons.mpr ⟨(show SE G 0 271 (.inl (i_il 3 272)) from s_iload_n (j := 3) (by decide +kernel)),
  List.forall_mem_cons.mpr ⟨(show SE G 0 272 (.inl (i_c 1 273)) from s_iconst (e := 1) (by decide +kernel) (by decide)),
  List.forall_mem_cons.mpr ⟨(show SE G 0 273 (.inl (i_bin (fun a b => a + b) 274)) from s_iadd (by decide +kernel)),
  List.forall_mem_cons.mpr ⟨(show SE G 0 274 (.inl (i_ld [20, 30] 275)) from s_iald hK (by decide +kernel)),
  List.forall_mem_cons.mpr ⟨(show SE G 0 275 (.inr (.inl (false, 2, [(7, 49)], 278))) from ⟨c_virt (idx := 35) (n := 1) hK (by decide +kernel) (List.forall_mem_cons.mpr ⟨⟨ko_49, inW 559 (by decide +kernel) (by decide +kernel), inW 560 (by decide +kernel) (by decide +kernel), 6, _, rfl, by decide, rfl, inW 561 (by decide +kernel) (by decide +kernel)⟩, fun _ h => absurd h List.not_mem_nil⟩), (List.forall_mem_cons.mpr ⟨⟨mo_49, by decide⟩, fun _ h => absurd h List.not_mem_nil⟩)⟩),
  List.forall_mem_cons.mpr ⟨(show SE G 0 278 (.inl (i_cmp 0 678 281)) from s_icmp_eq (tg := 678) (off := 400) (by decide +kernel) (by decide)),
  List.forall_mem_cons.mpr ⟨(show SE G 0 281 (.inl (i_c 0 282)) from s_iconst (e := 0) (by decide +kernel) (by decide)),
  List.forall_mem_cons.mpr ⟨(show SE G 0 282 (.inr (.inr 1)) from ⟨(by decide +kernel), rfl⟩),
  List.forall_mem_cons.mpr ⟨(show SE G 0 283 (.inl (i_al 1 284)) from s_aload_n (j := 1) (by decide +kernel)),
  List.forall_mem_cons.mpr ⟨(show SE G 0 284 (.inl (i_al 0 285)) from s_aload_n (j := 0) (by decide +kernel)),
  List.forall_mem_cons.mpr ⟨(show SE G 0 285 (.inl (i_il 3 286)) from s_iload_n (j := 3) (by decide +kernel)),
  fun _ h => absurd h List.not_mem_nil⟩⟩⟩⟩⟩⟩⟩⟩⟩⟩⟩⟩⟩⟩⟩⟩⟩⟩⟩⟩⟩⟩⟩⟩⟩⟩⟩⟩⟩⟩
set_option maxRecDepth 20000 in
theorem ok_l_0_5 (hK : K0 G) : ∀ q ∈ l_0_5, SE G 0 q.1 q.2 :=
  List.forall_mem_cons.mpr ⟨(show SE G 0 286 (.inl (i_c 1 287)) from s_iconst (e := 1) (by decide +kernel) (by decide)),
  List.forall_mem_cons.mpr ⟨(show SE G 0 287 (.inl (i_bin (fun a b => a + b) 288)) from s_iadd (by decide +kernel)),
  List.forall_mem_cons.mpr ⟨(show SE G 0 288 (.inl (i_ld [20, 30] 289)) from s_iald hK (by decide +kernel)),
  List.forall_mem_cons.mpr ⟨(show SE G 0 289 (.inl (i_al 0 290)) from s_aload_n (j := 0) (by decide +kernel)),
  List.forall_mem_cons.mpr ⟨(show SE G 0 290 (.inl (i_il 3 291)) from s_iload_n (j := 3) (by decide +kernel)),
  List.forall_mem_cons.mpr ⟨(show SE G 0 291 (.inl (i_c 2 292)) from s_iconst (e := 2) (by decide +kernel) (by decide)),
  List.forall_mem_cons.mpr ⟨(show SE G 0 292 (.inl (i_bin (fun a b => a + b) 293)) from s_iadd (by decide +kernel)),
  List.forall_mem_cons.mpr ⟨(show SE G 0 293 (.inl (i_ld [20, 30] 294)) from s_iald hK (by decide +kernel)),
  List.forall_mem_cons.mpr ⟨(show SE G 0 294 (.inl (i_al 0 295)) from s_aload_n (j := 0) (by decide +kernel)),
  List.forall_mem_cons.mpr ⟨(show SE G 0 295 (.inl (i_il 3 296)) from s_iload_n (j := 3) (by decide +kernel)),
  List.forall_mem_cons.mpr ⟨(show SE G 0 296 (.inl (i_c 3 297)) from s_iconst (e := 3) (by decide +kernel) (by decide)),
  List.forall_mem_cons.mpr ⟨(show SE G 0 297 (.inl (i_bin (fun a b => a + b) 298)) from s_iadd (by decide +kernel)),
  List.forall_mem_cons.mpr ⟨(show SE G 0 298 (.inl (i_ld [20, 30] 299)) from s_iald hK (by decide +kernel)),
  List.forall_mem_cons.mpr ⟨(show SE G 0 299 (.inr (.inl (false, 4, [(1, 7)], 302))) from ⟨c_virt (idx := 36) (n := 3) hK (by decide +kernel) (List.forall_mem_cons.mpr ⟨⟨ko_7, inW 304 (by decide +kernel) (by decide +kernel), inW 305 (by decide +kernel) (by decide +kernel), 0, _, rfl, by decide, rfl, inW 306 (by decide +kernel) (by decide +kernel)⟩, fun _ h => absurd h List.not_mem_nil⟩), (List.forall_mem_cons.mpr ⟨⟨mo_7, by decide⟩, fun _ h => absurd h List.not_mem_nil⟩)⟩),
  List.forall_mem_cons.mpr ⟨(show SE G 0 302 (.inl (i_al 2 303)) from s_aload_n (j := 2) (by decide +kernel)),
  List.forall_mem_cons.mpr ⟨(show SE G 0 303 (.inl (i_al 0 304)) from s_aload_n (j := 0) (by decide +kernel)),
  List.forall_mem_cons.mpr ⟨(show SE G 0 304 (.inl (i_il 3 305)) from s_iload_n (j := 3) (by decide +kernel)),
  List.forall_mem_cons.mpr ⟨(show SE G 0 305 (.inl (i_c 1 306)) from s_iconst (e := 1) (by decide +kernel) (by decide)),
  List.forall_mem_cons.mpr ⟨(show SE G 0 306 (.inl (i_bin (fun a b => a + b) 307)) from s_iadd (by decide +kernel)),
  List.forall_mem_cons.mpr ⟨(show SE G 0 307 (.inl (i_ld [20, 30] 308)) from s_iald hK (by decide +kernel)),
  List.forall_mem_cons.mpr ⟨(show SE G 0 308 (.inl (i_al 0 309)) from s_aload_n (j := 0) (by decide +kernel)),
  List.forall_mem_cons.mpr ⟨(show SE G 0 309 (.inl (i_il 3 310)) from s_iload_n (j := 3) (by decide +kernel)),
  List.forall_mem_cons.mpr ⟨(show SE G 0 310 (.inl (i_c 2 311)) from s_iconst (e := 2) (by decide +kernel) (by decide)),
  List.forall_mem_cons.mpr ⟨(show SE G 0 311 (.inl (i_bin (fun a b => a + b) 312)) from s_iadd (by decide +kernel)),
  List.forall_mem_cons.mpr ⟨(show SE G 0 312 (.inl (i_ld [20, 30] 313)) from s_iald hK (by decide +kernel)),
  List.forall_mem_cons.mpr ⟨(show SE G 0 313 (.inl (i_al 0 314)) from s_aload_n (j := 0) (by decide +kernel)),
  List.forall_mem_cons.mpr ⟨(show SE G 0 314 (.inl (i_il 3 315)) from s_iload_n (j := 3) (by decide +kernel)),
  List.forall_mem_cons.mpr ⟨(show SE G 0 315 (.inl (i_c 3 316)) from s_iconst (e := 3) (by decide +kernel) (by decide)),
  List.forall_mem_cons.mpr ⟨(show SE G 0 316 (.inl (i_bin (fun a b => a + b) 317)) from s_iadd (by decide +kernel)),
  List.forall_mem_cons.mpr ⟨(show SE G 0 317 (.inl (i_ld [20, 30] 318)) from s_iald hK (by decide +kernel)),
  fun _ h => absurd h List.not_mem_nil⟩⟩⟩⟩⟩⟩⟩⟩⟩⟩⟩⟩⟩⟩⟩⟩⟩⟩⟩⟩⟩⟩⟩⟩⟩⟩⟩⟩⟩⟩
set_option maxRecDepth 20000 in
theorem ok_l_0_6 (hK : K0 G) : ∀ q ∈ l_0_6, SE G 0 q.1 q.2 :=
  List.forall_mem_cons.mpr ⟨(show SE G 0 318 (.inr (.inl (false, 4, [(7, 50)], 321))) from ⟨c_virt (idx := 40) (n := 3) hK (by decide +kernel) (List.forall_mem_cons.mpr ⟨⟨ko_50, inW 563 (by decide +kernel) (by decide +kernel), inW 564 (by decide +kernel) (by decide +kernel), 6, _, rfl, by decide, rfl, inW 565 (by decide +kernel) (by decide +kernel)⟩, fun _ h => absurd h List.not_mem_nil⟩), (List.forall_mem_cons.mpr ⟨⟨mo_50, by decide⟩, fun _ h => absurd h List.not_mem_nil⟩)⟩),
  List.forall_mem_cons.mpr ⟨(show SE G 0 321 (.inl (i_cmp 0 678 324)) from s_icmp_eq (tg := 678) (off := 357) (by decide +kernel) (by decide)),
  List.forall_mem_cons.mpr ⟨(show SE G 0 324 (.inl (i_c 0 325)) from s_iconst (e := 0) (by decide +kernel) (by decide)),
  List.forall_mem_cons.mpr ⟨(show SE G 0 325 (.inr (.inr 1)) from ⟨(by decide +kernel), rfl⟩),
  List.forall_mem_cons.mpr ⟨(show SE G 0 326 (.inl (i_al 1 327)) from s_aload_n (j := 1) (by decide +kernel)),
  List.forall_mem_cons.mpr ⟨(show SE G 0 327 (.inl (i_al 0 328)) from s_aload_n (j := 0) (by decide +kernel)),
  List.forall_mem_cons.mpr ⟨(show SE G 0 328 (.inl (i_il 3 329)) from s_iload_n (j := 3) (by decide +kernel)),
  List.forall_mem_cons.mpr ⟨(show SE G 0 329 (.inl (i_c 1 330)) from s_iconst (e := 1) (by decide +kernel) (by decide)),
  List.forall_mem_cons.mpr ⟨(show SE G 0 330 (.inl (i_bin (fun a b => a + b) 331)) from s_iadd (by decide +kernel)),
  List.forall_mem_cons.mpr ⟨(show SE G 0 331 (.inl (i_ld [20, 30] 332)) from s_iald hK (by decide +kernel)),
  List.forall_mem_cons.mpr ⟨(show SE G 0 332 (.inl (i_al 0 333)) from s_aload_n (j := 0) (by decide +kernel)),
  List.forall_mem_cons.mpr ⟨(show SE G 0 333 (.inl (i_il 3 334)) from s_iload_n (j := 3) (by decide +kernel)),
  List.forall_mem_cons.mpr ⟨(show SE G 0 334 (.inl (i_c 2 335)) from s_iconst (e := 2) (by decide +kernel) (by decide)),
  List.forall_mem_cons.mpr ⟨(show SE G 0 335 (.inl (i_bin (fun a b => a + b) 336)) from s_iadd (by decide +kernel)),
  List.forall_mem_cons.mpr ⟨(show SE G 0 336 (.inl (i_ld [20, 30] 337)) from s_iald hK (by decide +kernel)),
  List.forall_mem_cons.mpr ⟨(show SE G 0 337 (.inl (i_al 0 338)) from s_aload_n (j := 0) (by decide +kernel)),
  List.forall_mem_cons.mpr ⟨(show SE G 0 338 (.inl (i_il 3 339)) from s_iload_n (j := 3) (by decide +kernel)),
  List.forall_mem_cons.mpr ⟨(show SE G 0 339 (.inl (i_c 3 340)) from s_iconst (e := 3) (by decide +kernel) (by decide)),
  List.forall_mem_cons.mpr ⟨(show SE G 0 340 (.inl (i_bin (fun a b => a + b) 341)) from s_iadd (by decide +kernel)),
  List.forall_mem_cons.mpr ⟨(show SE G 0 341 (.inl (i_ld [20, 30] 342)) from s_iald hK (by decide +kernel)),
  List.forall_mem_cons.mpr ⟨(show SE G 0 342 (.inr (.inl (false, 4, [(1, 8)], 345))) from ⟨c_virt (idx := 41) (n := 3) hK (by decide +kernel) (List.forall_mem_cons.mpr ⟨⟨ko_8, inW 312 (by decide +kernel) (by decide +kernel), inW 313 (by decide +kernel) (by decide +kernel), 0, _, rfl, by decide, rfl, inW 314 (by decide +kernel) (by decide +kernel)⟩, fun _ h => absurd h List.not_mem_nil⟩), (List.forall_mem_cons.mpr ⟨⟨mo_8, by decide⟩, fun _ h => absurd h List.not_mem_nil⟩)⟩),
  List.forall_mem_cons.mpr ⟨(show SE G 0 345 (.inl (i_al 2 346)) from s_aload_n (j := 2) (by decide +kernel)),
  List.forall_mem_cons.mpr ⟨(show SE G 0 346 (.inl (i_al 0 347)) from s_aload_n (j := 0) (by decide +kernel)),
  List.forall_mem_cons.mpr ⟨(show SE G 0 347 (.inl (i_il 3 348)) from s_iload_n (j := 3) (by decide +kernel)),
  List.forall_mem_cons.mpr ⟨(show SE G 0 348 (.inl (i_c 1 349)) from s_iconst (e := 1) (by decide +kernel) (by decide)),
  List.forall_mem_cons.mpr ⟨(show SE G 0 349 (.inl (i_bin (fun a b => a + b) 350)) from s_iadd (by decide +kernel)),
  List.forall_mem_cons.mpr ⟨(show SE G 0 350 (.inl (i_ld [20, 30] 351)) from s_iald hK (by decide +kernel)),
  List.forall_mem_cons.mpr ⟨(show SE G 0 351 (.inl (i_al 0 352)) from s_aload_n (j := 0) (by decide +kernel)),
  List.forall_mem_cons.mpr ⟨(show SE G 0 352 (.inl (i_il 3 353)) from s_iload_n (j := 3) (by decide +kernel)),
  List.forall_mem_cons.mpr ⟨(show SE G 0 353 (.inl (i_c 2 354)) from s_iconst (e := 2) (by decide +kernel) (by decide)),
  fun _ h => absurd h List.not_mem_nil⟩⟩⟩⟩⟩⟩⟩⟩⟩⟩⟩⟩⟩⟩⟩⟩⟩⟩⟩⟩⟩⟩⟩⟩⟩⟩⟩⟩⟩⟩
set_option maxRecDepth 20000 in
theorem ok_l_0_7 (hK : K0 G) : ∀ q ∈ l_0_7, SE G 0 q.1 q.2 :=
  List.forall_mem_cons.mpr ⟨(show SE G 0 354 (.inl (i_bin (fun a b => a + b) 355)) from s_iadd (by decide +kernel)),
  List.forall_mem_cons.mpr ⟨(show SE G 0 355 (.inl (i_ld [20, 30] 356)) from s_iald hK (by decide +kernel)),
  List.forall_mem_cons.mpr ⟨(show SE G 0 356 (.inl (i_al 0 357)) from s_aload_n (j := 0) (by decide +kernel)),
  List.forall_mem_cons.mpr ⟨(show SE G 0 357 (.inl (i_il 3 358)) from s_iload_n (j := 3) (by decide +kernel)),
  List.forall_mem_cons.mpr ⟨(show SE G 0 358 (.inl (i_c 3 359)) from s_iconst (e := 3) (by decide +kernel) (by decide)),
  List.forall_mem_cons.mpr ⟨(show SE G 0 359 (.inl (i_bin (fun a b => a + b) 360)) from s_iadd (by decide +kernel)),
  List.forall_mem_cons.mpr ⟨(show SE G 0 360 (.inl (i_ld [20, 30] 361)) from s_iald hK (by decide +kernel)),
  List.forall_mem_cons.mpr ⟨(show SE G 0 361 (.inr (.inl (false, 4, [(7, 51)], 364))) from ⟨c_virt (idx := 44) (n := 3) hK (by decide +kernel) (List.forall_mem_cons.mpr ⟨⟨ko_51, inW 571 (by decide +kernel) (by decide +kernel), inW 572 (by decide +kernel) (by decide +kernel), 6, _, rfl, by decide, rfl, inW 573 (by decide +kernel) (by decide +kernel)⟩, fun _ h => absurd h List.not_mem_nil⟩), (List.forall_mem_cons.mpr ⟨⟨mo_51, by decide⟩, fun _ h => absurd h List.not_mem_nil⟩)⟩),
  List.forall_mem_cons.mpr ⟨(show SE G 0 364 (.inl (i_cmp 0 678 367)) from s_icmp_eq (tg := 678) (off := 314) (by decide +kernel) (by decide)),
  List.forall_mem_cons.mpr ⟨(show SE G 0 367 (.inl (i_c 0 368)) from s_iconst (e := 0) (by decide +kernel) (by decide)),
  List.forall_mem_cons.mpr ⟨(show SE G 0 368 (.inr (.inr 1)) from ⟨(by decide +kernel), rfl⟩),
  List.forall_mem_cons.mpr ⟨(show SE G 0 369 (.inl (i_al 1 370)) from s_aload_n (j := 1) (by decide +kernel)),
  List.forall_mem_cons.mpr ⟨(show SE G 0 370 (.inl (i_al 0 371)) from s_aload_n (j := 0) (by decide +kernel)),
  List.forall_mem_cons.mpr ⟨(show SE G 0 371 (.inl (i_il 3 372)) from s_iload_n (j := 3) (by decide +kernel)),
  List.forall_mem_cons.mpr ⟨(show SE G 0 372 (.inl (i_c 1 373)) from s_iconst (e := 1) (by decide +kernel) (by decide)),
  List.forall_mem_cons.mpr ⟨(show SE G 0 373 (.inl (i_bin (fun a b => a + b) 374)) from s_iadd (by decide +kernel)),
  List.forall_mem_cons.mpr ⟨(show SE G 0 374 (.inl (i_ld [20, 30] 375)) from s_iald hK (by decide +kernel)),
  List.forall_mem_cons.mpr ⟨(show SE G 0 375 (.inl (i_al 0 376)) from s_aload_n (j := 0) (by decide +kernel)),
  List.forall_mem_cons.mpr ⟨(show SE G 0 376 (.inl (i_il 3 377)) from s_iload_n (j := 3) (by decide +kernel)),
  List.forall_mem_cons.mpr ⟨(show SE G 0 377 (.inl (i_c 2 378)) from s_iconst (e := 2) (by decide +kernel) (by decide)),
  List.forall_mem_cons.mpr ⟨(show SE G 0 378 (.inl (i_bin (fun a b => a + b) 379)) from s_iadd (by decide +kernel)),
  List.forall_mem_cons.mpr ⟨(show SE G 0 379 (.inl (i_ld [20, 30] 380)) from s_iald hK (by decide +kernel)),
  List.forall_mem_cons.mpr ⟨(show SE G 0 380 (.inl (i_al 0 381)) from s_aload_n (j := 0) (by decide +kernel)),
  List.forall_mem_cons.mpr ⟨(show SE G 0 381 (.inl (i_il 3 382)) from s_iload_n (j := 3) (by decide +kernel)),
  List.forall_mem_cons.mpr ⟨(show SE G 0 382 (.inl (i_c 3 383)) from s_iconst (e := 3) (by decide +kernel) (by decide)),
  List.forall_mem_cons.mpr ⟨(show SE G 0 383 (.inl (i_bin (fun a b => a + b) 384)) from s_iadd (by decide +kernel)),
  List.forall_mem_cons.mpr ⟨(show SE G 0 384 (.inl (i_ld [20, 30] 385)) from s_iald hK (by decide +kernel)),
  List.forall_mem_cons.mpr ⟨(show SE G 0 385 (.inr (.inl (false, 4, [(1, 9)], 388))) from ⟨c_virt (idx := 45) (n := 3) hK (by decide +kernel) (List.forall_mem_cons.mpr ⟨⟨ko_9, inW 316 (by decide +kernel) (by decide +kernel), inW 317 (by decide +kernel) (by decide +kernel), 0, _, rfl, by decide, rfl, inW 318 (by decide +kernel) (by decide +kernel)⟩, fun _ h => absurd h List.not_mem_nil⟩), (List.forall_mem_cons.mpr ⟨⟨mo_9, by decide⟩, fun _ h => absurd h List.not_mem_nil⟩)⟩),
  List.forall_mem_cons.mpr ⟨(show SE G 0 388 (.inl (i_al 2 389)) from s_aload_n (j := 2) (by decide +kernel)),
  List.forall_mem_cons.mpr ⟨(show SE G 0 389 (.inl (i_al 0 390)) from s_aload_n (j := 0) (by decide +kernel)),
  fun _ h => absurd h List.not_mem_nil⟩⟩⟩⟩⟩⟩⟩⟩⟩⟩⟩⟩⟩⟩⟩⟩⟩⟩⟩⟩⟩⟩⟩⟩⟩⟩⟩⟩⟩⟩
set_option maxRecDepth 20000 in
theorem ok_l_0_8 (hK : K0 G) : ∀ q ∈ l_0_8, SE G 0 q.1 q.2 :=
  List.forall_mem_cons.mpr ⟨(show SE G 0 390 (.inl (i_il 3 391)) from s_iload_n (j := 3) (by decide +kernel)),
  List.forall_mem_cons.mpr ⟨(show SE G 0 391 (.inl (i_c 1 392)) from s_iconst (e := 1) (by decide +kernel) (by decide)),
  List.forall_mem_cons.mpr ⟨(show SE G 0 392 (.inl (i_bin (fun a b => a + b) 393)) from s_iadd (by decide +kernel)),
  List.forall_mem_cons.mpr ⟨(show SE G 0 393 (.inl (i_ld [20, 30] 394)) from s_iald hK (by decide +kernel)),
  List.forall_mem_cons.mpr ⟨(show SE G 0 394 (.inl (i_al 0 395)) from s_aload_n (j := 0) (by decide +kernel)),
  List.forall_mem_cons.mpr ⟨(show SE G 0 395 (.inl (i_il 3 396)) from s_iload_n (j := 3) (by decide +kernel)),
  List.forall_mem_cons.mpr ⟨(show SE G 0 396 (.inl (i_c 2 397)) from s_iconst (e := 2) (by decide +kernel) (by decide)),
  List.forall_mem_cons.mpr ⟨(show SE G 0 397 (.inl (i_bin (fun a b => a + b) 398)) from s_iadd (by decide +kernel)),
  List.forall_mem_cons.mpr ⟨(show SE G 0 398 (.inl (i_ld [20, 30] 399)) from s_iald hK (by decide +kernel)),
  List.forall_mem_cons.mpr ⟨(show SE G 0 399 (.inl (i_al 0 400)) from s_aload_n (j := 0) (by decide +kernel)),
  List.forall_mem_cons.mpr ⟨(show SE G 0 400 (.inl (i_il 3 401)) from s_iload_n (j := 3) (by decide +kernel)),
  List.forall_mem_cons.mpr ⟨(show SE G 0 401 (.inl (i_c 3 402)) from s_iconst (e := 3) (by decide +kernel) (by decide)),
  List.forall_mem_cons.mpr ⟨(show SE G 0 402 (.inl (i_bin (fun a b => a + b) 403)) from s_iadd (by decide +kernel)),
  List.forall_mem_cons.mpr ⟨(show SE G 0 403 (.inl (i_ld [20, 30] 404)) from s_iald hK (by decide +kernel)),
  List.forall_mem_cons.mpr ⟨(show SE G 0 404 (.inr (.inl (false, 4, [(7, 53)], 407))) from ⟨c_virt (idx := 48) (n := 3) hK (by decide +kernel) (List.forall_mem_cons.mpr ⟨⟨ko_53, inW 575 (by decide +kernel) (by decide +kernel), inW 576 (by decide +kernel) (by decide +kernel), 6, _, rfl, by decide, rfl, inW 577 (by decide +kernel) (by decide +kernel)⟩, fun _ h => absurd h List.not_mem_nil⟩), (List.forall_mem_cons.mpr ⟨⟨mo_53, by decide⟩, fun _ h => absurd h List.not_mem_nil⟩)⟩),
  List.forall_mem_cons.mpr ⟨(show SE G 0 407 (.inl (i_cmp 0 678 410)) from s_icmp_eq (tg := 678) (off := 271) (by decide +kernel) (by decide)),
  List.forall_mem_cons.mpr ⟨(show SE G 0 410 (.inl (i_c 0 411)) from s_iconst (e := 0) (by decide +kernel) (by decide)),
  List.forall_mem_cons.mpr ⟨(show SE G 0 411 (.inr (.inr 1)) from ⟨(by decide +kernel), rfl⟩),
  List.forall_mem_cons.mpr ⟨(show SE G 0 412 (.inl (i_al 1 413)) from s_aload_n (j := 1) (by decide +kernel)),
  List.forall_mem_cons.mpr ⟨(show SE G 0 413 (.inl (i_al 0 414)) from s_aload_n (j := 0) (by decide +kernel)),
  List.forall_mem_cons.mpr ⟨(show SE G 0 414 (.inl (i_il 3 415)) from s_iload_n (j := 3) (by decide +kernel)),
  List.forall_mem_cons.mpr ⟨(show SE G 0 415 (.inl (i_c 1 416)) from s_iconst (e := 1) (by decide +kernel) (by decide)),
  List.forall_mem_cons.mpr ⟨(show SE G 0 416 (.inl (i_bin (fun a b => a + b) 417)) from s_iadd (by decide +kernel)),
  List.forall_mem_cons.mpr ⟨(show SE G 0 417 (.inl (i_ld [20, 30] 418)) from s_iald hK (by decide +kernel)),
  List.forall_mem_cons.mpr ⟨(show SE G 0 418 (.inl (i_al 0 419)) from s_aload_n (j := 0) (by decide +kernel)),
  List.forall_mem_cons.mpr ⟨(show SE G 0 419 (.inl (i_il 3 420)) from s_iload_n (j := 3) (by decide +kernel)),
  List.forall_mem_cons.mpr ⟨(show SE G 0 420 (.inl (i_c 2 421)) from s_iconst (e := 2) (by decide +kernel) (by decide)),
  List.forall_mem_cons.mpr ⟨(show SE G 0 421 (.inl (i_bin (fun a b => a + b) 422)) from s_iadd (by decide +kernel)),
  List.forall_mem_cons.mpr ⟨(show SE G 0 422 (.inl (i_ld [20, 30] 423)) from s_iald hK (by decide +kernel)),
  List.forall_mem_cons.mpr ⟨(show SE G 0 423 (.inl (i_al 0 424)) from s_aload_n (j := 0) (by decide +kernel)),
  fun _ h => absurd h List.not_mem_nil⟩⟩⟩⟩⟩⟩⟩⟩⟩⟩⟩⟩⟩⟩⟩⟩⟩⟩⟩⟩⟩⟩⟩⟩⟩⟩⟩⟩⟩⟩
set_option maxRecDepth 20000 in
theorem ok_l_0_9 (hK : K0 G) : ∀ q ∈ l_0_9, SE G 0 q.1 q.2 :=
  List.forall_mem_cons.mpr ⟨(show SE G 0 424 (.inl (i_il 3 425)) from s_iload_n (j := 3) (by decide +kernel)),
  List.forall_mem_cons.mpr ⟨(show SE G 0 425 (.inl (i_c 3 426)) from s_iconst (e := 3) (by decide +kernel) (by decide)),
  List.forall_mem_cons.mpr ⟨(show SE G 0 426 (.inl (i_bin (fun a b => a + b) 427)) from s_iadd (by decide +kernel)),
  List.forall_mem_cons.mpr ⟨(show SE G 0 427 (.inl (i_ld [20, 30] 428)) from s_iald hK (by decide +kernel)),
  List.forall_mem_cons.mpr ⟨(show SE G 0 428 (.inr (.inl (false, 4, [(1, 10)], 431))) from ⟨c_virt (idx := 49) (n := 3) hK (by decide +kernel) (List.forall_mem_cons.mpr ⟨⟨ko_10, inW 328 (by decide +kernel) (by decide +kernel), inW 329 (by decide +kernel) (by decide +kernel), 0, _, rfl, by decide, rfl, inW 330 (by decide +kernel) (by decide +kernel)⟩, fun _ h => absurd h List.not_mem_nil⟩), (List.forall_mem_cons.mpr ⟨⟨mo_10, by decide⟩, fun _ h => absurd h List.not_mem_nil⟩)⟩),
  List.forall_mem_cons.mpr ⟨(show SE G 0 431 (.inl (i_al 2 432)) from s_aload_n (j := 2) (by decide +kernel)),
  List.forall_mem_cons.mpr ⟨(show SE G 0 432 (.inl (i_al 0 433)) from s_aload_n (j := 0) (by decide +kernel)),
  List.forall_mem_cons.mpr ⟨(show SE G 0 433 (.inl (i_il 3 434)) from s_iload_n (j := 3) (by decide +kernel)),
  List.forall_mem_cons.mpr ⟨(show SE G 0 434 (.inl (i_c 1 435)) from s_iconst (e := 1) (by decide +kernel) (by decide)),
  List.forall_mem_cons.mpr ⟨(show SE G 0 435 (.inl (i_bin (fun a b => a + b) 436)) from s_iadd (by decide +kernel)),
  List.forall_mem_cons.mpr ⟨(show SE G 0 436 (.inl (i_ld [20, 30] 437)) from s_iald hK (by decide +kernel)),
  List.forall_mem_cons.mpr ⟨(show SE G 0 437 (.inl (i_al 0 438)) from s_aload_n (j := 0) (by decide +kernel)),
  List.forall_mem_cons.mpr ⟨(show SE G 0 438 (.inl (i_il 3 439)) from s_iload_n (j := 3) (by decide +kernel)),
  List.forall_mem_cons.mpr ⟨(show SE G 0 439 (.inl (i_c 2 440)) from s_iconst (e := 2) (by decide +kernel) (by decide)),
  List.forall_mem_cons.mpr ⟨(show SE G 0 440 (.inl (i_bin (fun a b => a + b) 441)) from s_iadd (by decide +kernel)),
  List.forall_mem_cons.mpr ⟨(show SE G 0 441 (.inl (i_ld [20, 30] 442)) from s_iald hK (by decide +kernel)),
  List.forall_mem_cons.mpr ⟨(show SE G 0 442 (.inl (i_al 0 443)) from s_aload_n (j := 0) (by decide +kernel)),
  List.forall_mem_cons.mpr ⟨(show SE G 0 443 (.inl (i_il 3 444)) from s_iload_n (j := 3) (by decide +kernel)),
  List.forall_mem_cons.mpr ⟨(show SE G 0 444 (.inl (i_c 3 445)) from s_iconst (e := 3) (by decide +kernel) (by decide)),
  List.forall_mem_cons.mpr ⟨(show SE G 0 445 (.inl (i_bin (fun a b => a + b) 446)) from s_iadd (by decide +kernel)),
  List.forall_mem_cons.mpr ⟨(show SE G 0 446 (.inl (i_ld [20, 30] 447)) from s_iald hK (by decide +kernel)),
  List.forall_mem_cons.mpr ⟨(show SE G 0 447 (.inr (.inl (false, 4, [(7, 54)], 450))) from ⟨c_virt (idx := 52) (n := 3) hK (by decide +kernel) (List.forall_mem_cons.mpr ⟨⟨ko_54, inW 583 (by decide +kernel) (by decide +kernel), inW 584 (by decide +kernel) (by decide +kernel), 6, _, rfl, by decide, rfl, inW 585 (by decide +kernel) (by decide +kernel)⟩, fun _ h => absurd h List.not_mem_nil⟩), (List.forall_mem_cons.mpr ⟨⟨mo_54, by decide⟩, fun _ h => absurd h List.not_mem_nil⟩)⟩),
  List.forall_mem_cons.mpr ⟨(show SE G 0 450 (.inl (i_cmp 0 678 453)) from s_icmp_eq (tg := 678) (off := 228) (by decide +kernel) (by decide)),
  List.forall_mem_cons.mpr ⟨(show SE G 0 453 (.inl (i_c 0 454)) from s_iconst (e := 0) (by decide +kernel) (by decide)),
  List.forall_mem_cons.mpr ⟨(show SE G 0 454 (.inr (.inr 1)) from ⟨(by decide +kernel), rfl⟩),
  List.forall_mem_cons.mpr ⟨(show SE G 0 455 (.inl (i_al 1 456)) from s_aload_n (j := 1) (by decide +kernel)),
  List.forall_mem_cons.mpr ⟨(show SE G 0 456 (.inl (i_al 0 457)) from s_aload_n (j := 0) (by decide +kernel)),
  List.forall_mem_cons.mpr ⟨(show SE G 0 457 (.inl (i_il 3 458)) from s_iload_n (j := 3) (by decide +kernel)),
  List.forall_mem_cons.mpr ⟨(show SE G 0 458 (.inl (i_c 1 459)) from s_iconst (e := 1) (by decide +kernel) (by decide)),
  List.forall_mem_cons.mpr ⟨(show SE G 0 459 (.inl (i_bin (fun a b => a + b) 460)) from s_iadd (by decide +kernel)),
  fun _ h => absurd h List.not_mem_nil⟩⟩⟩⟩⟩⟩⟩⟩⟩⟩⟩⟩⟩⟩⟩⟩⟩⟩⟩⟩⟩⟩⟩⟩⟩⟩⟩⟩⟩⟩
set_option maxRecDepth 20000 in
theorem ok_l_0_10 (hK : K0 G) : ∀ q ∈ l_0_10, SE G 0 q.1 q.2 :=
  List.forall_mem_cons.mpr ⟨(show SE G 0 460 (.inl (i_ld [20, 30] 461)) from s_iald hK (by decide +kernel)),
  List.forall_mem_cons.mpr ⟨(show SE G 0 461 (.inl (i_al 0 462)) from s_aload_n (j := 0) (by decide +kernel)),
  List.forall_mem_cons.mpr ⟨(show SE G 0 462 (.inl (i_il 3 463)) from s_iload_n (j := 3) (by decide +kernel)),
  List.forall_mem_cons.mpr ⟨(show SE G 0 463 (.inl (i_c 2 464)) from s_iconst (e := 2) (by decide +kernel) (by decide)),
  List.forall_mem_cons.mpr ⟨(show SE G 0 464 (.inl (i_bin (fun a b => a + b) 465)) from s_iadd (by decide +kernel)),
  List.forall_mem_cons.mpr ⟨(show SE G 0 465 (.inl (i_ld [20, 30] 466)) from s_iald hK (by decide +kernel)),
  List.forall_mem_cons.mpr ⟨(show SE G 0 466 (.inr (.inl (false, 3, [(1, 11)], 469))) from ⟨c_virt (idx := 53) (n := 2) hK (by decide +kernel) (List.forall_mem_cons.mpr ⟨⟨ko_11, inW 336 (by decide +kernel) (by decide +kernel), inW 337 (by decide +kernel) (by decide +kernel), 0, _, rfl, by decide, rfl, inW 338 (by decide +kernel) (by decide +kernel)⟩, fun _ h => absurd h List.not_mem_nil⟩), (List.forall_mem_cons.mpr ⟨⟨mo_11, by decide⟩, fun _ h => absurd h List.not_mem_nil⟩)⟩),
  List.forall_mem_cons.mpr ⟨(show SE G 0 469 (.inl (i_al 2 470)) from s_aload_n (j := 2) (by decide +kernel)),
  List.forall_mem_cons.mpr ⟨(show SE G 0 470 (.inl (i_al 0 471)) from s_aload_n (j := 0) (by decide +kernel)),
  List.forall_mem_cons.mpr ⟨(show SE G 0 471 (.inl (i_il 3 472)) from s_iload_n (j := 3) (by decide +kernel)),
  List.forall_mem_cons.mpr ⟨(show SE G 0 472 (.inl (i_c 1 473)) from s_iconst (e := 1) (by decide +kernel) (by decide)),
  List.forall_mem_cons.mpr ⟨(show SE G 0 473 (.inl (i_bin (fun a b => a + b) 474)) from s_iadd (by decide +kernel)),
  List.forall_mem_cons.mpr ⟨(show SE G 0 474 (.inl (i_ld [20, 30] 475)) from s_iald hK (by decide +kernel)),
  List.forall_mem_cons.mpr ⟨(show SE G 0 475 (.inl (i_al 0 476)) from s_aload_n (j := 0) (by decide +kernel)),
  List.forall_mem_cons.mpr ⟨(show SE G 0 476 (.inl (i_il 3 477)) from s_iload_n (j := 3) (by decide +kernel)),
  List.forall_mem_cons.mpr ⟨(show SE G 0 477 (.inl (i_c 2 478)) from s_iconst (e := 2) (by decide +kernel) (by decide)),
  List.forall_mem_cons.mpr ⟨(show SE G 0 478 (.inl (i_bin (fun a b => a + b) 479)) from s_iadd (by decide +kernel)),
  List.forall_mem_cons.mpr ⟨(show SE G 0 479 (.inl (i_ld [20, 30] 480)) from s_iald hK (by decide +kernel)),
  List.forall_mem_cons.mpr ⟨(show SE G 0 480 (.inr (.inl (false, 3, [(7, 55)], 483))) from ⟨c_virt (idx := 56) (n := 2) hK (by decide +kernel) (List.forall_mem_cons.mpr ⟨⟨ko_55, inW 587 (by decide +kernel) (by decide +kernel), inW 588 (by decide +kernel) (by decide +kernel), 6, _, rfl, by decide, rfl, inW 589 (by decide +kernel) (by decide +kernel)⟩, fun _ h => absurd h List.not_mem_nil⟩), (List.forall_mem_cons.mpr ⟨⟨mo_55, by decide⟩, fun _ h => absurd h List.not_mem_nil⟩)⟩),
  List.forall_mem_cons.mpr ⟨(show SE G 0 483 (.inl (i_cmp 0 678 486)) from s_icmp_eq (tg := 678) (off := 195) (by decide +kernel) (by decide)),
  List.forall_mem_cons.mpr ⟨(show SE G 0 486 (.inl (i_c 0 487)) from s_iconst (e := 0) (by decide +kernel) (by decide)),
  List.forall_mem_cons.mpr ⟨(show SE G 0 487 (.inr (.inr 1)) from ⟨(by decide +kernel), rfl⟩),
  List.forall_mem_cons.mpr ⟨(show SE G 0 488 (.inl (i_al 1 489)) from s_aload_n (j := 1) (by decide +kernel)),
  List.forall_mem_cons.mpr ⟨(show SE G 0 489 (.inl (i_al 0 490)) from s_aload_n (j := 0) (by decide +kernel)),
  List.forall_mem_cons.mpr ⟨(show SE G 0 490 (.inl (i_il 3 491)) from s_iload_n (j := 3) (by decide +kernel)),
  List.forall_mem_cons.mpr ⟨(show SE G 0 491 (.inl (i_c 1 492)) from s_iconst (e := 1) (by decide +kernel) (by decide)),
  List.forall_mem_cons.mpr ⟨(show SE G 0 492 (.inl (i_bin (fun a b => a + b) 493)) from s_iadd (by decide +kernel)),
  List.forall_mem_cons.mpr ⟨(show SE G 0 493 (.inl (i_ld [20, 30] 494)) from s_iald hK (by decide +kernel)),
  List.forall_mem_cons.mpr ⟨(show SE G 0 494 (.inr (.inl (false, 2, [(1, 12)], 497))) from ⟨c_virt (idx := 57) (n := 1) hK (by decide +kernel) (List.forall_mem_cons.mpr ⟨⟨ko_12, inW 340 (by decide +kernel) (by decide +kernel), inW 341 (by decide +kernel) (by decide +kernel), 0, _, rfl, by decide, rfl, inW 342 (by decide +kernel) (by decide +kernel)⟩, fun _ h => absurd h List.not_mem_nil⟩), (List.forall_mem_cons.mpr ⟨⟨mo_12, by decide⟩, fun _ h => absurd h List.not_mem_nil⟩)⟩),
  List.forall_mem_cons.mpr ⟨(show SE G 0 497 (.inl (i_al 2 498)) from s_aload_n (j := 2) (by decide +kernel)),
  fun _ h => absurd h List.not_mem_nil⟩⟩⟩⟩⟩⟩⟩⟩⟩⟩⟩⟩⟩⟩⟩⟩⟩⟩⟩⟩⟩⟩⟩⟩⟩⟩⟩⟩⟩⟩
set_option maxRecDepth 20000 in
theorem ok_l_0_11 (hK : K0 G) : ∀ q ∈ l_0_11, SE G 0 q.1 q.2 :=
  List.forall_mem_cons.mpr ⟨(show SE G 0 498 (.inl (i_al 0 499)) from s_aload_n (j := 0) (by decide +kernel)),
  List.forall_mem_cons.mpr ⟨(show SE G 0 499 (.inl (i_il 3 500)) from s_iload_n (j := 3) (by decide +kernel)),
  List.forall_mem_cons.mpr ⟨(show SE G 0 500 (.inl (i_c 1 501)) from s_iconst (e := 1) (by decide +kernel) (by decide)),
  List.forall_mem_cons.mpr ⟨(show SE G 0 501 (.inl (i_bin (fun a b => a + b) 502)) from s_iadd (by decide +kernel)),
  List.forall_mem_cons.mpr ⟨(show SE G 0 502 (.inl (i_ld [20, 30] 503)) from s_iald hK (by decide +kernel)),
  List.forall_mem_cons.mpr ⟨(show SE G 0 503 (.inr (.inl (false, 2, [(7, 56)], 506))) from ⟨c_virt (idx := 60) (n := 1) hK (by decide +kernel) (List.forall_mem_cons.mpr ⟨⟨ko_56, inW 591 (by decide +kernel) (by decide +kernel), inW 592 (by decide +kernel) (by decide +kernel), 6, _, rfl, by decide, rfl, inW 593 (by decide +kernel) (by decide +kernel)⟩, fun _ h => absurd h List.not_mem_nil⟩), (List.forall_mem_cons.mpr ⟨⟨mo_56, by decide⟩, fun _ h => absurd h List.not_mem_nil⟩)⟩),
  List.forall_mem_cons.mpr ⟨(show SE G 0 506 (.inl (i_cmp 0 678 509)) from s_icmp_eq (tg := 678) (off := 172) (by decide +kernel) (by decide)),
  List.forall_mem_cons.mpr ⟨(show SE G 0 509 (.inl (i_c 0 510)) from s_iconst (e := 0) (by decide +kernel) (by decide)),
  List.forall_mem_cons.mpr ⟨(show SE G 0 510 (.inr (.inr 1)) from ⟨(by decide +kernel), rfl⟩),
  List.forall_mem_cons.mpr ⟨(show SE G 0 511 (.inl (i_al 1 512)) from s_aload_n (j := 1) (by decide +kernel)),
  List.forall_mem_cons.mpr ⟨(show SE G 0 512 (.inr (.inl (false, 1, [(1, 13)], 515))) from ⟨c_virt (idx := 61) (n := 0) hK (by decide +kernel) (List.forall_mem_cons.mpr ⟨⟨ko_13, inW 348 (by decide +kernel) (by decide +kernel), inW 349 (by decide +kernel) (by decide +kernel), 0, _, rfl, by decide, rfl, inW 350 (by decide +kernel) (by decide +kernel)⟩, fun _ h => absurd h List.not_mem_nil⟩), (List.forall_mem_cons.mpr ⟨⟨mo_13, by decide⟩, fun _ h => absurd h List.not_mem_nil⟩)⟩),
  List.forall_mem_cons.mpr ⟨(show SE G 0 515 (.inl (i_al 2 516)) from s_aload_n (j := 2) (by decide +kernel)),
  List.forall_mem_cons.mpr ⟨(show SE G 0 516 (.inr (.inl (false, 1, [(7, 66)], 519))) from ⟨c_virt (idx := 65) (n := 0) hK (by decide +kernel) (List.forall_mem_cons.mpr ⟨⟨ko_66, inW 595 (by decide +kernel) (by decide +kernel), inW 508 (by decide +kernel) (by decide +kernel), 6, _, rfl, by decide, rfl, inW 509 (by decide +kernel) (by decide +kernel)⟩, fun _ h => absurd h List.not_mem_nil⟩), (List.forall_mem_cons.mpr ⟨⟨mo_66, by decide⟩, fun _ h => absurd h List.not_mem_nil⟩)⟩),
  List.forall_mem_cons.mpr ⟨(show SE G 0 519 (.inl (i_cmp 0 678 522)) from s_icmp_eq (tg := 678) (off := 159) (by decide +kernel) (by decide)),
  List.forall_mem_cons.mpr ⟨(show SE G 0 522 (.inl (i_c 0 523)) from s_iconst (e := 0) (by decide +kernel) (by decide)),
  List.forall_mem_cons.mpr ⟨(show SE G 0 523 (.inr (.inr 1)) from ⟨(by decide +kernel), rfl⟩),
  List.forall_mem_cons.mpr ⟨(show SE G 0 524 (.inl (i_al 1 525)) from s_aload_n (j := 1) (by decide +kernel)),
  List.forall_mem_cons.mpr ⟨(show SE G 0 525 (.inl (i_al 0 526)) from s_aload_n (j := 0) (by decide +kernel)),
  List.forall_mem_cons.mpr ⟨(show SE G 0 526 (.inl (i_il 3 527)) from s_iload_n (j := 3) (by decide +kernel)),
  List.forall_mem_cons.mpr ⟨(show SE G 0 527 (.inl (i_c 1 528)) from s_iconst (e := 1) (by decide +kernel) (by decide)),
  List.forall_mem_cons.mpr ⟨(show SE G 0 528 (.inl (i_bin (fun a b => a + b) 529)) from s_iadd (by decide +kernel)),
  List.forall_mem_cons.mpr ⟨(show SE G 0 529 (.inl (i_ld [20, 30] 530)) from s_iald hK (by decide +kernel)),
  List.forall_mem_cons.mpr ⟨(show SE G 0 530 (.inr (.inl (false, 2, [(1, 14)], 533))) from ⟨c_virt (idx := 66) (n := 1) hK (by decide +kernel) (List.forall_mem_cons.mpr ⟨⟨ko_14, inW 352 (by decide +kernel) (by decide +kernel), inW 353 (by decide +kernel) (by decide +kernel), 0, _, rfl, by decide, rfl, inW 354 (by decide +kernel) (by decide +kernel)⟩, fun _ h => absurd h List.not_mem_nil⟩), (List.forall_mem_cons.mpr ⟨⟨mo_14, by decide⟩, fun _ h => absurd h List.not_mem_nil⟩)⟩),
  List.forall_mem_cons.mpr ⟨(show SE G 0 533 (.inl (i_al 2 534)) from s_aload_n (j := 2) (by decide +kernel)),
  List.forall_mem_cons.mpr ⟨(show SE G 0 534 (.inl (i_al 0 535)) from s_aload_n (j := 0) (by decide +kernel)),
  List.forall_mem_cons.mpr ⟨(show SE G 0 535 (.inl (i_il 3 536)) from s_iload_n (j := 3) (by decide +kernel)),
  List.forall_mem_cons.mpr ⟨(show SE G 0 536 (.inl (i_c 1 537)) from s_iconst (e := 1) (by decide +kernel) (by decide)),
  List.forall_mem_cons.mpr ⟨(show SE G 0 537 (.inl (i_bin (fun a b => a + b) 538)) from s_iadd (by decide +kernel)),
  List.forall_mem_cons.mpr ⟨(show SE G 0 538 (.inl (i_ld [20, 30] 539)) from s_iald hK (by decide +kernel)),
  List.forall_mem_cons.mpr ⟨(show SE G 0 539 (.inr (.inl (false, 2, [(7, 67)], 542))) from ⟨c_virt (idx := 69) (n := 1) hK (by decide +kernel) (List.forall_mem_cons.mpr ⟨⟨ko_67, inW 596 (by decide +kernel) (by decide +kernel), inW 597 (by decide +kernel) (by decide +kernel), 6, _, rfl, by decide, rfl, inW 598 (by decide +kernel) (by decide +kernel)⟩, fun _ h => absurd h List.not_mem_nil⟩), (List.forall_mem_cons.mpr ⟨⟨mo_67, by decide⟩, fun _ h => absurd h List.not_mem_nil⟩)⟩),
  fun _ h => absurd h List.not_mem_nil⟩⟩⟩⟩⟩⟩⟩⟩⟩⟩⟩⟩⟩⟩⟩⟩⟩⟩⟩⟩⟩⟩⟩⟩⟩⟩⟩⟩⟩⟩
set_option maxRecDepth 20000 in
theorem ok_l_0_12 (hK : K0 G) : ∀ q ∈ l_0_12, SE G 0 q.1 q.2 :=
  List.forall_mem_cons.mpr ⟨(show SE G 0 542 (.inl (i_cmp 0 678 545)) from s_icmp_eq (tg := 678) (off := 136) (by decide +kernel) (by decide)),
  List.forall_mem_cons.mpr ⟨(show SE G 0 545 (.inl (i_c 0 546)) from s_iconst (e := 0) (by decide +kernel) (by decide)),
  List.forall_mem_cons.mpr ⟨(show SE G 0 546 (.inr (.inr 1)) from ⟨(by decide +kernel), rfl⟩),
  List.forall_mem_cons.mpr ⟨(show SE G 0 547 (.inl (i_al 1 548)) from s_aload_n (j := 1) (by decide +kernel)),
  List.forall_mem_cons.mpr ⟨(show SE G 0 548 (.inl (i_al 0 549)) from s_aload_n (j := 0) (by decide +kernel)),
  List.forall_mem_cons.mpr ⟨(show SE G 0 549 (.inl (i_il 3 550)) from s_iload_n (j := 3) (by decide +kernel)),
  List.forall_mem_cons.mpr ⟨(show SE G 0 550 (.inl (i_c 1 551)) from s_iconst (e := 1) (by decide +kernel) (by decide)),
  List.forall_mem_cons.mpr ⟨(show SE G 0 551 (.inl (i_bin (fun a b => a + b) 552)) from s_iadd (by decide +kernel)),
  List.forall_mem_cons.mpr ⟨(show SE G 0 552 (.inl (i_ld [20, 30] 553)) from s_iald hK (by decide +kernel)),
  List.forall_mem_cons.mpr ⟨(show SE G 0 553 (.inr (.inl (false, 2, [(1, 15)], 556))) from ⟨c_virt (idx := 70) (n := 1) hK (by decide +kernel) (List.forall_mem_cons.mpr ⟨⟨ko_15, inW 371 (by decide +kernel) (by decide +kernel), inW 372 (by decide +kernel) (by decide +kernel), 0, _, rfl, by decide, rfl, inW 373 (by decide +kernel) (by decide +kernel)⟩, fun _ h => absurd h List.not_mem_nil⟩), (List.forall_mem_cons.mpr ⟨⟨mo_15, by decide⟩, fun _ h => absurd h List.not_mem_nil⟩)⟩),
  List.forall_mem_cons.mpr ⟨(show SE G 0 556 (.inl (i_al 2 557)) from s_aload_n (j := 2) (by decide +kernel)),
  List.forall_mem_cons.mpr ⟨(show SE G 0 557 (.inl (i_al 0 558)) from s_aload_n (j := 0) (by decide +kernel)),
  List.forall_mem_cons.mpr ⟨(show SE G 0 558 (.inl (i_il 3 559)) from s_iload_n (j := 3) (by decide +kernel)),
  List.forall_mem_cons.mpr ⟨(show SE G 0 559 (.inl (i_c 1 560)) from s_iconst (e := 1) (by decide +kernel) (by decide)),
  List.forall_mem_cons.mpr ⟨(show SE G 0 560 (.inl (i_bin (fun a b => a + b) 561)) from s_iadd (by decide +kernel)),
  List.forall_mem_cons.mpr ⟨(show SE G 0 561 (.inl (i_ld [20, 30] 562)) from s_iald hK (by decide +kernel)),
  List.forall_mem_cons.mpr ⟨(show SE G 0 562 (.inr (.inl (false, 2, [(7, 68)], 565))) from ⟨c_virt (idx := 73) (n := 1) hK (by decide +kernel) (List.forall_mem_cons.mpr ⟨⟨ko_68, inW 600 (by decide +kernel) (by decide +kernel), inW 601 (by decide +kernel) (by decide +kernel), 6, _, rfl, by decide, rfl, inW 602 (by decide +kernel) (by decide +kernel)⟩, fun _ h => absurd h List.not_mem_nil⟩), (List.forall_mem_cons.mpr ⟨⟨mo_68, by decide⟩, fun _ h => absurd h List.not_mem_nil⟩)⟩),
  List.forall_mem_cons.mpr ⟨(show SE G 0 565 (.inl (i_cmp 0 678 568)) from s_icmp_eq (tg := 678) (off := 113) (by decide +kernel) (by decide)),
  List.forall_mem_cons.mpr ⟨(show SE G 0 568 (.inl (i_c 0 569)) from s_iconst (e := 0) (by decide +kernel) (by decide)),
  List.forall_mem_cons.mpr ⟨(show SE G 0 569 (.inr (.inr 1)) from ⟨(by decide +kernel), rfl⟩),
  List.forall_mem_cons.mpr ⟨(show SE G 0 570 (.inl (i_al 1 571)) from s_aload_n (j := 1) (by decide +kernel)),
  List.forall_mem_cons.mpr ⟨(show SE G 0 571 (.inl (i_al 0 572)) from s_aload_n (j := 0) (by decide +kernel)),
  List.forall_mem_cons.mpr ⟨(show SE G 0 572 (.inl (i_il 3 573)) from s_iload_n (j := 3) (by decide +kernel)),
  List.forall_mem_cons.mpr ⟨(show SE G 0 573 (.inl (i_c 1 574)) from s_iconst (e := 1) (by decide +kernel) (by decide)),
  List.forall_mem_cons.mpr ⟨(show SE G 0 574 (.inl (i_bin (fun a b => a + b) 575)) from s_iadd (by decide +kernel)),
  List.forall_mem_cons.mpr ⟨(show SE G 0 575 (.inl (i_ld [20, 30] 576)) from s_iald hK (by decide +kernel)),
  List.forall_mem_cons.mpr ⟨(show SE G 0 576 (.inr (.inl (false, 2, [(1, 16)], 579))) from ⟨c_virt (idx := 74) (n := 1) hK (by decide +kernel) (List.forall_mem_cons.mpr ⟨⟨ko_16, inW 375 (by decide +kernel) (by decide +kernel), inW 376 (by decide +kernel) (by decide +kernel), 0, _, rfl, by decide, rfl, inW 377 (by decide +kernel) (by decide +kernel)⟩, fun _ h => absurd h List.not_mem_nil⟩), (List.forall_mem_cons.mpr ⟨⟨mo_16, by decide⟩, fun _ h => absurd h List.not_mem_nil⟩)⟩),
  List.forall_mem_cons.mpr ⟨(show SE G 0 579 (.inl (i_al 2 580)) from s_aload_n (j := 2) (by decide +kernel)),
  List.forall_mem_cons.mpr ⟨(show SE G 0 580 (.inl (i_al 0 581)) from s_aload_n (j := 0) (by decide +kernel)),
  List.forall_mem_cons.mpr ⟨(show SE G 0 581 (.inl (i_il 3 582)) from s_iload_n (j := 3) (by decide +kernel)),
  fun _ h => absurd h List.not_mem_nil⟩⟩⟩⟩⟩⟩⟩⟩⟩⟩⟩⟩⟩⟩⟩⟩⟩⟩⟩⟩⟩⟩⟩⟩⟩⟩⟩⟩⟩⟩
set_option maxRecDepth 20000 in
theorem ok_l_0_13 (hK : K0 G) : ∀ q ∈ l_0_13, SE G 0 q.1 q.2 :=
  List.forall_mem_cons.mpr ⟨(show SE G 0 582 (.inl (i_c 1 583)) from s_iconst (e := 1) (by decide +kernel) (by decide)),
  List.forall_mem_cons.mpr ⟨(show SE G 0 583 (.inl (i_bin (fun a b => a + b) 584)) from s_iadd (by decide +kernel)),
  List.forall_mem_cons.mpr ⟨(show SE G 0 584 (.inl (i_ld [20, 30] 585)) from s_iald hK (by decide +kernel)),
  List.forall_mem_cons.mpr ⟨(show SE G 0 585 (.inr (.inl (false, 2, [(7, 69)], 588))) from ⟨c_virt (idx := 77) (n := 1) hK (by decide +kernel) (List.forall_mem_cons.mpr ⟨⟨ko_69, inW 604 (by decide +kernel) (by decide +kernel), inW 605 (by decide +kernel) (by decide +kernel), 6, _, rfl, by decide, rfl, inW 606 (by decide +kernel) (by decide +kernel)⟩, fun _ h => absurd h List.not_mem_nil⟩), (List.forall_mem_cons.mpr ⟨⟨mo_69, by decide⟩, fun _ h => absurd h List.not_mem_nil⟩)⟩),
  List.forall_mem_cons.mpr ⟨(show SE G 0 588 (.inl (i_cmp 0 678 591)) from s_icmp_eq (tg := 678) (off := 90) (by decide +kernel) (by decide)),
  List.forall_mem_cons.mpr ⟨(show SE G 0 591 (.inl (i_c 0 592)) from s_iconst (e := 0) (by decide +kernel) (by decide)),
  List.forall_mem_cons.mpr ⟨(show SE G 0 592 (.inr (.inr 1)) from ⟨(by decide +kernel), rfl⟩),
  List.forall_mem_cons.mpr ⟨(show SE G 0 593 (.inl (i_al 1 594)) from s_aload_n (j := 1) (by decide +kernel)),
  List.forall_mem_cons.mpr ⟨(show SE G 0 594 (.inl (i_al 0 595)) from s_aload_n (j := 0) (by decide +kernel)),
  List.forall_mem_cons.mpr ⟨(show SE G 0 595 (.inl (i_il 3 596)) from s_iload_n (j := 3) (by decide +kernel)),
  List.forall_mem_cons.mpr ⟨(show SE G 0 596 (.inl (i_c 1 597)) from s_iconst (e := 1) (by decide +kernel) (by decide)),
  List.forall_mem_cons.mpr ⟨(show SE G 0 597 (.inl (i_bin (fun a b => a + b) 598)) from s_iadd (by decide +kernel)),
  List.forall_mem_cons.mpr ⟨(show SE G 0 598 (.inl (i_ld [20, 30] 599)) from s_iald hK (by decide +kernel)),
  List.forall_mem_cons.mpr ⟨(show SE G 0 599 (.inr (.inl (false, 2, [(1, 17)], 602))) from ⟨c_virt (idx := 78) (n := 1) hK (by decide +kernel) (List.forall_mem_cons.mpr ⟨⟨ko_17, inW 379 (by decide +kernel) (by decide +kernel), inW 380 (by decide +kernel) (by decide +kernel), 0, _, rfl, by decide, rfl, inW 381 (by decide +kernel) (by decide +kernel)⟩, fun _ h => absurd h List.not_mem_nil⟩), (List.forall_mem_cons.mpr ⟨⟨mo_17, by decide⟩, fun _ h => absurd h List.not_mem_nil⟩)⟩),
  List.forall_mem_cons.mpr ⟨(show SE G 0 602 (.inl (i_al 2 603)) from s_aload_n (j := 2) (by decide +kernel)),
  List.forall_mem_cons.mpr ⟨(show SE G 0 603 (.inl (i_al 0 604)) from s_aload_n (j := 0) (by decide +kernel)),
  List.forall_mem_cons.mpr ⟨(show SE G 0 604 (.inl (i_il 3 605)) from s_iload_n (j := 3) (by decide +kernel)),
  List.forall_mem_cons.mpr ⟨(show SE G 0 605 (.inl (i_c 1 606)) from s_iconst (e := 1) (by decide +kernel) (by decide)),
  List.forall_mem_cons.mpr ⟨(show SE G 0 606 (.inl (i_bin (fun a b => a + b) 607)) from s_iadd (by decide +kernel)),
  List.forall_mem_cons.mpr ⟨(show SE G 0 607 (.inl (i_ld [20, 30] 608)) from s_iald hK (by decide +kernel)),
  List.forall_mem_cons.mpr ⟨(show SE G 0 608 (.inr (.inl (false, 2, [(7, 70)], 611))) from ⟨c_virt (idx := 81) (n := 1) hK (by decide +kernel) (List.forall_mem_cons.mpr ⟨⟨ko_70, inW 608 (by decide +kernel) (by decide +kernel), inW 609 (by decide +kernel) (by decide +kernel), 6, _, rfl, by decide, rfl, inW 610 (by decide +kernel) (by decide +kernel)⟩, fun _ h => absurd h List.not_mem_nil⟩), (List.forall_mem_cons.mpr ⟨⟨mo_70, by decide⟩, fun _ h => absurd h List.not_mem_nil⟩)⟩),
  List.forall_mem_cons.mpr ⟨(show SE G 0 611 (.inl (i_cmp 0 678 614)) from s_icmp_eq (tg := 678) (off := 67) (by decide +kernel) (by decide)),
  List.forall_mem_cons.mpr ⟨(show SE G 0 614 (.inl (i_c 0 615)) from s_iconst (e := 0) (by decide +kernel) (by decide)),
  List.forall_mem_cons.mpr ⟨(show SE G 0 615 (.inr (.inr 1)) from ⟨(by decide +kernel), rfl⟩),
  List.forall_mem_cons.mpr ⟨(show SE G 0 616 (.inl (i_al 1 617)) from s_aload_n (j := 1) (by decide +kernel)),
  List.forall_mem_cons.mpr ⟨(show SE G 0 617 (.inl (i_al 0 618)) from s_aload_n (j := 0) (by decide +kernel)),
  List.forall_mem_cons.mpr ⟨(show SE G 0 618 (.inl (i_il 3 619)) from s_iload_n (j := 3) (by decide +kernel)),
  List.forall_mem_cons.mpr ⟨(show SE G 0 619 (.inl (i_c 1 620)) from s_iconst (e := 1) (by decide +kernel) (by decide)),
  List.forall_mem_cons.mpr ⟨(show SE G 0 620 (.inl (i_bin (fun a b => a + b) 621)) from s_iadd (by decide +kernel)),
  List.forall_mem_cons.mpr ⟨(show SE G 0 621 (.inl (i_ld [20, 30] 622)) from s_iald hK (by decide +kernel)),
  fun _ h => absurd h List.not_mem_nil⟩⟩⟩⟩⟩⟩⟩⟩⟩⟩⟩⟩⟩⟩⟩⟩⟩⟩⟩⟩⟩⟩⟩⟩⟩⟩⟩⟩⟩⟩
set_option maxRecDepth 20000 in
theorem ok_l_0_14 (hK : K0 G) : ∀ q ∈ l_0_14, SE G 0 q.1 q.2 :=
  List.forall_mem_cons.mpr ⟨(show SE G 0 622 (.inr (.inl (false, 2, [(1, 18)], 625))) from ⟨c_virt (idx := 82) (n := 1) hK (by decide +kernel) (List.forall_mem_cons.mpr ⟨⟨ko_18, inW 383 (by decide +kernel) (by decide +kernel), inW 384 (by decide +kernel) (by decide +kernel), 0, _, rfl, by decide, rfl, inW 385 (by decide +kernel) (by decide +kernel)⟩, fun _ h => absurd h List.not_mem_nil⟩), (List.forall_mem_cons.mpr ⟨⟨mo_18, by decide⟩, fun _ h => absurd h List.not_mem_nil⟩)⟩),
  List.forall_mem_cons.mpr ⟨(show SE G 0 625 (.inl (i_al 2 626)) from s_aload_n (j := 2) (by decide +kernel)),
  List.forall_mem_cons.mpr ⟨(show SE G 0 626 (.inl (i_al 0 627)) from s_aload_n (j := 0) (by decide +kernel)),
  List.forall_mem_cons.mpr ⟨(show SE G 0 627 (.inl (i_il 3 628)) from s_iload_n (j := 3) (by decide +kernel)),
  List.forall_mem_cons.mpr ⟨(show SE G 0 628 (.inl (i_c 1 629)) from s_iconst (e := 1) (by decide +kernel) (by decide)),
  List.forall_mem_cons.mpr ⟨(show SE G 0 629 (.inl (i_bin (fun a b => a + b) 630)) from s_iadd (by decide +kernel)),
  List.forall_mem_cons.mpr ⟨(show SE G 0 630 (.inl (i_ld [20, 30] 631)) from s_iald hK (by decide +kernel)),
  List.forall_mem_cons.mpr ⟨(show SE G 0 631 (.inr (.inl (false, 2, [(7, 71)], 634))) from ⟨c_virt (idx := 85) (n := 1) hK (by decide +kernel) (List.forall_mem_cons.mpr ⟨⟨ko_71, inW 612 (by decide +kernel) (by decide +kernel), inW 613 (by decide +kernel) (by decide +kernel), 6, _, rfl, by decide, rfl, inW 614 (by decide +kernel) (by decide +kernel)⟩, fun _ h => absurd h List.not_mem_nil⟩), (List.forall_mem_cons.mpr ⟨⟨mo_71, by decide⟩, fun _ h => absurd h List.not_mem_nil⟩)⟩),
  List.forall_mem_cons.mpr ⟨(show SE G 0 634 (.inl (i_cmp 0 678 637)) from s_icmp_eq (tg := 678) (off := 44) (by decide +kernel) (by decide)),
  List.forall_mem_cons.mpr ⟨(show SE G 0 637 (.inl (i_c 0 638)) from s_iconst (e := 0) (by decide +kernel) (by decide)),
  List.forall_mem_cons.mpr ⟨(show SE G 0 638 (.inr (.inr 1)) from ⟨(by decide +kernel), rfl⟩),
  List.forall_mem_cons.mpr ⟨(show SE G 0 639 (.inl (i_al 1 640)) from s_aload_n (j := 1) (by decide +kernel)),
  List.forall_mem_cons.mpr ⟨(show SE G 0 640 (.inr (.inl (false, 1, [(1, 19)], 643))) from ⟨c_virt (idx := 86) (n := 0) hK (by decide +kernel) (List.forall_mem_cons.mpr ⟨⟨ko_19, inW 399 (by decide +kernel) (by decide +kernel), inW 400 (by decide +kernel) (by decide +kernel), 0, _, rfl, by decide, rfl, inW 401 (by decide +kernel) (by decide +kernel)⟩, fun _ h => absurd h List.not_mem_nil⟩), (List.forall_mem_cons.mpr ⟨⟨mo_19, by decide⟩, fun _ h => absurd h List.not_mem_nil⟩)⟩),
  List.forall_mem_cons.mpr ⟨(show SE G 0 643 (.inl (i_al 2 644)) from s_aload_n (j := 2) (by decide +kernel)),
  List.forall_mem_cons.mpr ⟨(show SE G 0 644 (.inr (.inl (false, 1, [(7, 72)], 647))) from ⟨c_virt (idx := 89) (n := 0) hK (by decide +kernel) (List.forall_mem_cons.mpr ⟨⟨ko_72, inW 616 (by decide +kernel) (by decide +kernel), inW 617 (by decide +kernel) (by decide +kernel), 6, _, rfl, by decide, rfl, inW 618 (by decide +kernel) (by decide +kernel)⟩, fun _ h => absurd h List.not_mem_nil⟩), (List.forall_mem_cons.mpr ⟨⟨mo_72, by decide⟩, fun _ h => absurd h List.not_mem_nil⟩)⟩),
  List.forall_mem_cons.mpr ⟨(show SE G 0 647 (.inl (i_cmp 0 678 650)) from s_icmp_eq (tg := 678) (off := 31) (by decide +kernel) (by decide)),
  List.forall_mem_cons.mpr ⟨(show SE G 0 650 (.inl (i_c 0 651)) from s_iconst (e := 0) (by decide +kernel) (by decide)),
  List.forall_mem_cons.mpr ⟨(show SE G 0 651 (.inr (.inr 1)) from ⟨(by decide +kernel), rfl⟩),
  List.forall_mem_cons.mpr ⟨(show SE G 0 652 (.inl (i_al 1 653)) from s_aload_n (j := 1) (by decide +kernel)),
  List.forall_mem_cons.mpr ⟨(show SE G 0 653 (.inr (.inl (false, 1, [(1, 20)], 656))) from ⟨c_virt (idx := 90) (n := 0) hK (by decide +kernel) (List.forall_mem_cons.mpr ⟨⟨ko_20, inW 403 (by decide +kernel) (by decide +kernel), inW 404 (by decide +kernel) (by decide +kernel), 0, _, rfl, by decide, rfl, inW 405 (by decide +kernel) (by decide +kernel)⟩, fun _ h => absurd h List.not_mem_nil⟩), (List.forall_mem_cons.mpr ⟨⟨mo_20, by decide⟩, fun _ h => absurd h List.not_mem_nil⟩)⟩),
  List.forall_mem_cons.mpr ⟨(show SE G 0 656 (.inl (i_al 2 657)) from s_aload_n (j := 2) (by decide +kernel)),
  List.forall_mem_cons.mpr ⟨(show SE G 0 657 (.inr (.inl (false, 1, [(7, 73)], 660))) from ⟨c_virt (idx := 93) (n := 0) hK (by decide +kernel) (List.forall_mem_cons.mpr ⟨⟨ko_73, inW 620 (by decide +kernel) (by decide +kernel), inW 621 (by decide +kernel) (by decide +kernel), 6, _, rfl, by decide, rfl, inW 622 (by decide +kernel) (by decide +kernel)⟩, fun _ h => absurd h List.not_mem_nil⟩), (List.forall_mem_cons.mpr ⟨⟨mo_73, by decide⟩, fun _ h => absurd h List.not_mem_nil⟩)⟩),
  List.forall_mem_cons.mpr ⟨(show SE G 0 660 (.inl (i_cmp 0 678 663)) from s_icmp_eq (tg := 678) (off := 18) (by decide +kernel) (by decide)),
  List.forall_mem_cons.mpr ⟨(show SE G 0 663 (.inl (i_c 0 664)) from s_iconst (e := 0) (by decide +kernel) (by decide)),
  List.forall_mem_cons.mpr ⟨(show SE G 0 664 (.inr (.inr 1)) from ⟨(by decide +kernel), rfl⟩),
  List.forall_mem_cons.mpr ⟨(show SE G 0 665 (.inl (i_al 1 666)) from s_aload_n (j := 1) (by decide +kernel)),
  List.forall_mem_cons.mpr ⟨(show SE G 0 666 (.inr (.inl (false, 1, [(1, 21)], 669))) from ⟨c_virt (idx := 94) (n := 0) hK (by decide +kernel) (List.forall_mem_cons.mpr ⟨⟨ko_21, inW 407 (by decide +kernel) (by decide +kernel), inW 408 (by decide +kernel) (by decide +kernel), 0, _, rfl, by decide, rfl, inW 409 (by decide +kernel) (by decide +kernel)⟩, fun _ h => absurd h List.not_mem_nil⟩), (List.forall_mem_cons.mpr ⟨⟨mo_21, by decide⟩, fun _ h => absurd h List.not_mem_nil⟩)⟩),
  List.forall_mem_cons.mpr ⟨(show SE G 0 669 (.inl (i_al 2 670)) from s_aload_n (j := 2) (by decide +kernel)),
  List.forall_mem_cons.mpr ⟨(show SE G 0 670 (.inr (.inl (false, 1, [(7, 74)], 673))) from ⟨c_virt (idx := 97) (n := 0) hK (by decide +kernel) (List.forall_mem_cons.mpr ⟨⟨ko_74, inW 624 (by decide +kernel) (by decide +kernel), inW 625 (by decide +kernel) (by decide +kernel), 6, _, rfl, by decide, rfl, inW 626 (by decide +kernel) (by decide +kernel)⟩, fun _ h => absurd h List.not_mem_nil⟩), (List.forall_mem_cons.mpr ⟨⟨mo_74, by decide⟩, fun _ h => absurd h List.not_mem_nil⟩)⟩),
  List.forall_mem_cons.mpr ⟨(show SE G 0 673 (.inl (i_cmp 0 678 676)) from s_icmp_eq (tg := 678) (off := 5) (by decide +kernel) (by decide)),
  fun _ h => absurd h List.not_mem_nil⟩⟩⟩⟩⟩⟩⟩⟩⟩⟩⟩⟩⟩⟩⟩⟩⟩⟩⟩⟩⟩⟩⟩⟩⟩⟩⟩⟩⟩⟩
set_option maxRecDepth 20000 in
theorem ok_l_0_15 (hK : K0 G) : ∀ q ∈ l_0_15, SE G 0 q.1 q.2 :=
  List.forall_mem_cons.mpr ⟨(show SE G 0 676 (.inl (i_c 0 677)) from s_iconst (e := 0) (by decide +kernel) (by decide)),
  List.forall_mem_cons.mpr ⟨(show SE G 0 677 (.inr (.inr 1)) from ⟨(by decide +kernel), rfl⟩),
  List.forall_mem_cons.mpr ⟨(show SE G 0 678 (.inl (i_ii 3 4 681)) from s_iinc (j := 3) (n := 4) (by decide +kernel) (by decide)),
  List.forall_mem_cons.mpr ⟨(show SE G 0 681 (.inl (i_go 18)) from s_goto (tg := 18) (off := -663) (by decide +kernel) (by decide)),
  List.forall_mem_cons.mpr ⟨(show SE G 0 684 (.inl (i_c 1 685)) from s_iconst (e := 1) (by decide +kernel) (by decide)),
  List.forall_mem_cons.mpr ⟨(show SE G 0 685 (.inr (.inr 1)) from ⟨(by decide +kernel), rfl⟩),
  fun _ h => absurd h List.not_mem_nil⟩⟩⟩⟩⟩⟩
theorem ok_l_0 (hK : K0 G) : ∀ q ∈ l_0, SE G 0 q.1 q.2 := by
  show ∀ q ∈ l_0_0 ++ (l_0_1 ++ (l_0_2 ++ (l_0_3 ++ (l_0_4 ++ (l_0_5 ++ (l_0_6 ++ (l_0_7 ++ (l_0_8 ++ (l_0_9 ++ (l_0_10 ++ (l_0_11 ++ (l_0_12 ++ (l_0_13 ++ (l_0_14 ++ (l_0_15))))))))))))))), SE G 0 q.1 q.2
  exact List.forall_mem_append.mpr ⟨ok_l_0_0 hK, List.forall_mem_append.mpr ⟨ok_l_0_1 hK, List.forall_mem_append.mpr ⟨ok_l_0_2 hK, List.forall_mem_append.mpr ⟨ok_l_0_3 hK, List.forall_mem_append.mpr ⟨ok_l_0_4 hK, List.forall_mem_append.mpr ⟨ok_l_0_5 hK, List.forall_mem_append.mpr ⟨ok_l_0_6 hK, List.forall_mem_append.mpr ⟨ok_l_0_7 hK, List.forall_mem_append.mpr ⟨ok_l_0_8 hK, List.forall_mem_append.mpr ⟨ok_l_0_9 hK, List.forall_mem_append.mpr ⟨ok_l_0_10 hK, List.forall_mem_append.mpr ⟨ok_l_0_11 hK, List.forall_mem_append.mpr ⟨ok_l_0_12 hK, List.forall_mem_append.mpr ⟨ok_l_0_13 hK, List.forall_mem_append.mpr ⟨ok_l_0_14 hK, ok_l_0_15 hK⟩⟩⟩⟩⟩⟩⟩⟩⟩⟩⟩⟩⟩⟩⟩
end OK0
end
section
/-! each method's instructions are sound (by program) -/
section OK1
variable {G : MG}
set_option maxRecDepth 20000 in
theorem ok_l_1 (hK : K0 G) : ∀ q ∈ l_1, SE G 1 q.1 q.2 :=
  List.forall_mem_cons.mpr ⟨(show SE G 1 0 (.inl (i_al 0 1)) from s_aload_n (j := 0) (by decide +kernel)),
  List.forall_mem_cons.mpr ⟨(show SE G 1 1 (.inl (i_obj 4)) from s_obj (idx := 3) (by decide +kernel) (inW 45 (by decide +kernel) (by decide +kernel)) (inW 46 (by decide +kernel) (by decide +kernel)) (inW 47 (by decide +kernel) (by decide +kernel))),
  List.forall_mem_cons.mpr ⟨(show SE G 1 4 (.inl (i_al 0 5)) from s_aload_n (j := 0) (by decide +kernel)),
  List.forall_mem_cons.mpr ⟨(show SE G 1 5 (.inl (i_c 6 7)) from s_bipush (e := 6) (by decide +kernel) (by decide +kernel) (by decide)),
  List.forall_mem_cons.mpr ⟨(show SE G 1 7 (.inl (i_newa 23 (.inr none) 10)) from s_anew (idx := 9) (j := 3) (E := "ResurrectingHeap$Value") hK (by decide +kernel) (inW 48 (by decide +kernel) (by decide +kernel)) (by decide +kernel) (by decide) rfl),
  List.forall_mem_cons.mpr ⟨(show SE G 1 10 (.inl (i_put [1] 0 2 13)) from s_put (idx := 11) (kk := 0) (ty := 2) hK (by decide +kernel) (inW 65 (by decide +kernel) (by decide +kernel)) fo_H_variables po_1_H_variables),
  List.forall_mem_cons.mpr ⟨(show SE G 1 13 (.inl (i_al 0 14)) from s_aload_n (j := 0) (by decide +kernel)),
  List.forall_mem_cons.mpr ⟨(show SE G 1 14 (.inl (i_new 6 2 df_R 17)) from s_new (idx := 15) hK (by decide +kernel) no_1_15),
  List.forall_mem_cons.mpr ⟨(show SE G 1 17 (.inl (i_dup 18)) from s_dup (by decide +kernel)),
  List.forall_mem_cons.mpr ⟨(show SE G 1 18 (.inl (i_c 20 20)) from s_bipush (e := 20) (by decide +kernel) (by decide +kernel) (by decide)),
  List.forall_mem_cons.mpr ⟨(show SE G 1 20 (.inr (.inl (false, 2, [(6, 77)], 23))) from ⟨c_init (idx := 17) (n := 1) (k1 := 77) (ts := [6]) (by decide +kernel) ko_77 (inW 52 (by decide +kernel) (by decide +kernel)) (inW 53 (by decide +kernel) (by decide +kernel)) rfl rfl, (List.forall_mem_cons.mpr ⟨⟨mo_77, by decide⟩, fun _ h => absurd h List.not_mem_nil⟩)⟩),
  List.forall_mem_cons.mpr ⟨(show SE G 1 23 (.inl (i_put [1] 1 2 26)) from s_put (idx := 20) (kk := 1) (ty := 2) hK (by decide +kernel) (inW 66 (by decide +kernel) (by decide +kernel)) fo_H_objects po_1_H_objects),
  List.forall_mem_cons.mpr ⟨(show SE G 1 26 (.inl (i_al 0 27)) from s_aload_n (j := 0) (by decide +kernel)),
  List.forall_mem_cons.mpr ⟨(show SE G 1 27 (.inl (i_new 6 2 df_R 30)) from s_new (idx := 15) hK (by decide +kernel) no_1_15),
  List.forall_mem_cons.mpr ⟨(show SE G 1 30 (.inl (i_dup 31)) from s_dup (by decide +kernel)),
  List.forall_mem_cons.mpr ⟨(show SE G 1 31 (.inl (i_c 8 33)) from s_bipush (e := 8) (by decide +kernel) (by decide +kernel) (by decide)),
  List.forall_mem_cons.mpr ⟨(show SE G 1 33 (.inr (.inl (false, 2, [(6, 77)], 36))) from ⟨c_init (idx := 17) (n := 1) (k1 := 77) (ts := [6]) (by decide +kernel) ko_77 (inW 52 (by decide +kernel) (by decide +kernel)) (inW 53 (by decide +kernel) (by decide +kernel)) rfl rfl, (List.forall_mem_cons.mpr ⟨⟨mo_77, by decide⟩, fun _ h => absurd h List.not_mem_nil⟩)⟩),
  List.forall_mem_cons.mpr ⟨(show SE G 1 36 (.inl (i_put [1] 2 2 39)) from s_put (idx := 24) (kk := 2) (ty := 2) hK (by decide +kernel) (inW 67 (by decide +kernel) (by decide +kernel)) fo_H_registered po_1_H_registered),
  List.forall_mem_cons.mpr ⟨(show SE G 1 39 (.inl (i_al 0 40)) from s_aload_n (j := 0) (by decide +kernel)),
  List.forall_mem_cons.mpr ⟨(show SE G 1 40 (.inl (i_new 6 2 df_R 43)) from s_new (idx := 15) hK (by decide +kernel) no_1_15),
  List.forall_mem_cons.mpr ⟨(show SE G 1 43 (.inl (i_dup 44)) from s_dup (by decide +kernel)),
  List.forall_mem_cons.mpr ⟨(show SE G 1 44 (.inl (i_c 8 46)) from s_bipush (e := 8) (by decide +kernel) (by decide +kernel) (by decide)),
  List.forall_mem_cons.mpr ⟨(show SE G 1 46 (.inr (.inl (false, 2, [(6, 77)], 49))) from ⟨c_init (idx := 17) (n := 1) (k1 := 77) (ts := [6]) (by decide +kernel) ko_77 (inW 52 (by decide +kernel) (by decide +kernel)) (inW 53 (by decide +kernel) (by decide +kernel)) rfl rfl, (List.forall_mem_cons.mpr ⟨⟨mo_77, by decide⟩, fun _ h => absurd h List.not_mem_nil⟩)⟩),
  List.forall_mem_cons.mpr ⟨(show SE G 1 49 (.inl (i_put [1] 3 2 52)) from s_put (idx := 27) (kk := 3) (ty := 2) hK (by decide +kernel) (inW 68 (by decide +kernel) (by decide +kernel)) fo_H_waitingRow po_1_H_waitingRow),
  List.forall_mem_cons.mpr ⟨(show SE G 1 52 (.inr (.inr 3)) from ⟨(by decide +kernel), rfl⟩),
  fun _ h => absurd h List.not_mem_nil⟩⟩⟩⟩⟩⟩⟩⟩⟩⟩⟩⟩⟩⟩⟩⟩⟩⟩⟩⟩⟩⟩⟩⟩⟩
set_option maxRecDepth 20000 in
theorem ok_l_2 (hK : K0 G) : ∀ q ∈ l_2, SE G 2 q.1 q.2 :=
  List.forall_mem_cons.mpr ⟨(show SE G 2 0 (.inl (i_il 1 1)) from s_iload_n (j := 1) (by decide +kernel)),
  List.forall_mem_cons.mpr ⟨(show SE G 2 1 (.inr (.inl (true, 1, [(0, 22)], 4))) from ⟨c_static (idx := 30) (n := 1) (k1 := 22) (by decide +kernel) ko_22 (inW 91 (by decide +kernel) (by decide +kernel)) (inW 92 (by decide +kernel) (by decide +kernel)), (List.forall_mem_cons.mpr ⟨⟨mo_22, by decide⟩, fun _ h => absurd h List.not_mem_nil⟩)⟩),
  List.forall_mem_cons.mpr ⟨(show SE G 2 4 (.inl (i_z 0 19 7)) from s_if_eq (tg := 19) (off := 15) (by decide +kernel) (by decide)),
  List.forall_mem_cons.mpr ⟨(show SE G 2 7 (.inl (i_il 2 8)) from s_iload_n (j := 2) (by decide +kernel)),
  List.forall_mem_cons.mpr ⟨(show SE G 2 8 (.inl (i_c (-1000000) 10)) from s_ldc (e := (-1000000)) (idx := 34) (by decide +kernel) (inW 94 (by decide +kernel) (by decide +kernel)) (by decide)),
  List.forall_mem_cons.mpr ⟨(show SE G 2 10 (.inl (i_cmp 2 19 13)) from s_icmp_lt (tg := 19) (off := 9) (by decide +kernel) (by decide)),
  List.forall_mem_cons.mpr ⟨(show SE G 2 13 (.inl (i_il 2 14)) from s_iload_n (j := 2) (by decide +kernel)),
  List.forall_mem_cons.mpr ⟨(show SE G 2 14 (.inl (i_c (1000000) 16)) from s_ldc (e := (1000000)) (idx := 35) (by decide +kernel) (inW 95 (by decide +kernel) (by decide +kernel)) (by decide)),
  List.forall_mem_cons.mpr ⟨(show SE G 2 16 (.inl (i_cmp 5 21 19)) from s_icmp_le (tg := 21) (off := 5) (by decide +kernel) (by decide)),
  List.forall_mem_cons.mpr ⟨(show SE G 2 19 (.inl (i_c 0 20)) from s_iconst (e := 0) (by decide +kernel) (by decide)),
  List.forall_mem_cons.mpr ⟨(show SE G 2 20 (.inr (.inr 1)) from ⟨(by decide +kernel), rfl⟩),
  List.forall_mem_cons.mpr ⟨(show SE G 2 21 (.inl (i_al 0 22)) from s_aload_n (j := 0) (by decide +kernel)),
  List.forall_mem_cons.mpr ⟨(show SE G 2 22 (.inl (i_get [1] 0 25)) from s_get (idx := 11) (kk := 0) hK (by decide +kernel) (inW 65 (by decide +kernel) (by decide +kernel)) fo_H_variables),
  List.forall_mem_cons.mpr ⟨(show SE G 2 25 (.inl (i_il 1 26)) from s_iload_n (j := 1) (by decide +kernel)),
  List.forall_mem_cons.mpr ⟨(show SE G 2 26 (.inl (i_new 2 1 df_N 29)) from s_new (idx := 36) hK (by decide +kernel) no_2_36),
  List.forall_mem_cons.mpr ⟨(show SE G 2 29 (.inl (i_dup 30)) from s_dup (by decide +kernel)),
  List.forall_mem_cons.mpr ⟨(show SE G 2 30 (.inl (i_il 2 31)) from s_iload_n (j := 2) (by decide +kernel)),
  List.forall_mem_cons.mpr ⟨(show SE G 2 31 (.inr (.inl (false, 2, [(2, 75)], 34))) from ⟨c_init (idx := 38) (n := 1) (k1 := 75) (ts := [2]) (by decide +kernel) ko_75 (inW 98 (by decide +kernel) (by decide +kernel)) (inW 99 (by decide +kernel) (by decide +kernel)) rfl rfl, (List.forall_mem_cons.mpr ⟨⟨mo_75, by decide⟩, fun _ h => absurd h List.not_mem_nil⟩)⟩),
  List.forall_mem_cons.mpr ⟨(show SE G 2 34 (.inl (i_ast [(22, [3, 4, 5]), (23, [2, 3, 4, 5])] 35)) from s_aast hK (by decide +kernel) yo_G yo_U),
  List.forall_mem_cons.mpr ⟨(show SE G 2 35 (.inl (i_c 1 36)) from s_iconst (e := 1) (by decide +kernel) (by decide)),
  List.forall_mem_cons.mpr ⟨(show SE G 2 36 (.inr (.inr 1)) from ⟨(by decide +kernel), rfl⟩),
  fun _ h => absurd h List.not_mem_nil⟩⟩⟩⟩⟩⟩⟩⟩⟩⟩⟩⟩⟩⟩⟩⟩⟩⟩⟩⟩⟩
set_option maxRecDepth 20000 in
theorem ok_l_3 (hK : K0 G) : ∀ q ∈ l_3, SE G 3 q.1 q.2 :=
  List.forall_mem_cons.mpr ⟨(show SE G 3 0 (.inl (i_il 1 1)) from s_iload_n (j := 1) (by decide +kernel)),
  List.forall_mem_cons.mpr ⟨(show SE G 3 1 (.inr (.inl (true, 1, [(0, 22)], 4))) from ⟨c_static (idx := 30) (n := 1) (k1 := 22) (by decide +kernel) ko_22 (inW 91 (by decide +kernel) (by decide +kernel)) (inW 92 (by decide +kernel) (by decide +kernel)), (List.forall_mem_cons.mpr ⟨⟨mo_22, by decide⟩, fun _ h => absurd h List.not_mem_nil⟩)⟩),
  List.forall_mem_cons.mpr ⟨(show SE G 3 4 (.inl (i_z 0 19 7)) from s_if_eq (tg := 19) (off := 15) (by decide +kernel) (by decide)),
  List.forall_mem_cons.mpr ⟨(show SE G 3 7 (.inl (i_il 2 8)) from s_iload_n (j := 2) (by decide +kernel)),
  List.forall_mem_cons.mpr ⟨(show SE G 3 8 (.inl (i_c (-1) 9)) from s_iconst (e := (-1)) (by decide +kernel) (by decide)),
  List.forall_mem_cons.mpr ⟨(show SE G 3 9 (.inl (i_cmp 0 21 12)) from s_icmp_eq (tg := 21) (off := 12) (by decide +kernel) (by decide)),
  List.forall_mem_cons.mpr ⟨(show SE G 3 12 (.inl (i_il 2 13)) from s_iload_n (j := 2) (by decide +kernel)),
  List.forall_mem_cons.mpr ⟨(show SE G 3 13 (.inr (.inl (true, 1, [(0, 22)], 16))) from ⟨c_static (idx := 30) (n := 1) (k1 := 22) (by decide +kernel) ko_22 (inW 91 (by decide +kernel) (by decide +kernel)) (inW 92 (by decide +kernel) (by decide +kernel)), (List.forall_mem_cons.mpr ⟨⟨mo_22, by decide⟩, fun _ h => absurd h List.not_mem_nil⟩)⟩),
  List.forall_mem_cons.mpr ⟨(show SE G 3 16 (.inl (i_z 1 21 19)) from s_if_ne (tg := 21) (off := 5) (by decide +kernel) (by decide)),
  List.forall_mem_cons.mpr ⟨(show SE G 3 19 (.inl (i_c 0 20)) from s_iconst (e := 0) (by decide +kernel) (by decide)),
  List.forall_mem_cons.mpr ⟨(show SE G 3 20 (.inr (.inr 1)) from ⟨(by decide +kernel), rfl⟩),
  List.forall_mem_cons.mpr ⟨(show SE G 3 21 (.inl (i_al 0 22)) from s_aload_n (j := 0) (by decide +kernel)),
  List.forall_mem_cons.mpr ⟨(show SE G 3 22 (.inl (i_get [1] 0 25)) from s_get (idx := 11) (kk := 0) hK (by decide +kernel) (inW 65 (by decide +kernel) (by decide +kernel)) fo_H_variables),
  List.forall_mem_cons.mpr ⟨(show SE G 3 25 (.inl (i_il 1 26)) from s_iload_n (j := 1) (by decide +kernel)),
  List.forall_mem_cons.mpr ⟨(show SE G 3 26 (.inl (i_al 0 27)) from s_aload_n (j := 0) (by decide +kernel)),
  List.forall_mem_cons.mpr ⟨(show SE G 3 27 (.inl (i_il 2 28)) from s_iload_n (j := 2) (by decide +kernel)),
  List.forall_mem_cons.mpr ⟨(show SE G 3 28 (.inr (.inl (false, 2, [(1, 23)], 31))) from ⟨c_virt (idx := 39) (n := 1) hK (by decide +kernel) (List.forall_mem_cons.mpr ⟨⟨ko_23, inW 114 (by decide +kernel) (by decide +kernel), inW 116 (by decide +kernel) (by decide +kernel), 0, _, rfl, by decide, rfl, inW 0 (by decide +kernel) (by decide +kernel)⟩, fun _ h => absurd h List.not_mem_nil⟩), (List.forall_mem_cons.mpr ⟨⟨mo_23, by decide⟩, fun _ h => absurd h List.not_mem_nil⟩)⟩),
  List.forall_mem_cons.mpr ⟨(show SE G 3 31 (.inl (i_ast [(22, [3, 4, 5]), (23, [2, 3, 4, 5])] 32)) from s_aast hK (by decide +kernel) yo_G yo_U),
  List.forall_mem_cons.mpr ⟨(show SE G 3 32 (.inl (i_c 1 33)) from s_iconst (e := 1) (by decide +kernel) (by decide)),
  List.forall_mem_cons.mpr ⟨(show SE G 3 33 (.inr (.inr 1)) from ⟨(by decide +kernel), rfl⟩),
  fun _ h => absurd h List.not_mem_nil⟩⟩⟩⟩⟩⟩⟩⟩⟩⟩⟩⟩⟩⟩⟩⟩⟩⟩⟩⟩
set_option maxRecDepth 20000 in
theorem ok_l_4_0 (hK : K0 G) : ∀ q ∈ l_4_0, SE G 4 q.1 q.2 :=
  List.forall_mem_cons.mpr ⟨(show SE G 4 0 (.inl (i_il 1 1)) from s_iload_n (j := 1) (by decide +kernel)),
  List.forall_mem_cons.mpr ⟨(show SE G 4 1 (.inr (.inl (true, 1, [(0, 22)], 4))) from ⟨c_static (idx := 30) (n := 1) (k1 := 22) (by decide +kernel) ko_22 (inW 91 (by decide +kernel) (by decide +kernel)) (inW 92 (by decide +kernel) (by decide +kernel)), (List.forall_mem_cons.mpr ⟨⟨mo_22, by decide⟩, fun _ h => absurd h List.not_mem_nil⟩)⟩),
  List.forall_mem_cons.mpr ⟨(show SE G 4 4 (.inl (i_z 0 17 7)) from s_if_eq (tg := 17) (off := 13) (by decide +kernel) (by decide)),
  List.forall_mem_cons.mpr ⟨(show SE G 4 7 (.inl (i_il 2 8)) from s_iload_n (j := 2) (by decide +kernel)),
  List.forall_mem_cons.mpr ⟨(show SE G 4 8 (.inl (i_c 1 9)) from s_iconst (e := 1) (by decide +kernel) (by decide)),
  List.forall_mem_cons.mpr ⟨(show SE G 4 9 (.inl (i_cmp 2 17 12)) from s_icmp_lt (tg := 17) (off := 8) (by decide +kernel) (by decide)),
  List.forall_mem_cons.mpr ⟨(show SE G 4 12 (.inl (i_il 2 13)) from s_iload_n (j := 2) (by decide +kernel)),
  List.forall_mem_cons.mpr ⟨(show SE G 4 13 (.inl (i_c 4 14)) from s_iconst (e := 4) (by decide +kernel) (by decide)),
  List.forall_mem_cons.mpr ⟨(show SE G 4 14 (.inl (i_cmp 5 19 17)) from s_icmp_le (tg := 19) (off := 5) (by decide +kernel) (by decide)),
  List.forall_mem_cons.mpr ⟨(show SE G 4 17 (.inl (i_c (-1) 18)) from s_iconst (e := (-1)) (by decide +kernel) (by decide)),
  List.forall_mem_cons.mpr ⟨(show SE G 4 18 (.inr (.inr 0)) from ⟨(by decide +kernel), rfl⟩),
  List.forall_mem_cons.mpr ⟨(show SE G 4 19 (.inl (i_al 0 20)) from s_aload_n (j := 0) (by decide +kernel)),
  List.forall_mem_cons.mpr ⟨(show SE G 4 20 (.inl (i_c 2 21)) from s_iconst (e := 2) (by decide +kernel) (by decide)),
  List.forall_mem_cons.mpr ⟨(show SE G 4 21 (.inl (i_il 2 22)) from s_iload_n (j := 2) (by decide +kernel)),
  List.forall_mem_cons.mpr ⟨(show SE G 4 22 (.inl (i_bin (fun a b => a + b) 23)) from s_iadd (by decide +kernel)),
  List.forall_mem_cons.mpr ⟨(show SE G 4 23 (.inr (.inl (false, 2, [(1, 25)], 26))) from ⟨c_virt (idx := 43) (n := 1) hK (by decide +kernel) (List.forall_mem_cons.mpr ⟨⟨ko_25, inW 122 (by decide +kernel) (by decide +kernel), inW 124 (by decide +kernel) (by decide +kernel), 0, _, rfl, by decide, rfl, inW 1 (by decide +kernel) (by decide +kernel)⟩, fun _ h => absurd h List.not_mem_nil⟩), (List.forall_mem_cons.mpr ⟨⟨mo_25, by decide⟩, fun _ h => absurd h List.not_mem_nil⟩)⟩),
  List.forall_mem_cons.mpr ⟨(show SE G 4 26 (.inl (i_z 1 32 29)) from s_if_ne (tg := 32) (off := 6) (by decide +kernel) (by decide)),
  List.forall_mem_cons.mpr ⟨(show SE G 4 29 (.inl (i_c (-2) 31)) from s_bipush (e := (-2)) (by decide +kernel) (by decide +kernel) (by decide)),
  List.forall_mem_cons.mpr ⟨(show SE G 4 31 (.inr (.inr 0)) from ⟨(by decide +kernel), rfl⟩),
  List.forall_mem_cons.mpr ⟨(show SE G 4 32 (.inl (i_al 0 33)) from s_aload_n (j := 0) (by decide +kernel)),
  List.forall_mem_cons.mpr ⟨(show SE G 4 33 (.inl (i_il 1 34)) from s_iload_n (j := 1) (by decide +kernel)),
  List.forall_mem_cons.mpr ⟨(show SE G 4 34 (.inl (i_new 3 7 df_V 37)) from s_new (idx := 46) hK (by decide +kernel) no_4_46),
  List.forall_mem_cons.mpr ⟨(show SE G 4 37 (.inl (i_dup 38)) from s_dup (by decide +kernel)),
  List.forall_mem_cons.mpr ⟨(show SE G 4 38 (.inl (i_al 0 39)) from s_aload_n (j := 0) (by decide +kernel)),
  List.forall_mem_cons.mpr ⟨(show SE G 4 39 (.inl (i_get [1] 5 42)) from s_get (idx := 48) (kk := 5) hK (by decide +kernel) (inW 70 (by decide +kernel) (by decide +kernel)) fo_H_objectsMade),
  List.forall_mem_cons.mpr ⟨(show SE G 4 42 (.inl (i_c 1 43)) from s_iconst (e := 1) (by decide +kernel) (by decide)),
  List.forall_mem_cons.mpr ⟨(show SE G 4 43 (.inl (i_bin (fun a b => a + b) 44)) from s_iadd (by decide +kernel)),
  List.forall_mem_cons.mpr ⟨(show SE G 4 44 (.inl (i_il 2 45)) from s_iload_n (j := 2) (by decide +kernel)),
  List.forall_mem_cons.mpr ⟨(show SE G 4 45 (.inr (.inl (false, 3, [(3, 94)], 48))) from ⟨c_init (idx := 52) (n := 2) (k1 := 94) (ts := [3]) (by decide +kernel) ko_94 (inW 211 (by decide +kernel) (by decide +kernel)) (inW 212 (by decide +kernel) (by decide +kernel)) rfl rfl, (List.forall_mem_cons.mpr ⟨⟨mo_94, by decide⟩, fun _ h => absurd h List.not_mem_nil⟩)⟩),
  List.forall_mem_cons.mpr ⟨(show SE G 4 48 (.inr (.inl (false, 3, [(1, 26)], 51))) from ⟨c_virt (idx := 55) (n := 2) hK (by decide +kernel) (List.forall_mem_cons.mpr ⟨⟨ko_26, inW 247 (by decide +kernel) (by decide +kernel), inW 249 (by decide +kernel) (by decide +kernel), 0, _, rfl, by decide, rfl, inW 10 (by decide +kernel) (by decide +kernel)⟩, fun _ h => absurd h List.not_mem_nil⟩), (List.forall_mem_cons.mpr ⟨⟨mo_26, by decide⟩, fun _ h => absurd h List.not_mem_nil⟩)⟩),
  fun _ h => absurd h List.not_mem_nil⟩⟩⟩⟩⟩⟩⟩⟩⟩⟩⟩⟩⟩⟩⟩⟩⟩⟩⟩⟩⟩⟩⟩⟩⟩⟩⟩⟩⟩⟩
set_option maxRecDepth 20000 in
theorem ok_l_4_1 (hK : K0 G) : ∀ q ∈ l_4_1, SE G 4 q.1 q.2 :=
  List.forall_mem_cons.mpr ⟨(show SE G 4 51 (.inr (.inr 0)) from ⟨(by decide +kernel), rfl⟩),
  fun _ h => absurd h List.not_mem_nil⟩
theorem ok_l_4 (hK : K0 G) : ∀ q ∈ l_4, SE G 4 q.1 q.2 := by
  show ∀ q ∈ l_4_0 ++ (l_4_1), SE G 4 q.1 q.2
  exact List.forall_mem_append.mpr ⟨ok_l_4_0 hK, ok_l_4_1 hK⟩
set_option maxRecDepth 20000 in
theorem ok_l_5 (hK : K0 G) : ∀ q ∈ l_5, SE G 5 q.1 q.2 :=
  List.forall_mem_cons.mpr ⟨(show SE G 5 0 (.inl (i_al 0 1)) from s_aload_n (j := 0) (by decide +kernel)),
  List.forall_mem_cons.mpr ⟨(show SE G 5 1 (.inl (i_il 2 2)) from s_iload_n (j := 2) (by decide +kernel)),
  List.forall_mem_cons.mpr ⟨(show SE G 5 2 (.inr (.inl (false, 2, [(1, 24)], 5))) from ⟨c_virt (idx := 59) (n := 1) hK (by decide +kernel) (List.forall_mem_cons.mpr ⟨⟨ko_24, inW 255 (by decide +kernel) (by decide +kernel), inW 257 (by decide +kernel) (by decide +kernel), 0, _, rfl, by decide, rfl, inW 11 (by decide +kernel) (by decide +kernel)⟩, fun _ h => absurd h List.not_mem_nil⟩), (List.forall_mem_cons.mpr ⟨⟨mo_24, by decide⟩, fun _ h => absurd h List.not_mem_nil⟩)⟩),
  List.forall_mem_cons.mpr ⟨(show SE G 5 5 (.inl (i_as 3 6)) from s_astore_n (j := 3) (by decide +kernel) (by decide)),
  List.forall_mem_cons.mpr ⟨(show SE G 5 6 (.inl (i_il 1 7)) from s_iload_n (j := 1) (by decide +kernel)),
  List.forall_mem_cons.mpr ⟨(show SE G 5 7 (.inr (.inl (true, 1, [(0, 22)], 10))) from ⟨c_static (idx := 30) (n := 1) (k1 := 22) (by decide +kernel) ko_22 (inW 91 (by decide +kernel) (by decide +kernel)) (inW 92 (by decide +kernel) (by decide +kernel)), (List.forall_mem_cons.mpr ⟨⟨mo_22, by decide⟩, fun _ h => absurd h List.not_mem_nil⟩)⟩),
  List.forall_mem_cons.mpr ⟨(show SE G 5 10 (.inl (i_z 0 17 13)) from s_if_eq (tg := 17) (off := 7) (by decide +kernel) (by decide)),
  List.forall_mem_cons.mpr ⟨(show SE G 5 13 (.inl (i_al 3 14)) from s_aload_n (j := 3) (by decide +kernel)),
  List.forall_mem_cons.mpr ⟨(show SE G 5 14 (.inl (i_nul 17 19)) from s_ifnonnull (tg := 19) (off := 5) (by decide +kernel) (by decide)),
  List.forall_mem_cons.mpr ⟨(show SE G 5 17 (.inl (i_c (-1) 18)) from s_iconst (e := (-1)) (by decide +kernel) (by decide)),
  List.forall_mem_cons.mpr ⟨(show SE G 5 18 (.inr (.inr 0)) from ⟨(by decide +kernel), rfl⟩),
  List.forall_mem_cons.mpr ⟨(show SE G 5 19 (.inl (i_al 0 20)) from s_aload_n (j := 0) (by decide +kernel)),
  List.forall_mem_cons.mpr ⟨(show SE G 5 20 (.inl (i_c 3 21)) from s_iconst (e := 3) (by decide +kernel) (by decide)),
  List.forall_mem_cons.mpr ⟨(show SE G 5 21 (.inr (.inl (false, 2, [(1, 25)], 24))) from ⟨c_virt (idx := 43) (n := 1) hK (by decide +kernel) (List.forall_mem_cons.mpr ⟨⟨ko_25, inW 122 (by decide +kernel) (by decide +kernel), inW 124 (by decide +kernel) (by decide +kernel), 0, _, rfl, by decide, rfl, inW 1 (by decide +kernel) (by decide +kernel)⟩, fun _ h => absurd h List.not_mem_nil⟩), (List.forall_mem_cons.mpr ⟨⟨mo_25, by decide⟩, fun _ h => absurd h List.not_mem_nil⟩)⟩),
  List.forall_mem_cons.mpr ⟨(show SE G 5 24 (.inl (i_z 1 30 27)) from s_if_ne (tg := 30) (off := 6) (by decide +kernel) (by decide)),
  List.forall_mem_cons.mpr ⟨(show SE G 5 27 (.inl (i_c (-2) 29)) from s_bipush (e := (-2)) (by decide +kernel) (by decide +kernel) (by decide)),
  List.forall_mem_cons.mpr ⟨(show SE G 5 29 (.inr (.inr 0)) from ⟨(by decide +kernel), rfl⟩),
  List.forall_mem_cons.mpr ⟨(show SE G 5 30 (.inl (i_al 0 31)) from s_aload_n (j := 0) (by decide +kernel)),
  List.forall_mem_cons.mpr ⟨(show SE G 5 31 (.inl (i_il 1 32)) from s_iload_n (j := 1) (by decide +kernel)),
  List.forall_mem_cons.mpr ⟨(show SE G 5 32 (.inl (i_new 4 7 df_K 35)) from s_new (idx := 63) hK (by decide +kernel) no_5_63),
  List.forall_mem_cons.mpr ⟨(show SE G 5 35 (.inl (i_dup 36)) from s_dup (by decide +kernel)),
  List.forall_mem_cons.mpr ⟨(show SE G 5 36 (.inl (i_al 0 37)) from s_aload_n (j := 0) (by decide +kernel)),
  List.forall_mem_cons.mpr ⟨(show SE G 5 37 (.inl (i_get [1] 5 40)) from s_get (idx := 48) (kk := 5) hK (by decide +kernel) (inW 70 (by decide +kernel) (by decide +kernel)) fo_H_objectsMade),
  List.forall_mem_cons.mpr ⟨(show SE G 5 40 (.inl (i_c 1 41)) from s_iconst (e := 1) (by decide +kernel) (by decide)),
  List.forall_mem_cons.mpr ⟨(show SE G 5 41 (.inl (i_bin (fun a b => a + b) 42)) from s_iadd (by decide +kernel)),
  List.forall_mem_cons.mpr ⟨(show SE G 5 42 (.inl (i_al 3 43)) from s_aload_n (j := 3) (by decide +kernel)),
  List.forall_mem_cons.mpr ⟨(show SE G 5 43 (.inr (.inl (false, 3, [(4, 100)], 46))) from ⟨c_init (idx := 65) (n := 2) (k1 := 100) (ts := [4]) (by decide +kernel) ko_100 (inW 261 (by decide +kernel) (by decide +kernel)) (inW 262 (by decide +kernel) (by decide +kernel)) rfl rfl, (List.forall_mem_cons.mpr ⟨⟨mo_100, by decide⟩, fun _ h => absurd h List.not_mem_nil⟩)⟩),
  List.forall_mem_cons.mpr ⟨(show SE G 5 46 (.inr (.inl (false, 3, [(1, 26)], 49))) from ⟨c_virt (idx := 55) (n := 2) hK (by decide +kernel) (List.forall_mem_cons.mpr ⟨⟨ko_26, inW 247 (by decide +kernel) (by decide +kernel), inW 249 (by decide +kernel) (by decide +kernel), 0, _, rfl, by decide, rfl, inW 10 (by decide +kernel) (by decide +kernel)⟩, fun _ h => absurd h List.not_mem_nil⟩), (List.forall_mem_cons.mpr ⟨⟨mo_26, by decide⟩, fun _ h => absurd h List.not_mem_nil⟩)⟩),
  List.forall_mem_cons.mpr ⟨(show SE G 5 49 (.inr (.inr 0)) from ⟨(by decide +kernel), rfl⟩),
  fun _ h => absurd h List.not_mem_nil⟩⟩⟩⟩⟩⟩⟩⟩⟩⟩⟩⟩⟩⟩⟩⟩⟩⟩⟩⟩⟩⟩⟩⟩⟩⟩⟩⟩⟩
set_option maxRecDepth 20000 in
theorem ok_l_6 (hK : K0 G) : ∀ q ∈ l_6, SE G 6 q.1 q.2 :=
  List.forall_mem_cons.mpr ⟨(show SE G 6 0 (.inl (i_il 1 1)) from s_iload_n (j := 1) (by decide +kernel)),
  List.forall_mem_cons.mpr ⟨(show SE G 6 1 (.inr (.inl (true, 1, [(0, 22)], 4))) from ⟨c_static (idx := 30) (n := 1) (k1 := 22) (by decide +kernel) ko_22 (inW 91 (by decide +kernel) (by decide +kernel)) (inW 92 (by decide +kernel) (by decide +kernel)), (List.forall_mem_cons.mpr ⟨⟨mo_22, by decide⟩, fun _ h => absurd h List.not_mem_nil⟩)⟩),
  List.forall_mem_cons.mpr ⟨(show SE G 6 4 (.inl (i_z 1 9 7)) from s_if_ne (tg := 9) (off := 5) (by decide +kernel) (by decide)),
  List.forall_mem_cons.mpr ⟨(show SE G 6 7 (.inl (i_c (-1) 8)) from s_iconst (e := (-1)) (by decide +kernel) (by decide)),
  List.forall_mem_cons.mpr ⟨(show SE G 6 8 (.inr (.inr 0)) from ⟨(by decide +kernel), rfl⟩),
  List.forall_mem_cons.mpr ⟨(show SE G 6 9 (.inl (i_al 0 10)) from s_aload_n (j := 0) (by decide +kernel)),
  List.forall_mem_cons.mpr ⟨(show SE G 6 10 (.inl (i_c 8 12)) from s_bipush (e := 8) (by decide +kernel) (by decide +kernel) (by decide)),
  List.forall_mem_cons.mpr ⟨(show SE G 6 12 (.inr (.inl (false, 2, [(1, 25)], 15))) from ⟨c_virt (idx := 43) (n := 1) hK (by decide +kernel) (List.forall_mem_cons.mpr ⟨⟨ko_25, inW 122 (by decide +kernel) (by decide +kernel), inW 124 (by decide +kernel) (by decide +kernel), 0, _, rfl, by decide, rfl, inW 1 (by decide +kernel) (by decide +kernel)⟩, fun _ h => absurd h List.not_mem_nil⟩), (List.forall_mem_cons.mpr ⟨⟨mo_25, by decide⟩, fun _ h => absurd h List.not_mem_nil⟩)⟩),
  List.forall_mem_cons.mpr ⟨(show SE G 6 15 (.inl (i_z 1 21 18)) from s_if_ne (tg := 21) (off := 6) (by decide +kernel) (by decide)),
  List.forall_mem_cons.mpr ⟨(show SE G 6 18 (.inl (i_c (-2) 20)) from s_bipush (e := (-2)) (by decide +kernel) (by decide +kernel) (by decide)),
  List.forall_mem_cons.mpr ⟨(show SE G 6 20 (.inr (.inr 0)) from ⟨(by decide +kernel), rfl⟩),
  List.forall_mem_cons.mpr ⟨(show SE G 6 21 (.inl (i_al 0 22)) from s_aload_n (j := 0) (by decide +kernel)),
  List.forall_mem_cons.mpr ⟨(show SE G 6 22 (.inl (i_il 1 23)) from s_iload_n (j := 1) (by decide +kernel)),
  List.forall_mem_cons.mpr ⟨(show SE G 6 23 (.inl (i_new 5 9 df_T 26)) from s_new (idx := 68) hK (by decide +kernel) no_6_68),
  List.forall_mem_cons.mpr ⟨(show SE G 6 26 (.inl (i_dup 27)) from s_dup (by decide +kernel)),
  List.forall_mem_cons.mpr ⟨(show SE G 6 27 (.inl (i_al 0 28)) from s_aload_n (j := 0) (by decide +kernel)),
  List.forall_mem_cons.mpr ⟨(show SE G 6 28 (.inl (i_get [1] 5 31)) from s_get (idx := 48) (kk := 5) hK (by decide +kernel) (inW 70 (by decide +kernel) (by decide +kernel)) fo_H_objectsMade),
  List.forall_mem_cons.mpr ⟨(show SE G 6 31 (.inl (i_c 1 32)) from s_iconst (e := 1) (by decide +kernel) (by decide)),
  List.forall_mem_cons.mpr ⟨(show SE G 6 32 (.inl (i_bin (fun a b => a + b) 33)) from s_iadd (by decide +kernel)),
  List.forall_mem_cons.mpr ⟨(show SE G 6 33 (.inr (.inl (false, 2, [(5, 84)], 36))) from ⟨c_init (idx := 70) (n := 1) (k1 := 84) (ts := [5]) (by decide +kernel) ko_84 (inW 282 (by decide +kernel) (by decide +kernel)) (inW 283 (by decide +kernel) (by decide +kernel)) rfl rfl, (List.forall_mem_cons.mpr ⟨⟨mo_84, by decide⟩, fun _ h => absurd h List.not_mem_nil⟩)⟩),
  List.forall_mem_cons.mpr ⟨(show SE G 6 36 (.inr (.inl (false, 3, [(1, 26)], 39))) from ⟨c_virt (idx := 55) (n := 2) hK (by decide +kernel) (List.forall_mem_cons.mpr ⟨⟨ko_26, inW 247 (by decide +kernel) (by decide +kernel), inW 249 (by decide +kernel) (by decide +kernel), 0, _, rfl, by decide, rfl, inW 10 (by decide +kernel) (by decide +kernel)⟩, fun _ h => absurd h List.not_mem_nil⟩), (List.forall_mem_cons.mpr ⟨⟨mo_26, by decide⟩, fun _ h => absurd h List.not_mem_nil⟩)⟩),
  List.forall_mem_cons.mpr ⟨(show SE G 6 39 (.inr (.inr 0)) from ⟨(by decide +kernel), rfl⟩),
  fun _ h => absurd h List.not_mem_nil⟩⟩⟩⟩⟩⟩⟩⟩⟩⟩⟩⟩⟩⟩⟩⟩⟩⟩⟩⟩⟩⟩
set_option maxRecDepth 20000 in
theorem ok_l_7 (hK : K0 G) : ∀ q ∈ l_7, SE G 7 q.1 q.2 :=
  List.forall_mem_cons.mpr ⟨(show SE G 7 0 (.inl (i_il 3 1)) from s_iload_n (j := 3) (by decide +kernel)),
  List.forall_mem_cons.mpr ⟨(show SE G 7 1 (.inr (.inl (true, 1, [(0, 22)], 4))) from ⟨c_static (idx := 30) (n := 1) (k1 := 22) (by decide +kernel) ko_22 (inW 91 (by decide +kernel) (by decide +kernel)) (inW 92 (by decide +kernel) (by decide +kernel)), (List.forall_mem_cons.mpr ⟨⟨mo_22, by decide⟩, fun _ h => absurd h List.not_mem_nil⟩)⟩),
  List.forall_mem_cons.mpr ⟨(show SE G 7 4 (.inl (i_z 1 9 7)) from s_if_ne (tg := 9) (off := 5) (by decide +kernel) (by decide)),
  List.forall_mem_cons.mpr ⟨(show SE G 7 7 (.inl (i_c 0 8)) from s_iconst (e := 0) (by decide +kernel) (by decide)),
  List.forall_mem_cons.mpr ⟨(show SE G 7 8 (.inr (.inr 1)) from ⟨(by decide +kernel), rfl⟩),
  List.forall_mem_cons.mpr ⟨(show SE G 7 9 (.inl (i_al 0 10)) from s_aload_n (j := 0) (by decide +kernel)),
  List.forall_mem_cons.mpr ⟨(show SE G 7 10 (.inl (i_il 1 11)) from s_iload_n (j := 1) (by decide +kernel)),
  List.forall_mem_cons.mpr ⟨(show SE G 7 11 (.inr (.inl (false, 2, [(1, 23)], 14))) from ⟨c_virt (idx := 39) (n := 1) hK (by decide +kernel) (List.forall_mem_cons.mpr ⟨⟨ko_23, inW 114 (by decide +kernel) (by decide +kernel), inW 116 (by decide +kernel) (by decide +kernel), 0, _, rfl, by decide, rfl, inW 0 (by decide +kernel) (by decide +kernel)⟩, fun _ h => absurd h List.not_mem_nil⟩), (List.forall_mem_cons.mpr ⟨⟨mo_23, by decide⟩, fun _ h => absurd h List.not_mem_nil⟩)⟩),
  List.forall_mem_cons.mpr ⟨(show SE G 7 14 (.inl (i_as 5 16)) from s_astore (j := 5) (by decide +kernel) (by decide)),
  List.forall_mem_cons.mpr ⟨(show SE G 7 16 (.inl (i_al 5 18)) from s_aload (j := 5) (by decide +kernel)),
  List.forall_mem_cons.mpr ⟨(show SE G 7 18 (.inl (i_ins [3] [2, 4, 5] 21)) from s_inst (idx := 46) (E := "ResurrectingHeap$Vector") hK (by decide +kernel) (inW 209 (by decide +kernel) (by decide +kernel)) yo_V zo_V),
  List.forall_mem_cons.mpr ⟨(show SE G 7 21 (.inl (i_z 0 54 24)) from s_if_eq (tg := 54) (off := 33) (by decide +kernel) (by decide)),
  List.forall_mem_cons.mpr ⟨(show SE G 7 24 (.inl (i_al 5 26)) from s_aload (j := 5) (by decide +kernel)),
  List.forall_mem_cons.mpr ⟨(show SE G 7 26 (.inl (i_cst [3] 29)) from s_cast (idx := 46) (E := "ResurrectingHeap$Vector") hK (by decide +kernel) (inW 209 (by decide +kernel) (by decide +kernel)) yo_V),
  List.forall_mem_cons.mpr ⟨(show SE G 7 29 (.inl (i_as 4 31)) from s_astore (j := 4) (by decide +kernel) (by decide)),
  List.forall_mem_cons.mpr ⟨(show SE G 7 31 (.inl (i_al 4 33)) from s_aload (j := 4) (by decide +kernel)),
  List.forall_mem_cons.mpr ⟨(show SE G 7 33 (.inl (i_il 2 34)) from s_iload_n (j := 2) (by decide +kernel)),
  List.forall_mem_cons.mpr ⟨(show SE G 7 34 (.inr (.inl (false, 2, [(3, 95)], 37))) from ⟨c_virt (idx := 71) (n := 1) hK (by decide +kernel) (List.forall_mem_cons.mpr ⟨⟨ko_95, inW 308 (by decide +kernel) (by decide +kernel), inW 309 (by decide +kernel) (by decide +kernel), 2, _, rfl, by decide, rfl, inW 310 (by decide +kernel) (by decide +kernel)⟩, fun _ h => absurd h List.not_mem_nil⟩), (List.forall_mem_cons.mpr ⟨⟨mo_95, by decide⟩, fun _ h => absurd h List.not_mem_nil⟩)⟩),
  List.forall_mem_cons.mpr ⟨(show SE G 7 37 (.inl (i_z 0 54 40)) from s_if_eq (tg := 54) (off := 17) (by decide +kernel) (by decide)),
  List.forall_mem_cons.mpr ⟨(show SE G 7 40 (.inl (i_al 4 42)) from s_aload (j := 4) (by decide +kernel)),
  List.forall_mem_cons.mpr ⟨(show SE G 7 42 (.inl (i_get [3] 6 45)) from s_get (idx := 74) (kk := 6) hK (by decide +kernel) (inW 220 (by decide +kernel) (by decide +kernel)) fo_V_fields),
  List.forall_mem_cons.mpr ⟨(show SE G 7 45 (.inl (i_il 2 46)) from s_iload_n (j := 2) (by decide +kernel)),
  List.forall_mem_cons.mpr ⟨(show SE G 7 46 (.inl (i_al 0 47)) from s_aload_n (j := 0) (by decide +kernel)),
  List.forall_mem_cons.mpr ⟨(show SE G 7 47 (.inl (i_il 3 48)) from s_iload_n (j := 3) (by decide +kernel)),
  List.forall_mem_cons.mpr ⟨(show SE G 7 48 (.inr (.inl (false, 2, [(1, 23)], 51))) from ⟨c_virt (idx := 39) (n := 1) hK (by decide +kernel) (List.forall_mem_cons.mpr ⟨⟨ko_23, inW 114 (by decide +kernel) (by decide +kernel), inW 116 (by decide +kernel) (by decide +kernel), 0, _, rfl, by decide, rfl, inW 0 (by decide +kernel) (by decide +kernel)⟩, fun _ h => absurd h List.not_mem_nil⟩), (List.forall_mem_cons.mpr ⟨⟨mo_23, by decide⟩, fun _ h => absurd h List.not_mem_nil⟩)⟩),
  List.forall_mem_cons.mpr ⟨(show SE G 7 51 (.inl (i_ast [(22, [3, 4, 5]), (23, [2, 3, 4, 5])] 52)) from s_aast hK (by decide +kernel) yo_G yo_U),
  List.forall_mem_cons.mpr ⟨(show SE G 7 52 (.inl (i_c 1 53)) from s_iconst (e := 1) (by decide +kernel) (by decide)),
  List.forall_mem_cons.mpr ⟨(show SE G 7 53 (.inr (.inr 1)) from ⟨(by decide +kernel), rfl⟩),
  List.forall_mem_cons.mpr ⟨(show SE G 7 54 (.inl (i_c 0 55)) from s_iconst (e := 0) (by decide +kernel) (by decide)),
  List.forall_mem_cons.mpr ⟨(show SE G 7 55 (.inr (.inr 1)) from ⟨(by decide +kernel), rfl⟩),
  fun _ h => absurd h List.not_mem_nil⟩⟩⟩⟩⟩⟩⟩⟩⟩⟩⟩⟩⟩⟩⟩⟩⟩⟩⟩⟩⟩⟩⟩⟩⟩⟩⟩⟩⟩⟩
set_option maxRecDepth 20000 in
theorem ok_l_8_0 (hK : K0 G) : ∀ q ∈ l_8_0, SE G 8 q.1 q.2 :=
  List.forall_mem_cons.mpr ⟨(show SE G 8 0 (.inl (i_il 1 1)) from s_iload_n (j := 1) (by decide +kernel)),
  List.forall_mem_cons.mpr ⟨(show SE G 8 1 (.inr (.inl (true, 1, [(0, 22)], 4))) from ⟨c_static (idx := 30) (n := 1) (k1 := 22) (by decide +kernel) ko_22 (inW 91 (by decide +kernel) (by decide +kernel)) (inW 92 (by decide +kernel) (by decide +kernel)), (List.forall_mem_cons.mpr ⟨⟨mo_22, by decide⟩, fun _ h => absurd h List.not_mem_nil⟩)⟩),
  List.forall_mem_cons.mpr ⟨(show SE G 8 4 (.inl (i_z 1 9 7)) from s_if_ne (tg := 9) (off := 5) (by decide +kernel) (by decide)),
  List.forall_mem_cons.mpr ⟨(show SE G 8 7 (.inl (i_c 0 8)) from s_iconst (e := 0) (by decide +kernel) (by decide)),
  List.forall_mem_cons.mpr ⟨(show SE G 8 8 (.inr (.inr 1)) from ⟨(by decide +kernel), rfl⟩),
  List.forall_mem_cons.mpr ⟨(show SE G 8 9 (.inl (i_al 0 10)) from s_aload_n (j := 0) (by decide +kernel)),
  List.forall_mem_cons.mpr ⟨(show SE G 8 10 (.inl (i_il 2 11)) from s_iload_n (j := 2) (by decide +kernel)),
  List.forall_mem_cons.mpr ⟨(show SE G 8 11 (.inr (.inl (false, 2, [(1, 23)], 14))) from ⟨c_virt (idx := 39) (n := 1) hK (by decide +kernel) (List.forall_mem_cons.mpr ⟨⟨ko_23, inW 114 (by decide +kernel) (by decide +kernel), inW 116 (by decide +kernel) (by decide +kernel), 0, _, rfl, by decide, rfl, inW 0 (by decide +kernel) (by decide +kernel)⟩, fun _ h => absurd h List.not_mem_nil⟩), (List.forall_mem_cons.mpr ⟨⟨mo_23, by decide⟩, fun _ h => absurd h List.not_mem_nil⟩)⟩),
  List.forall_mem_cons.mpr ⟨(show SE G 8 14 (.inl (i_as 4 16)) from s_astore (j := 4) (by decide +kernel) (by decide)),
  List.forall_mem_cons.mpr ⟨(show SE G 8 16 (.inl (i_al 4 18)) from s_aload (j := 4) (by decide +kernel)),
  List.forall_mem_cons.mpr ⟨(show SE G 8 18 (.inl (i_ins [3] [2, 4, 5] 21)) from s_inst (idx := 46) (E := "ResurrectingHeap$Vector") hK (by decide +kernel) (inW 209 (by decide +kernel) (by decide +kernel)) yo_V zo_V),
  List.forall_mem_cons.mpr ⟨(show SE G 8 21 (.inl (i_z 0 55 24)) from s_if_eq (tg := 55) (off := 34) (by decide +kernel) (by decide)),
  List.forall_mem_cons.mpr ⟨(show SE G 8 24 (.inl (i_al 4 26)) from s_aload (j := 4) (by decide +kernel)),
  List.forall_mem_cons.mpr ⟨(show SE G 8 26 (.inl (i_cst [3] 29)) from s_cast (idx := 46) (E := "ResurrectingHeap$Vector") hK (by decide +kernel) (inW 209 (by decide +kernel) (by decide +kernel)) yo_V),
  List.forall_mem_cons.mpr ⟨(show SE G 8 29 (.inl (i_as 5 31)) from s_astore (j := 5) (by decide +kernel) (by decide)),
  List.forall_mem_cons.mpr ⟨(show SE G 8 31 (.inl (i_al 5 33)) from s_aload (j := 5) (by decide +kernel)),
  List.forall_mem_cons.mpr ⟨(show SE G 8 33 (.inl (i_il 3 34)) from s_iload_n (j := 3) (by decide +kernel)),
  List.forall_mem_cons.mpr ⟨(show SE G 8 34 (.inr (.inl (false, 2, [(3, 95)], 37))) from ⟨c_virt (idx := 71) (n := 1) hK (by decide +kernel) (List.forall_mem_cons.mpr ⟨⟨ko_95, inW 308 (by decide +kernel) (by decide +kernel), inW 309 (by decide +kernel) (by decide +kernel), 2, _, rfl, by decide, rfl, inW 310 (by decide +kernel) (by decide +kernel)⟩, fun _ h => absurd h List.not_mem_nil⟩), (List.forall_mem_cons.mpr ⟨⟨mo_95, by decide⟩, fun _ h => absurd h List.not_mem_nil⟩)⟩),
  List.forall_mem_cons.mpr ⟨(show SE G 8 37 (.inl (i_z 0 55 40)) from s_if_eq (tg := 55) (off := 18) (by decide +kernel) (by decide)),
  List.forall_mem_cons.mpr ⟨(show SE G 8 40 (.inl (i_al 0 41)) from s_aload_n (j := 0) (by decide +kernel)),
  List.forall_mem_cons.mpr ⟨(show SE G 8 41 (.inl (i_get [1] 0 44)) from s_get (idx := 11) (kk := 0) hK (by decide +kernel) (inW 65 (by decide +kernel) (by decide +kernel)) fo_H_variables),
  List.forall_mem_cons.mpr ⟨(show SE G 8 44 (.inl (i_il 1 45)) from s_iload_n (j := 1) (by decide +kernel)),
  List.forall_mem_cons.mpr ⟨(show SE G 8 45 (.inl (i_al 5 47)) from s_aload (j := 5) (by decide +kernel)),
  List.forall_mem_cons.mpr ⟨(show SE G 8 47 (.inl (i_get [3] 6 50)) from s_get (idx := 74) (kk := 6) hK (by decide +kernel) (inW 220 (by decide +kernel) (by decide +kernel)) fo_V_fields),
  List.forall_mem_cons.mpr ⟨(show SE G 8 50 (.inl (i_il 3 51)) from s_iload_n (j := 3) (by decide +kernel)),
  List.forall_mem_cons.mpr ⟨(show SE G 8 51 (.inl (i_ld [22, 23] 52)) from s_aald hK (by decide +kernel)),
  List.forall_mem_cons.mpr ⟨(show SE G 8 52 (.inl (i_ast [(22, [3, 4, 5]), (23, [2, 3, 4, 5])] 53)) from s_aast hK (by decide +kernel) yo_G yo_U),
  List.forall_mem_cons.mpr ⟨(show SE G 8 53 (.inl (i_c 1 54)) from s_iconst (e := 1) (by decide +kernel) (by decide)),
  List.forall_mem_cons.mpr ⟨(show SE G 8 54 (.inr (.inr 1)) from ⟨(by decide +kernel), rfl⟩),
  List.forall_mem_cons.mpr ⟨(show SE G 8 55 (.inl (i_al 4 57)) from s_aload (j := 4) (by decide +kernel)),
  fun _ h => absurd h List.not_mem_nil⟩⟩⟩⟩⟩⟩⟩⟩⟩⟩⟩⟩⟩⟩⟩⟩⟩⟩⟩⟩⟩⟩⟩⟩⟩⟩⟩⟩⟩⟩
set_option maxRecDepth 20000 in
theorem ok_l_8_1 (hK : K0 G) : ∀ q ∈ l_8_1, SE G 8 q.1 q.2 :=
  List.forall_mem_cons.mpr ⟨(show SE G 8 57 (.inl (i_ins [4] [2, 3, 5] 60)) from s_inst (idx := 63) (E := "ResurrectingHeap$Weak") hK (by decide +kernel) (inW 259 (by decide +kernel) (by decide +kernel)) yo_K zo_K),
  List.forall_mem_cons.mpr ⟨(show SE G 8 60 (.inl (i_z 0 87 63)) from s_if_eq (tg := 87) (off := 27) (by decide +kernel) (by decide)),
  List.forall_mem_cons.mpr ⟨(show SE G 8 63 (.inl (i_al 4 65)) from s_aload (j := 4) (by decide +kernel)),
  List.forall_mem_cons.mpr ⟨(show SE G 8 65 (.inl (i_cst [4] 68)) from s_cast (idx := 63) (E := "ResurrectingHeap$Weak") hK (by decide +kernel) (inW 259 (by decide +kernel) (by decide +kernel)) yo_K),
  List.forall_mem_cons.mpr ⟨(show SE G 8 68 (.inl (i_as 5 70)) from s_astore (j := 5) (by decide +kernel) (by decide)),
  List.forall_mem_cons.mpr ⟨(show SE G 8 70 (.inl (i_il 3 71)) from s_iload_n (j := 3) (by decide +kernel)),
  List.forall_mem_cons.mpr ⟨(show SE G 8 71 (.inl (i_z 1 87 74)) from s_if_ne (tg := 87) (off := 16) (by decide +kernel) (by decide)),
  List.forall_mem_cons.mpr ⟨(show SE G 8 74 (.inl (i_al 0 75)) from s_aload_n (j := 0) (by decide +kernel)),
  List.forall_mem_cons.mpr ⟨(show SE G 8 75 (.inl (i_get [1] 0 78)) from s_get (idx := 11) (kk := 0) hK (by decide +kernel) (inW 65 (by decide +kernel) (by decide +kernel)) fo_H_variables),
  List.forall_mem_cons.mpr ⟨(show SE G 8 78 (.inl (i_il 1 79)) from s_iload_n (j := 1) (by decide +kernel)),
  List.forall_mem_cons.mpr ⟨(show SE G 8 79 (.inl (i_al 5 81)) from s_aload (j := 5) (by decide +kernel)),
  List.forall_mem_cons.mpr ⟨(show SE G 8 81 (.inl (i_get [4] 6 84)) from s_get (idx := 77) (kk := 6) hK (by decide +kernel) (inW 266 (by decide +kernel) (by decide +kernel)) fo_K_target),
  List.forall_mem_cons.mpr ⟨(show SE G 8 84 (.inl (i_ast [(22, [3, 4, 5]), (23, [2, 3, 4, 5])] 85)) from s_aast hK (by decide +kernel) yo_G yo_U),
  List.forall_mem_cons.mpr ⟨(show SE G 8 85 (.inl (i_c 1 86)) from s_iconst (e := 1) (by decide +kernel) (by decide)),
  List.forall_mem_cons.mpr ⟨(show SE G 8 86 (.inr (.inr 1)) from ⟨(by decide +kernel), rfl⟩),
  List.forall_mem_cons.mpr ⟨(show SE G 8 87 (.inl (i_c 0 88)) from s_iconst (e := 0) (by decide +kernel) (by decide)),
  List.forall_mem_cons.mpr ⟨(show SE G 8 88 (.inr (.inr 1)) from ⟨(by decide +kernel), rfl⟩),
  fun _ h => absurd h List.not_mem_nil⟩⟩⟩⟩⟩⟩⟩⟩⟩⟩⟩⟩⟩⟩⟩⟩⟩
theorem ok_l_8 (hK : K0 G) : ∀ q ∈ l_8, SE G 8 q.1 q.2 := by
  show ∀ q ∈ l_8_0 ++ (l_8_1), SE G 8 q.1 q.2
  exact List.forall_mem_append.mpr ⟨ok_l_8_0 hK, ok_l_8_1 hK⟩
set_option maxRecDepth 20000 in
theorem ok_l_9_0 (hK : K0 G) : ∀ q ∈ l_9_0, SE G 9 q.1 q.2 :=
  List.forall_mem_cons.mpr ⟨(show SE G 9 0 (.inl (i_al 0 1)) from s_aload_n (j := 0) (by decide +kernel)),
  List.forall_mem_cons.mpr ⟨(show SE G 9 1 (.inl (i_il 2 2)) from s_iload_n (j := 2) (by decide +kernel)),
  List.forall_mem_cons.mpr ⟨(show SE G 9 2 (.inr (.inl (false, 2, [(1, 24)], 5))) from ⟨c_virt (idx := 59) (n := 1) hK (by decide +kernel) (List.forall_mem_cons.mpr ⟨⟨ko_24, inW 255 (by decide +kernel) (by decide +kernel), inW 257 (by decide +kernel) (by decide +kernel), 0, _, rfl, by decide, rfl, inW 11 (by decide +kernel) (by decide +kernel)⟩, fun _ h => absurd h List.not_mem_nil⟩), (List.forall_mem_cons.mpr ⟨⟨mo_24, by decide⟩, fun _ h => absurd h List.not_mem_nil⟩)⟩),
  List.forall_mem_cons.mpr ⟨(show SE G 9 5 (.inl (i_as 4 7)) from s_astore (j := 4) (by decide +kernel) (by decide)),
  List.forall_mem_cons.mpr ⟨(show SE G 9 7 (.inl (i_il 3 8)) from s_iload_n (j := 3) (by decide +kernel)),
  List.forall_mem_cons.mpr ⟨(show SE G 9 8 (.inr (.inl (true, 1, [(0, 22)], 11))) from ⟨c_static (idx := 30) (n := 1) (k1 := 22) (by decide +kernel) ko_22 (inW 91 (by decide +kernel) (by decide +kernel)) (inW 92 (by decide +kernel) (by decide +kernel)), (List.forall_mem_cons.mpr ⟨⟨mo_22, by decide⟩, fun _ h => absurd h List.not_mem_nil⟩)⟩),
  List.forall_mem_cons.mpr ⟨(show SE G 9 11 (.inl (i_z 0 19 14)) from s_if_eq (tg := 19) (off := 8) (by decide +kernel) (by decide)),
  List.forall_mem_cons.mpr ⟨(show SE G 9 14 (.inl (i_al 4 16)) from s_aload (j := 4) (by decide +kernel)),
  List.forall_mem_cons.mpr ⟨(show SE G 9 16 (.inl (i_nul 19 21)) from s_ifnonnull (tg := 21) (off := 5) (by decide +kernel) (by decide)),
  List.forall_mem_cons.mpr ⟨(show SE G 9 19 (.inl (i_c 0 20)) from s_iconst (e := 0) (by decide +kernel) (by decide)),
  List.forall_mem_cons.mpr ⟨(show SE G 9 20 (.inr (.inr 1)) from ⟨(by decide +kernel), rfl⟩),
  List.forall_mem_cons.mpr ⟨(show SE G 9 21 (.inl (i_al 0 22)) from s_aload_n (j := 0) (by decide +kernel)),
  List.forall_mem_cons.mpr ⟨(show SE G 9 22 (.inl (i_il 1 23)) from s_iload_n (j := 1) (by decide +kernel)),
  List.forall_mem_cons.mpr ⟨(show SE G 9 23 (.inr (.inl (false, 2, [(1, 23)], 26))) from ⟨c_virt (idx := 39) (n := 1) hK (by decide +kernel) (List.forall_mem_cons.mpr ⟨⟨ko_23, inW 114 (by decide +kernel) (by decide +kernel), inW 116 (by decide +kernel) (by decide +kernel), 0, _, rfl, by decide, rfl, inW 0 (by decide +kernel) (by decide +kernel)⟩, fun _ h => absurd h List.not_mem_nil⟩), (List.forall_mem_cons.mpr ⟨⟨mo_23, by decide⟩, fun _ h => absurd h List.not_mem_nil⟩)⟩),
  List.forall_mem_cons.mpr ⟨(show SE G 9 26 (.inl (i_as 6 28)) from s_astore (j := 6) (by decide +kernel) (by decide)),
  List.forall_mem_cons.mpr ⟨(show SE G 9 28 (.inl (i_al 6 30)) from s_aload (j := 6) (by decide +kernel)),
  List.forall_mem_cons.mpr ⟨(show SE G 9 30 (.inl (i_ins [5] [2, 3, 4] 33)) from s_inst (idx := 68) (E := "ResurrectingHeap$Table") hK (by decide +kernel) (inW 280 (by decide +kernel) (by decide +kernel)) yo_T zo_T),
  List.forall_mem_cons.mpr ⟨(show SE G 9 33 (.inl (i_z 0 62 36)) from s_if_eq (tg := 62) (off := 29) (by decide +kernel) (by decide)),
  List.forall_mem_cons.mpr ⟨(show SE G 9 36 (.inl (i_al 6 38)) from s_aload (j := 6) (by decide +kernel)),
  List.forall_mem_cons.mpr ⟨(show SE G 9 38 (.inl (i_cst [5] 41)) from s_cast (idx := 68) (E := "ResurrectingHeap$Table") hK (by decide +kernel) (inW 280 (by decide +kernel) (by decide +kernel)) yo_T),
  List.forall_mem_cons.mpr ⟨(show SE G 9 41 (.inl (i_as 5 43)) from s_astore (j := 5) (by decide +kernel) (by decide)),
  List.forall_mem_cons.mpr ⟨(show SE G 9 43 (.inl (i_al 5 45)) from s_aload (j := 5) (by decide +kernel)),
  List.forall_mem_cons.mpr ⟨(show SE G 9 45 (.inl (i_al 4 47)) from s_aload (j := 4) (by decide +kernel)),
  List.forall_mem_cons.mpr ⟨(show SE G 9 47 (.inl (i_al 0 48)) from s_aload_n (j := 0) (by decide +kernel)),
  List.forall_mem_cons.mpr ⟨(show SE G 9 48 (.inl (i_il 3 49)) from s_iload_n (j := 3) (by decide +kernel)),
  List.forall_mem_cons.mpr ⟨(show SE G 9 49 (.inr (.inl (false, 2, [(1, 23)], 52))) from ⟨c_virt (idx := 39) (n := 1) hK (by decide +kernel) (List.forall_mem_cons.mpr ⟨⟨ko_23, inW 114 (by decide +kernel) (by decide +kernel), inW 116 (by decide +kernel) (by decide +kernel), 0, _, rfl, by decide, rfl, inW 0 (by decide +kernel) (by decide +kernel)⟩, fun _ h => absurd h List.not_mem_nil⟩), (List.forall_mem_cons.mpr ⟨⟨mo_23, by decide⟩, fun _ h => absurd h List.not_mem_nil⟩)⟩),
  List.forall_mem_cons.mpr ⟨(show SE G 9 52 (.inr (.inl (false, 3, [(5, 85)], 55))) from ⟨c_virt (idx := 81) (n := 2) hK (by decide +kernel) (List.forall_mem_cons.mpr ⟨⟨ko_85, inW 320 (by decide +kernel) (by decide +kernel), inW 321 (by decide +kernel) (by decide +kernel), 4, _, rfl, by decide, rfl, inW 322 (by decide +kernel) (by decide +kernel)⟩, fun _ h => absurd h List.not_mem_nil⟩), (List.forall_mem_cons.mpr ⟨⟨mo_85, by decide⟩, fun _ h => absurd h List.not_mem_nil⟩)⟩),
  List.forall_mem_cons.mpr ⟨(show SE G 9 55 (.inl (i_z 0 62 58)) from s_if_eq (tg := 62) (off := 7) (by decide +kernel) (by decide)),
  List.forall_mem_cons.mpr ⟨(show SE G 9 58 (.inl (i_c 1 59)) from s_iconst (e := 1) (by decide +kernel) (by decide)),
  List.forall_mem_cons.mpr ⟨(show SE G 9 59 (.inl (i_go 63)) from s_goto (tg := 63) (off := 4) (by decide +kernel) (by decide)),
  fun _ h => absurd h List.not_mem_nil⟩⟩⟩⟩⟩⟩⟩⟩⟩⟩⟩⟩⟩⟩⟩⟩⟩⟩⟩⟩⟩⟩⟩⟩⟩⟩⟩⟩⟩⟩
set_option maxRecDepth 20000 in
theorem ok_l_9_1 (hK : K0 G) : ∀ q ∈ l_9_1, SE G 9 q.1 q.2 :=
  List.forall_mem_cons.mpr ⟨(show SE G 9 62 (.inl (i_c 0 63)) from s_iconst (e := 0) (by decide +kernel) (by decide)),
  List.forall_mem_cons.mpr ⟨(show SE G 9 63 (.inr (.inr 1)) from ⟨(by decide +kernel), rfl⟩),
  fun _ h => absurd h List.not_mem_nil⟩⟩
theorem ok_l_9 (hK : K0 G) : ∀ q ∈ l_9, SE G 9 q.1 q.2 := by
  show ∀ q ∈ l_9_0 ++ (l_9_1), SE G 9 q.1 q.2
  exact List.forall_mem_append.mpr ⟨ok_l_9_0 hK, ok_l_9_1 hK⟩
set_option maxRecDepth 20000 in
theorem ok_l_10_0 (hK : K0 G) : ∀ q ∈ l_10_0, SE G 10 q.1 q.2 :=
  List.forall_mem_cons.mpr ⟨(show SE G 10 0 (.inl (i_al 0 1)) from s_aload_n (j := 0) (by decide +kernel)),
  List.forall_mem_cons.mpr ⟨(show SE G 10 1 (.inl (i_il 3 2)) from s_iload_n (j := 3) (by decide +kernel)),
  List.forall_mem_cons.mpr ⟨(show SE G 10 2 (.inr (.inl (false, 2, [(1, 24)], 5))) from ⟨c_virt (idx := 59) (n := 1) hK (by decide +kernel) (List.forall_mem_cons.mpr ⟨⟨ko_24, inW 255 (by decide +kernel) (by decide +kernel), inW 257 (by decide +kernel) (by decide +kernel), 0, _, rfl, by decide, rfl, inW 11 (by decide +kernel) (by decide +kernel)⟩, fun _ h => absurd h List.not_mem_nil⟩), (List.forall_mem_cons.mpr ⟨⟨mo_24, by decide⟩, fun _ h => absurd h List.not_mem_nil⟩)⟩),
  List.forall_mem_cons.mpr ⟨(show SE G 10 5 (.inl (i_as 4 7)) from s_astore (j := 4) (by decide +kernel) (by decide)),
  List.forall_mem_cons.mpr ⟨(show SE G 10 7 (.inl (i_il 1 8)) from s_iload_n (j := 1) (by decide +kernel)),
  List.forall_mem_cons.mpr ⟨(show SE G 10 8 (.inr (.inl (true, 1, [(0, 22)], 11))) from ⟨c_static (idx := 30) (n := 1) (k1 := 22) (by decide +kernel) ko_22 (inW 91 (by decide +kernel) (by decide +kernel)) (inW 92 (by decide +kernel) (by decide +kernel)), (List.forall_mem_cons.mpr ⟨⟨mo_22, by decide⟩, fun _ h => absurd h List.not_mem_nil⟩)⟩),
  List.forall_mem_cons.mpr ⟨(show SE G 10 11 (.inl (i_z 0 19 14)) from s_if_eq (tg := 19) (off := 8) (by decide +kernel) (by decide)),
  List.forall_mem_cons.mpr ⟨(show SE G 10 14 (.inl (i_al 4 16)) from s_aload (j := 4) (by decide +kernel)),
  List.forall_mem_cons.mpr ⟨(show SE G 10 16 (.inl (i_nul 19 21)) from s_ifnonnull (tg := 21) (off := 5) (by decide +kernel) (by decide)),
  List.forall_mem_cons.mpr ⟨(show SE G 10 19 (.inl (i_c 0 20)) from s_iconst (e := 0) (by decide +kernel) (by decide)),
  List.forall_mem_cons.mpr ⟨(show SE G 10 20 (.inr (.inr 1)) from ⟨(by decide +kernel), rfl⟩),
  List.forall_mem_cons.mpr ⟨(show SE G 10 21 (.inl (i_al 0 22)) from s_aload_n (j := 0) (by decide +kernel)),
  List.forall_mem_cons.mpr ⟨(show SE G 10 22 (.inl (i_il 2 23)) from s_iload_n (j := 2) (by decide +kernel)),
  List.forall_mem_cons.mpr ⟨(show SE G 10 23 (.inr (.inl (false, 2, [(1, 23)], 26))) from ⟨c_virt (idx := 39) (n := 1) hK (by decide +kernel) (List.forall_mem_cons.mpr ⟨⟨ko_23, inW 114 (by decide +kernel) (by decide +kernel), inW 116 (by decide +kernel) (by decide +kernel), 0, _, rfl, by decide, rfl, inW 0 (by decide +kernel) (by decide +kernel)⟩, fun _ h => absurd h List.not_mem_nil⟩), (List.forall_mem_cons.mpr ⟨⟨mo_23, by decide⟩, fun _ h => absurd h List.not_mem_nil⟩)⟩),
  List.forall_mem_cons.mpr ⟨(show SE G 10 26 (.inl (i_as 6 28)) from s_astore (j := 6) (by decide +kernel) (by decide)),
  List.forall_mem_cons.mpr ⟨(show SE G 10 28 (.inl (i_al 6 30)) from s_aload (j := 6) (by decide +kernel)),
  List.forall_mem_cons.mpr ⟨(show SE G 10 30 (.inl (i_ins [5] [2, 3, 4] 33)) from s_inst (idx := 68) (E := "ResurrectingHeap$Table") hK (by decide +kernel) (inW 280 (by decide +kernel) (by decide +kernel)) yo_T zo_T),
  List.forall_mem_cons.mpr ⟨(show SE G 10 33 (.inl (i_z 0 58 36)) from s_if_eq (tg := 58) (off := 25) (by decide +kernel) (by decide)),
  List.forall_mem_cons.mpr ⟨(show SE G 10 36 (.inl (i_al 6 38)) from s_aload (j := 6) (by decide +kernel)),
  List.forall_mem_cons.mpr ⟨(show SE G 10 38 (.inl (i_cst [5] 41)) from s_cast (idx := 68) (E := "ResurrectingHeap$Table") hK (by decide +kernel) (inW 280 (by decide +kernel) (by decide +kernel)) yo_T),
  List.forall_mem_cons.mpr ⟨(show SE G 10 41 (.inl (i_as 5 43)) from s_astore (j := 5) (by decide +kernel) (by decide)),
  List.forall_mem_cons.mpr ⟨(show SE G 10 43 (.inl (i_al 0 44)) from s_aload_n (j := 0) (by decide +kernel)),
  List.forall_mem_cons.mpr ⟨(show SE G 10 44 (.inl (i_get [1] 0 47)) from s_get (idx := 11) (kk := 0) hK (by decide +kernel) (inW 65 (by decide +kernel) (by decide +kernel)) fo_H_variables),
  List.forall_mem_cons.mpr ⟨(show SE G 10 47 (.inl (i_il 1 48)) from s_iload_n (j := 1) (by decide +kernel)),
  List.forall_mem_cons.mpr ⟨(show SE G 10 48 (.inl (i_al 5 50)) from s_aload (j := 5) (by decide +kernel)),
  List.forall_mem_cons.mpr ⟨(show SE G 10 50 (.inl (i_al 4 52)) from s_aload (j := 4) (by decide +kernel)),
  List.forall_mem_cons.mpr ⟨(show SE G 10 52 (.inr (.inl (false, 2, [(5, 86)], 55))) from ⟨c_virt (idx := 85) (n := 1) hK (by decide +kernel) (List.forall_mem_cons.mpr ⟨⟨ko_86, inW 332 (by decide +kernel) (by decide +kernel), inW 333 (by decide +kernel) (by decide +kernel), 4, _, rfl, by decide, rfl, inW 334 (by decide +kernel) (by decide +kernel)⟩, fun _ h => absurd h List.not_mem_nil⟩), (List.forall_mem_cons.mpr ⟨⟨mo_86, by decide⟩, fun _ h => absurd h List.not_mem_nil⟩)⟩),
  List.forall_mem_cons.mpr ⟨(show SE G 10 55 (.inl (i_ast [(22, [3, 4, 5]), (23, [2, 3, 4, 5])] 56)) from s_aast hK (by decide +kernel) yo_G yo_U),
  List.forall_mem_cons.mpr ⟨(show SE G 10 56 (.inl (i_c 1 57)) from s_iconst (e := 1) (by decide +kernel) (by decide)),
  List.forall_mem_cons.mpr ⟨(show SE G 10 57 (.inr (.inr 1)) from ⟨(by decide +kernel), rfl⟩),
  fun _ h => absurd h List.not_mem_nil⟩⟩⟩⟩⟩⟩⟩⟩⟩⟩⟩⟩⟩⟩⟩⟩⟩⟩⟩⟩⟩⟩⟩⟩⟩⟩⟩⟩⟩⟩
set_option maxRecDepth 20000 in
theorem ok_l_10_1 (hK : K0 G) : ∀ q ∈ l_10_1, SE G 10 q.1 q.2 :=
  List.forall_mem_cons.mpr ⟨(show SE G 10 58 (.inl (i_c 0 59)) from s_iconst (e := 0) (by decide +kernel) (by decide)),
  List.forall_mem_cons.mpr ⟨(show SE G 10 59 (.inr (.inr 1)) from ⟨(by decide +kernel), rfl⟩),
  fun _ h => absurd h List.not_mem_nil⟩⟩
theorem ok_l_10 (hK : K0 G) : ∀ q ∈ l_10, SE G 10 q.1 q.2 := by
  show ∀ q ∈ l_10_0 ++ (l_10_1), SE G 10 q.1 q.2
  exact List.forall_mem_append.mpr ⟨ok_l_10_0 hK, ok_l_10_1 hK⟩
set_option maxRecDepth 20000 in
theorem ok_l_11_0 (hK : K0 G) : ∀ q ∈ l_11_0, SE G 11 q.1 q.2 :=
  List.forall_mem_cons.mpr ⟨(show SE G 11 0 (.inl (i_al 0 1)) from s_aload_n (j := 0) (by decide +kernel)),
  List.forall_mem_cons.mpr ⟨(show SE G 11 1 (.inl (i_il 1 2)) from s_iload_n (j := 1) (by decide +kernel)),
  List.forall_mem_cons.mpr ⟨(show SE G 11 2 (.inr (.inl (false, 2, [(1, 24)], 5))) from ⟨c_virt (idx := 59) (n := 1) hK (by decide +kernel) (List.forall_mem_cons.mpr ⟨⟨ko_24, inW 255 (by decide +kernel) (by decide +kernel), inW 257 (by decide +kernel) (by decide +kernel), 0, _, rfl, by decide, rfl, inW 11 (by decide +kernel) (by decide +kernel)⟩, fun _ h => absurd h List.not_mem_nil⟩), (List.forall_mem_cons.mpr ⟨⟨mo_24, by decide⟩, fun _ h => absurd h List.not_mem_nil⟩)⟩),
  List.forall_mem_cons.mpr ⟨(show SE G 11 5 (.inl (i_as 3 6)) from s_astore_n (j := 3) (by decide +kernel) (by decide)),
  List.forall_mem_cons.mpr ⟨(show SE G 11 6 (.inl (i_al 3 7)) from s_aload_n (j := 3) (by decide +kernel)),
  List.forall_mem_cons.mpr ⟨(show SE G 11 7 (.inl (i_nul 20 10)) from s_ifnull (tg := 20) (off := 13) (by decide +kernel) (by decide)),
  List.forall_mem_cons.mpr ⟨(show SE G 11 10 (.inl (i_il 2 11)) from s_iload_n (j := 2) (by decide +kernel)),
  List.forall_mem_cons.mpr ⟨(show SE G 11 11 (.inl (i_z 2 20 14)) from s_if_lt (tg := 20) (off := 9) (by decide +kernel) (by decide)),
  List.forall_mem_cons.mpr ⟨(show SE G 11 14 (.inl (i_il 2 15)) from s_iload_n (j := 2) (by decide +kernel)),
  List.forall_mem_cons.mpr ⟨(show SE G 11 15 (.inl (i_c 99 17)) from s_bipush (e := 99) (by decide +kernel) (by decide +kernel) (by decide)),
  List.forall_mem_cons.mpr ⟨(show SE G 11 17 (.inl (i_cmp 5 22 20)) from s_icmp_le (tg := 22) (off := 5) (by decide +kernel) (by decide)),
  List.forall_mem_cons.mpr ⟨(show SE G 11 20 (.inl (i_c 0 21)) from s_iconst (e := 0) (by decide +kernel) (by decide)),
  List.forall_mem_cons.mpr ⟨(show SE G 11 21 (.inr (.inr 1)) from ⟨(by decide +kernel), rfl⟩),
  List.forall_mem_cons.mpr ⟨(show SE G 11 22 (.inl (i_al 3 23)) from s_aload_n (j := 3) (by decide +kernel)),
  List.forall_mem_cons.mpr ⟨(show SE G 11 23 (.inl (i_get [3, 4, 5] 4 26)) from s_get (idx := 89) (kk := 4) hK (by decide +kernel) (inW 230 (by decide +kernel) (by decide +kernel)) fo_G_tagged),
  List.forall_mem_cons.mpr ⟨(show SE G 11 26 (.inl (i_z 1 49 29)) from s_if_ne (tg := 49) (off := 23) (by decide +kernel) (by decide)),
  List.forall_mem_cons.mpr ⟨(show SE G 11 29 (.inl (i_al 0 30)) from s_aload_n (j := 0) (by decide +kernel)),
  List.forall_mem_cons.mpr ⟨(show SE G 11 30 (.inl (i_get [1] 2 33)) from s_get (idx := 24) (kk := 2) hK (by decide +kernel) (inW 67 (by decide +kernel) (by decide +kernel)) fo_H_registered),
  List.forall_mem_cons.mpr ⟨(show SE G 11 33 (.inr (.inl (false, 1, [(6, 78)], 36))) from ⟨c_virt (idx := 95) (n := 0) hK (by decide +kernel) (List.forall_mem_cons.mpr ⟨⟨ko_78, inW 134 (by decide +kernel) (by decide +kernel), inW 135 (by decide +kernel) (by decide +kernel), 5, _, rfl, by decide, rfl, inW 136 (by decide +kernel) (by decide +kernel)⟩, fun _ h => absurd h List.not_mem_nil⟩), (List.forall_mem_cons.mpr ⟨⟨mo_78, by decide⟩, fun _ h => absurd h List.not_mem_nil⟩)⟩),
  List.forall_mem_cons.mpr ⟨(show SE G 11 36 (.inl (i_al 0 37)) from s_aload_n (j := 0) (by decide +kernel)),
  List.forall_mem_cons.mpr ⟨(show SE G 11 37 (.inl (i_get [1] 3 40)) from s_get (idx := 27) (kk := 3) hK (by decide +kernel) (inW 68 (by decide +kernel) (by decide +kernel)) fo_H_waitingRow),
  List.forall_mem_cons.mpr ⟨(show SE G 11 40 (.inr (.inl (false, 1, [(6, 78)], 43))) from ⟨c_virt (idx := 95) (n := 0) hK (by decide +kernel) (List.forall_mem_cons.mpr ⟨⟨ko_78, inW 134 (by decide +kernel) (by decide +kernel), inW 135 (by decide +kernel) (by decide +kernel), 5, _, rfl, by decide, rfl, inW 136 (by decide +kernel) (by decide +kernel)⟩, fun _ h => absurd h List.not_mem_nil⟩), (List.forall_mem_cons.mpr ⟨⟨mo_78, by decide⟩, fun _ h => absurd h List.not_mem_nil⟩)⟩),
  List.forall_mem_cons.mpr ⟨(show SE G 11 43 (.inl (i_bin (fun a b => a + b) 44)) from s_iadd (by decide +kernel)),
  List.forall_mem_cons.mpr ⟨(show SE G 11 44 (.inl (i_c 8 46)) from s_bipush (e := 8) (by decide +kernel) (by decide +kernel) (by decide)),
  List.forall_mem_cons.mpr ⟨(show SE G 11 46 (.inl (i_cmp 2 51 49)) from s_icmp_lt (tg := 51) (off := 5) (by decide +kernel) (by decide)),
  List.forall_mem_cons.mpr ⟨(show SE G 11 49 (.inl (i_c 0 50)) from s_iconst (e := 0) (by decide +kernel) (by decide)),
  List.forall_mem_cons.mpr ⟨(show SE G 11 50 (.inr (.inr 1)) from ⟨(by decide +kernel), rfl⟩),
  List.forall_mem_cons.mpr ⟨(show SE G 11 51 (.inl (i_al 3 52)) from s_aload_n (j := 3) (by decide +kernel)),
  List.forall_mem_cons.mpr ⟨(show SE G 11 52 (.inl (i_c 1 53)) from s_iconst (e := 1) (by decide +kernel) (by decide)),
  List.forall_mem_cons.mpr ⟨(show SE G 11 53 (.inl (i_put [3, 4, 5] 4 1 56)) from s_put (idx := 89) (kk := 4) (ty := 1) hK (by decide +kernel) (inW 230 (by decide +kernel) (by decide +kernel)) fo_G_tagged po_11_G_tagged),
  fun _ h => absurd h List.not_mem_nil⟩⟩⟩⟩⟩⟩⟩⟩⟩⟩⟩⟩⟩⟩⟩⟩⟩⟩⟩⟩⟩⟩⟩⟩⟩⟩⟩⟩⟩⟩
set_option maxRecDepth 20000 in
theorem ok_l_11_1 (hK : K0 G) : ∀ q ∈ l_11_1, SE G 11 q.1 q.2 :=
  List.forall_mem_cons.mpr ⟨(show SE G 11 56 (.inl (i_al 3 57)) from s_aload_n (j := 3) (by decide +kernel)),
  List.forall_mem_cons.mpr ⟨(show SE G 11 57 (.inl (i_il 2 58)) from s_iload_n (j := 2) (by decide +kernel)),
  List.forall_mem_cons.mpr ⟨(show SE G 11 58 (.inl (i_put [3, 4, 5] 5 0 61)) from s_put (idx := 99) (kk := 5) (ty := 0) hK (by decide +kernel) (inW 231 (by decide +kernel) (by decide +kernel)) fo_G_tag po_11_G_tag),
  List.forall_mem_cons.mpr ⟨(show SE G 11 61 (.inl (i_al 0 62)) from s_aload_n (j := 0) (by decide +kernel)),
  List.forall_mem_cons.mpr ⟨(show SE G 11 62 (.inl (i_get [1] 2 65)) from s_get (idx := 24) (kk := 2) hK (by decide +kernel) (inW 67 (by decide +kernel) (by decide +kernel)) fo_H_registered),
  List.forall_mem_cons.mpr ⟨(show SE G 11 65 (.inl (i_al 3 66)) from s_aload_n (j := 3) (by decide +kernel)),
  List.forall_mem_cons.mpr ⟨(show SE G 11 66 (.inr (.inl (false, 2, [(6, 80)], 69))) from ⟨c_virt (idx := 102) (n := 1) hK (by decide +kernel) (List.forall_mem_cons.mpr ⟨⟨ko_80, inW 197 (by decide +kernel) (by decide +kernel), inW 198 (by decide +kernel) (by decide +kernel), 5, _, rfl, by decide, rfl, inW 199 (by decide +kernel) (by decide +kernel)⟩, fun _ h => absurd h List.not_mem_nil⟩), (List.forall_mem_cons.mpr ⟨⟨mo_80, by decide⟩, fun _ h => absurd h List.not_mem_nil⟩)⟩),
  List.forall_mem_cons.mpr ⟨(show SE G 11 69 (.inl (i_c 1 70)) from s_iconst (e := 1) (by decide +kernel) (by decide)),
  List.forall_mem_cons.mpr ⟨(show SE G 11 70 (.inr (.inr 1)) from ⟨(by decide +kernel), rfl⟩),
  fun _ h => absurd h List.not_mem_nil⟩⟩⟩⟩⟩⟩⟩⟩⟩
theorem ok_l_11 (hK : K0 G) : ∀ q ∈ l_11, SE G 11 q.1 q.2 := by
  show ∀ q ∈ l_11_0 ++ (l_11_1), SE G 11 q.1 q.2
  exact List.forall_mem_append.mpr ⟨ok_l_11_0 hK, ok_l_11_1 hK⟩
set_option maxRecDepth 20000 in
theorem ok_l_12 (hK : K0 G) : ∀ q ∈ l_12, SE G 12 q.1 q.2 :=
  List.forall_mem_cons.mpr ⟨(show SE G 12 0 (.inl (i_il 1 1)) from s_iload_n (j := 1) (by decide +kernel)),
  List.forall_mem_cons.mpr ⟨(show SE G 12 1 (.inr (.inl (true, 1, [(0, 22)], 4))) from ⟨c_static (idx := 30) (n := 1) (k1 := 22) (by decide +kernel) ko_22 (inW 91 (by decide +kernel) (by decide +kernel)) (inW 92 (by decide +kernel) (by decide +kernel)), (List.forall_mem_cons.mpr ⟨⟨mo_22, by decide⟩, fun _ h => absurd h List.not_mem_nil⟩)⟩),
  List.forall_mem_cons.mpr ⟨(show SE G 12 4 (.inl (i_z 1 9 7)) from s_if_ne (tg := 9) (off := 5) (by decide +kernel) (by decide)),
  List.forall_mem_cons.mpr ⟨(show SE G 12 7 (.inl (i_c (-1) 8)) from s_iconst (e := (-1)) (by decide +kernel) (by decide)),
  List.forall_mem_cons.mpr ⟨(show SE G 12 8 (.inr (.inr 0)) from ⟨(by decide +kernel), rfl⟩),
  List.forall_mem_cons.mpr ⟨(show SE G 12 9 (.inl (i_al 0 10)) from s_aload_n (j := 0) (by decide +kernel)),
  List.forall_mem_cons.mpr ⟨(show SE G 12 10 (.inl (i_get [1] 3 13)) from s_get (idx := 27) (kk := 3) hK (by decide +kernel) (inW 68 (by decide +kernel) (by decide +kernel)) fo_H_waitingRow),
  List.forall_mem_cons.mpr ⟨(show SE G 12 13 (.inr (.inl (false, 1, [(6, 81)], 16))) from ⟨c_virt (idx := 106) (n := 0) hK (by decide +kernel) (List.forall_mem_cons.mpr ⟨⟨ko_81, inW 344 (by decide +kernel) (by decide +kernel), inW 345 (by decide +kernel) (by decide +kernel), 5, _, rfl, by decide, rfl, inW 346 (by decide +kernel) (by decide +kernel)⟩, fun _ h => absurd h List.not_mem_nil⟩), (List.forall_mem_cons.mpr ⟨⟨mo_81, by decide⟩, fun _ h => absurd h List.not_mem_nil⟩)⟩),
  List.forall_mem_cons.mpr ⟨(show SE G 12 16 (.inl (i_as 2 17)) from s_astore_n (j := 2) (by decide +kernel) (by decide)),
  List.forall_mem_cons.mpr ⟨(show SE G 12 17 (.inl (i_al 2 18)) from s_aload_n (j := 2) (by decide +kernel)),
  List.forall_mem_cons.mpr ⟨(show SE G 12 18 (.inl (i_nul 21 23)) from s_ifnonnull (tg := 23) (off := 5) (by decide +kernel) (by decide)),
  List.forall_mem_cons.mpr ⟨(show SE G 12 21 (.inl (i_c (-1) 22)) from s_iconst (e := (-1)) (by decide +kernel) (by decide)),
  List.forall_mem_cons.mpr ⟨(show SE G 12 22 (.inr (.inr 0)) from ⟨(by decide +kernel), rfl⟩),
  List.forall_mem_cons.mpr ⟨(show SE G 12 23 (.inl (i_al 2 24)) from s_aload_n (j := 2) (by decide +kernel)),
  List.forall_mem_cons.mpr ⟨(show SE G 12 24 (.inl (i_c 0 25)) from s_iconst (e := 0) (by decide +kernel) (by decide)),
  List.forall_mem_cons.mpr ⟨(show SE G 12 25 (.inl (i_put [3, 4, 5] 4 1 28)) from s_put (idx := 89) (kk := 4) (ty := 1) hK (by decide +kernel) (inW 230 (by decide +kernel) (by decide +kernel)) fo_G_tagged po_12_G_tagged),
  List.forall_mem_cons.mpr ⟨(show SE G 12 28 (.inl (i_al 0 29)) from s_aload_n (j := 0) (by decide +kernel)),
  List.forall_mem_cons.mpr ⟨(show SE G 12 29 (.inl (i_get [1] 0 32)) from s_get (idx := 11) (kk := 0) hK (by decide +kernel) (inW 65 (by decide +kernel) (by decide +kernel)) fo_H_variables),
  List.forall_mem_cons.mpr ⟨(show SE G 12 32 (.inl (i_il 1 33)) from s_iload_n (j := 1) (by decide +kernel)),
  List.forall_mem_cons.mpr ⟨(show SE G 12 33 (.inl (i_al 2 34)) from s_aload_n (j := 2) (by decide +kernel)),
  List.forall_mem_cons.mpr ⟨(show SE G 12 34 (.inl (i_ast [(22, [3, 4, 5]), (23, [2, 3, 4, 5])] 35)) from s_aast hK (by decide +kernel) yo_G yo_U),
  List.forall_mem_cons.mpr ⟨(show SE G 12 35 (.inl (i_al 2 36)) from s_aload_n (j := 2) (by decide +kernel)),
  List.forall_mem_cons.mpr ⟨(show SE G 12 36 (.inl (i_get [3, 4, 5] 5 39)) from s_get (idx := 99) (kk := 5) hK (by decide +kernel) (inW 231 (by decide +kernel) (by decide +kernel)) fo_G_tag),
  List.forall_mem_cons.mpr ⟨(show SE G 12 39 (.inr (.inr 0)) from ⟨(by decide +kernel), rfl⟩),
  fun _ h => absurd h List.not_mem_nil⟩⟩⟩⟩⟩⟩⟩⟩⟩⟩⟩⟩⟩⟩⟩⟩⟩⟩⟩⟩⟩⟩⟩⟩
set_option maxRecDepth 20000 in
theorem ok_l_13 (hK : K0 G) : ∀ q ∈ l_13, SE G 13 q.1 q.2 :=
  List.forall_mem_cons.mpr ⟨(show SE G 13 0 (.inl (i_al 0 1)) from s_aload_n (j := 0) (by decide +kernel)),
  List.forall_mem_cons.mpr ⟨(show SE G 13 1 (.inr (.inl (false, 1, [(1, 27)], 4))) from ⟨c_virt (idx := 110) (n := 0) hK (by decide +kernel) (List.forall_mem_cons.mpr ⟨⟨ko_27, inW 126 (by decide +kernel) (by decide +kernel), inW 128 (by decide +kernel) (by decide +kernel), 0, _, rfl, by decide, rfl, inW 2 (by decide +kernel) (by decide +kernel)⟩, fun _ h => absurd h List.not_mem_nil⟩), (List.forall_mem_cons.mpr ⟨⟨mo_27, by decide⟩, fun _ h => absurd h List.not_mem_nil⟩)⟩),
  List.forall_mem_cons.mpr ⟨(show SE G 13 4 (.inr (.inr 0)) from ⟨(by decide +kernel), rfl⟩),
  fun _ h => absurd h List.not_mem_nil⟩⟩⟩
set_option maxRecDepth 20000 in
theorem ok_l_14 (hK : K0 G) : ∀ q ∈ l_14, SE G 14 q.1 q.2 :=
  List.forall_mem_cons.mpr ⟨(show SE G 14 0 (.inl (i_il 1 1)) from s_iload_n (j := 1) (by decide +kernel)),
  List.forall_mem_cons.mpr ⟨(show SE G 14 1 (.inr (.inl (true, 1, [(0, 22)], 4))) from ⟨c_static (idx := 30) (n := 1) (k1 := 22) (by decide +kernel) ko_22 (inW 91 (by decide +kernel) (by decide +kernel)) (inW 92 (by decide +kernel) (by decide +kernel)), (List.forall_mem_cons.mpr ⟨⟨mo_22, by decide⟩, fun _ h => absurd h List.not_mem_nil⟩)⟩),
  List.forall_mem_cons.mpr ⟨(show SE G 14 4 (.inl (i_z 1 9 7)) from s_if_ne (tg := 9) (off := 5) (by decide +kernel) (by decide)),
  List.forall_mem_cons.mpr ⟨(show SE G 14 7 (.inl (i_c (-1) 8)) from s_iconst (e := (-1)) (by decide +kernel) (by decide)),
  List.forall_mem_cons.mpr ⟨(show SE G 14 8 (.inr (.inr 0)) from ⟨(by decide +kernel), rfl⟩),
  List.forall_mem_cons.mpr ⟨(show SE G 14 9 (.inl (i_al 0 10)) from s_aload_n (j := 0) (by decide +kernel)),
  List.forall_mem_cons.mpr ⟨(show SE G 14 10 (.inl (i_il 1 11)) from s_iload_n (j := 1) (by decide +kernel)),
  List.forall_mem_cons.mpr ⟨(show SE G 14 11 (.inr (.inl (false, 2, [(1, 23)], 14))) from ⟨c_virt (idx := 39) (n := 1) hK (by decide +kernel) (List.forall_mem_cons.mpr ⟨⟨ko_23, inW 114 (by decide +kernel) (by decide +kernel), inW 116 (by decide +kernel) (by decide +kernel), 0, _, rfl, by decide, rfl, inW 0 (by decide +kernel) (by decide +kernel)⟩, fun _ h => absurd h List.not_mem_nil⟩), (List.forall_mem_cons.mpr ⟨⟨mo_23, by decide⟩, fun _ h => absurd h List.not_mem_nil⟩)⟩),
  List.forall_mem_cons.mpr ⟨(show SE G 14 14 (.inl (i_as 2 15)) from s_astore_n (j := 2) (by decide +kernel) (by decide)),
  List.forall_mem_cons.mpr ⟨(show SE G 14 15 (.inl (i_al 2 16)) from s_aload_n (j := 2) (by decide +kernel)),
  List.forall_mem_cons.mpr ⟨(show SE G 14 16 (.inl (i_nul 19 23)) from s_ifnonnull (tg := 23) (off := 7) (by decide +kernel) (by decide)),
  List.forall_mem_cons.mpr ⟨(show SE G 14 19 (.inl (i_c 0 20)) from s_iconst (e := 0) (by decide +kernel) (by decide)),
  List.forall_mem_cons.mpr ⟨(show SE G 14 20 (.inl (i_go 27)) from s_goto (tg := 27) (off := 7) (by decide +kernel) (by decide)),
  List.forall_mem_cons.mpr ⟨(show SE G 14 23 (.inl (i_al 2 24)) from s_aload_n (j := 2) (by decide +kernel)),
  List.forall_mem_cons.mpr ⟨(show SE G 14 24 (.inr (.inl (false, 1, [(2, 76), (3, 96), (4, 101), (5, 88)], 27))) from ⟨c_abs (idx := 113) (n := 0) (x := ⟨"ResurrectingHeap$Value", "kindCode", "()I"⟩) (owner := "ResurrectingHeap$Value") hK (by decide +kernel) (inW 356 (by decide +kernel) (by decide +kernel)) (inW 358 (by decide +kernel) (by decide +kernel)) (inW 357 (by decide +kernel) (by decide +kernel)) (by decide) (by decide +kernel) (List.forall_mem_cons.mpr ⟨⟨ko_76, inW 360 (by decide +kernel) (by decide +kernel), 1, _, rfl, by decide, rfl, inW 359 (by decide +kernel) (by decide +kernel)⟩, List.forall_mem_cons.mpr ⟨⟨ko_96, inW 366 (by decide +kernel) (by decide +kernel), 2, _, rfl, by decide, rfl, inW 365 (by decide +kernel) (by decide +kernel)⟩, List.forall_mem_cons.mpr ⟨⟨ko_101, inW 369 (by decide +kernel) (by decide +kernel), 3, _, rfl, by decide, rfl, inW 368 (by decide +kernel) (by decide +kernel)⟩, List.forall_mem_cons.mpr ⟨⟨ko_88, inW 363 (by decide +kernel) (by decide +kernel), 4, _, rfl, by decide, rfl, inW 362 (by decide +kernel) (by decide +kernel)⟩, fun _ h => absurd h List.not_mem_nil⟩⟩⟩⟩), (List.forall_mem_cons.mpr ⟨⟨mo_76, by decide⟩, List.forall_mem_cons.mpr ⟨⟨mo_96, by decide⟩, List.forall_mem_cons.mpr ⟨⟨mo_101, by decide⟩, List.forall_mem_cons.mpr ⟨⟨mo_88, by decide⟩, fun _ h => absurd h List.not_mem_nil⟩⟩⟩⟩)⟩),
  List.forall_mem_cons.mpr ⟨(show SE G 14 27 (.inr (.inr 0)) from ⟨(by decide +kernel), rfl⟩),
  fun _ h => absurd h List.not_mem_nil⟩⟩⟩⟩⟩⟩⟩⟩⟩⟩⟩⟩⟩⟩⟩⟩
set_option maxRecDepth 20000 in
theorem ok_l_15 (hK : K0 G) : ∀ q ∈ l_15, SE G 15 q.1 q.2 :=
  List.forall_mem_cons.mpr ⟨(show SE G 15 0 (.inl (i_al 0 1)) from s_aload_n (j := 0) (by decide +kernel)),
  List.forall_mem_cons.mpr ⟨(show SE G 15 1 (.inl (i_il 1 2)) from s_iload_n (j := 1) (by decide +kernel)),
  List.forall_mem_cons.mpr ⟨(show SE G 15 2 (.inr (.inl (false, 2, [(1, 23)], 5))) from ⟨c_virt (idx := 39) (n := 1) hK (by decide +kernel) (List.forall_mem_cons.mpr ⟨⟨ko_23, inW 114 (by decide +kernel) (by decide +kernel), inW 116 (by decide +kernel) (by decide +kernel), 0, _, rfl, by decide, rfl, inW 0 (by decide +kernel) (by decide +kernel)⟩, fun _ h => absurd h List.not_mem_nil⟩), (List.forall_mem_cons.mpr ⟨⟨mo_23, by decide⟩, fun _ h => absurd h List.not_mem_nil⟩)⟩),
  List.forall_mem_cons.mpr ⟨(show SE G 15 5 (.inl (i_as 3 6)) from s_astore_n (j := 3) (by decide +kernel) (by decide)),
  List.forall_mem_cons.mpr ⟨(show SE G 15 6 (.inl (i_al 3 7)) from s_aload_n (j := 3) (by decide +kernel)),
  List.forall_mem_cons.mpr ⟨(show SE G 15 7 (.inl (i_ins [2] [3, 4, 5] 10)) from s_inst (idx := 36) (E := "ResurrectingHeap$Numeral") hK (by decide +kernel) (inW 96 (by decide +kernel) (by decide +kernel)) yo_N zo_N),
  List.forall_mem_cons.mpr ⟨(show SE G 15 10 (.inl (i_z 0 25 13)) from s_if_eq (tg := 25) (off := 15) (by decide +kernel) (by decide)),
  List.forall_mem_cons.mpr ⟨(show SE G 15 13 (.inl (i_al 3 14)) from s_aload_n (j := 3) (by decide +kernel)),
  List.forall_mem_cons.mpr ⟨(show SE G 15 14 (.inl (i_cst [2] 17)) from s_cast (idx := 36) (E := "ResurrectingHeap$Numeral") hK (by decide +kernel) (inW 96 (by decide +kernel) (by decide +kernel)) yo_N),
  List.forall_mem_cons.mpr ⟨(show SE G 15 17 (.inl (i_as 2 18)) from s_astore_n (j := 2) (by decide +kernel) (by decide)),
  List.forall_mem_cons.mpr ⟨(show SE G 15 18 (.inl (i_al 2 19)) from s_aload_n (j := 2) (by decide +kernel)),
  List.forall_mem_cons.mpr ⟨(show SE G 15 19 (.inl (i_get [2] 0 22)) from s_get (idx := 116) (kk := 0) hK (by decide +kernel) (inW 106 (by decide +kernel) (by decide +kernel)) fo_N_amount),
  List.forall_mem_cons.mpr ⟨(show SE G 15 22 (.inl (i_go 26)) from s_goto (tg := 26) (off := 4) (by decide +kernel) (by decide)),
  List.forall_mem_cons.mpr ⟨(show SE G 15 25 (.inl (i_c 0 26)) from s_iconst (e := 0) (by decide +kernel) (by decide)),
  List.forall_mem_cons.mpr ⟨(show SE G 15 26 (.inr (.inr 0)) from ⟨(by decide +kernel), rfl⟩),
  fun _ h => absurd h List.not_mem_nil⟩⟩⟩⟩⟩⟩⟩⟩⟩⟩⟩⟩⟩⟩⟩
set_option maxRecDepth 20000 in
theorem ok_l_16 (hK : K0 G) : ∀ q ∈ l_16, SE G 16 q.1 q.2 :=
  List.forall_mem_cons.mpr ⟨(show SE G 16 0 (.inl (i_al 0 1)) from s_aload_n (j := 0) (by decide +kernel)),
  List.forall_mem_cons.mpr ⟨(show SE G 16 1 (.inl (i_il 1 2)) from s_iload_n (j := 1) (by decide +kernel)),
  List.forall_mem_cons.mpr ⟨(show SE G 16 2 (.inr (.inl (false, 2, [(1, 24)], 5))) from ⟨c_virt (idx := 59) (n := 1) hK (by decide +kernel) (List.forall_mem_cons.mpr ⟨⟨ko_24, inW 255 (by decide +kernel) (by decide +kernel), inW 257 (by decide +kernel) (by decide +kernel), 0, _, rfl, by decide, rfl, inW 11 (by decide +kernel) (by decide +kernel)⟩, fun _ h => absurd h List.not_mem_nil⟩), (List.forall_mem_cons.mpr ⟨⟨mo_24, by decide⟩, fun _ h => absurd h List.not_mem_nil⟩)⟩),
  List.forall_mem_cons.mpr ⟨(show SE G 16 5 (.inl (i_as 2 6)) from s_astore_n (j := 2) (by decide +kernel) (by decide)),
  List.forall_mem_cons.mpr ⟨(show SE G 16 6 (.inl (i_al 2 7)) from s_aload_n (j := 2) (by decide +kernel)),
  List.forall_mem_cons.mpr ⟨(show SE G 16 7 (.inl (i_nul 10 14)) from s_ifnonnull (tg := 14) (off := 7) (by decide +kernel) (by decide)),
  List.forall_mem_cons.mpr ⟨(show SE G 16 10 (.inl (i_c 0 11)) from s_iconst (e := 0) (by decide +kernel) (by decide)),
  List.forall_mem_cons.mpr ⟨(show SE G 16 11 (.inl (i_go 18)) from s_goto (tg := 18) (off := 7) (by decide +kernel) (by decide)),
  List.forall_mem_cons.mpr ⟨(show SE G 16 14 (.inl (i_al 2 15)) from s_aload_n (j := 2) (by decide +kernel)),
  List.forall_mem_cons.mpr ⟨(show SE G 16 15 (.inl (i_get [3, 4, 5] 0 18)) from s_get (idx := 119) (kk := 0) hK (by decide +kernel) (inW 222 (by decide +kernel) (by decide +kernel)) fo_G_hash),
  List.forall_mem_cons.mpr ⟨(show SE G 16 18 (.inr (.inr 0)) from ⟨(by decide +kernel), rfl⟩),
  fun _ h => absurd h List.not_mem_nil⟩⟩⟩⟩⟩⟩⟩⟩⟩⟩⟩
set_option maxRecDepth 20000 in
theorem ok_l_17 (hK : K0 G) : ∀ q ∈ l_17, SE G 17 q.1 q.2 :=
  List.forall_mem_cons.mpr ⟨(show SE G 17 0 (.inl (i_al 0 1)) from s_aload_n (j := 0) (by decide +kernel)),
  List.forall_mem_cons.mpr ⟨(show SE G 17 1 (.inl (i_il 1 2)) from s_iload_n (j := 1) (by decide +kernel)),
  List.forall_mem_cons.mpr ⟨(show SE G 17 2 (.inr (.inl (false, 2, [(1, 24)], 5))) from ⟨c_virt (idx := 59) (n := 1) hK (by decide +kernel) (List.forall_mem_cons.mpr ⟨⟨ko_24, inW 255 (by decide +kernel) (by decide +kernel), inW 257 (by decide +kernel) (by decide +kernel), 0, _, rfl, by decide, rfl, inW 11 (by decide +kernel) (by decide +kernel)⟩, fun _ h => absurd h List.not_mem_nil⟩), (List.forall_mem_cons.mpr ⟨⟨mo_24, by decide⟩, fun _ h => absurd h List.not_mem_nil⟩)⟩),
  List.forall_mem_cons.mpr ⟨(show SE G 17 5 (.inl (i_as 2 6)) from s_astore_n (j := 2) (by decide +kernel) (by decide)),
  List.forall_mem_cons.mpr ⟨(show SE G 17 6 (.inl (i_al 2 7)) from s_aload_n (j := 2) (by decide +kernel)),
  List.forall_mem_cons.mpr ⟨(show SE G 17 7 (.inl (i_nul 10 14)) from s_ifnonnull (tg := 14) (off := 7) (by decide +kernel) (by decide)),
  List.forall_mem_cons.mpr ⟨(show SE G 17 10 (.inl (i_c (-1) 11)) from s_iconst (e := (-1)) (by decide +kernel) (by decide)),
  List.forall_mem_cons.mpr ⟨(show SE G 17 11 (.inl (i_go 18)) from s_goto (tg := 18) (off := 7) (by decide +kernel) (by decide)),
  List.forall_mem_cons.mpr ⟨(show SE G 17 14 (.inl (i_al 2 15)) from s_aload_n (j := 2) (by decide +kernel)),
  List.forall_mem_cons.mpr ⟨(show SE G 17 15 (.inl (i_get [3, 4, 5] 2 18)) from s_get (idx := 122) (kk := 2) hK (by decide +kernel) (inW 225 (by decide +kernel) (by decide +kernel)) fo_G_place),
  List.forall_mem_cons.mpr ⟨(show SE G 17 18 (.inr (.inr 0)) from ⟨(by decide +kernel), rfl⟩),
  fun _ h => absurd h List.not_mem_nil⟩⟩⟩⟩⟩⟩⟩⟩⟩⟩⟩
set_option maxRecDepth 20000 in
theorem ok_l_18 (hK : K0 G) : ∀ q ∈ l_18, SE G 18 q.1 q.2 :=
  List.forall_mem_cons.mpr ⟨(show SE G 18 0 (.inl (i_al 0 1)) from s_aload_n (j := 0) (by decide +kernel)),
  List.forall_mem_cons.mpr ⟨(show SE G 18 1 (.inl (i_il 1 2)) from s_iload_n (j := 1) (by decide +kernel)),
  List.forall_mem_cons.mpr ⟨(show SE G 18 2 (.inr (.inl (false, 2, [(1, 24)], 5))) from ⟨c_virt (idx := 59) (n := 1) hK (by decide +kernel) (List.forall_mem_cons.mpr ⟨⟨ko_24, inW 255 (by decide +kernel) (by decide +kernel), inW 257 (by decide +kernel) (by decide +kernel), 0, _, rfl, by decide, rfl, inW 11 (by decide +kernel) (by decide +kernel)⟩, fun _ h => absurd h List.not_mem_nil⟩), (List.forall_mem_cons.mpr ⟨⟨mo_24, by decide⟩, fun _ h => absurd h List.not_mem_nil⟩)⟩),
  List.forall_mem_cons.mpr ⟨(show SE G 18 5 (.inl (i_as 2 6)) from s_astore_n (j := 2) (by decide +kernel) (by decide)),
  List.forall_mem_cons.mpr ⟨(show SE G 18 6 (.inl (i_al 2 7)) from s_aload_n (j := 2) (by decide +kernel)),
  List.forall_mem_cons.mpr ⟨(show SE G 18 7 (.inl (i_nul 10 14)) from s_ifnonnull (tg := 14) (off := 7) (by decide +kernel) (by decide)),
  List.forall_mem_cons.mpr ⟨(show SE G 18 10 (.inl (i_c (-1) 11)) from s_iconst (e := (-1)) (by decide +kernel) (by decide)),
  List.forall_mem_cons.mpr ⟨(show SE G 18 11 (.inl (i_go 18)) from s_goto (tg := 18) (off := 7) (by decide +kernel) (by decide)),
  List.forall_mem_cons.mpr ⟨(show SE G 18 14 (.inl (i_al 2 15)) from s_aload_n (j := 2) (by decide +kernel)),
  List.forall_mem_cons.mpr ⟨(show SE G 18 15 (.inr (.inl (false, 1, [(3, 97), (4, 102), (5, 89)], 18))) from ⟨c_abs (idx := 125) (n := 0) (x := ⟨"ResurrectingHeap$Thing", "extent", "()I"⟩) (owner := "ResurrectingHeap$Thing") hK (by decide +kernel) (inW 387 (by decide +kernel) (by decide +kernel)) (inW 389 (by decide +kernel) (by decide +kernel)) (inW 388 (by decide +kernel) (by decide +kernel)) (by decide) (by decide +kernel) (List.forall_mem_cons.mpr ⟨⟨ko_97, inW 394 (by decide +kernel) (by decide +kernel), 2, _, rfl, by decide, rfl, inW 393 (by decide +kernel) (by decide +kernel)⟩, List.forall_mem_cons.mpr ⟨⟨ko_102, inW 397 (by decide +kernel) (by decide +kernel), 3, _, rfl, by decide, rfl, inW 396 (by decide +kernel) (by decide +kernel)⟩, List.forall_mem_cons.mpr ⟨⟨ko_89, inW 391 (by decide +kernel) (by decide +kernel), 4, _, rfl, by decide, rfl, inW 390 (by decide +kernel) (by decide +kernel)⟩, fun _ h => absurd h List.not_mem_nil⟩⟩⟩), (List.forall_mem_cons.mpr ⟨⟨mo_97, by decide⟩, List.forall_mem_cons.mpr ⟨⟨mo_102, by decide⟩, List.forall_mem_cons.mpr ⟨⟨mo_89, by decide⟩, fun _ h => absurd h List.not_mem_nil⟩⟩⟩)⟩),
  List.forall_mem_cons.mpr ⟨(show SE G 18 18 (.inr (.inr 0)) from ⟨(by decide +kernel), rfl⟩),
  fun _ h => absurd h List.not_mem_nil⟩⟩⟩⟩⟩⟩⟩⟩⟩⟩⟩
set_option maxRecDepth 20000 in
theorem ok_l_19 (hK : K0 G) : ∀ q ∈ l_19, SE G 19 q.1 q.2 :=
  List.forall_mem_cons.mpr ⟨(show SE G 19 0 (.inl (i_al 0 1)) from s_aload_n (j := 0) (by decide +kernel)),
  List.forall_mem_cons.mpr ⟨(show SE G 19 1 (.inl (i_get [1] 4 4)) from s_get (idx := 128) (kk := 4) hK (by decide +kernel) (inW 69 (by decide +kernel) (by decide +kernel)) fo_H_usedCells),
  List.forall_mem_cons.mpr ⟨(show SE G 19 4 (.inr (.inr 0)) from ⟨(by decide +kernel), rfl⟩),
  fun _ h => absurd h List.not_mem_nil⟩⟩⟩
set_option maxRecDepth 20000 in
theorem ok_l_20 (hK : K0 G) : ∀ q ∈ l_20, SE G 20 q.1 q.2 :=
  List.forall_mem_cons.mpr ⟨(show SE G 20 0 (.inl (i_al 0 1)) from s_aload_n (j := 0) (by decide +kernel)),
  List.forall_mem_cons.mpr ⟨(show SE G 20 1 (.inl (i_get [1] 3 4)) from s_get (idx := 27) (kk := 3) hK (by decide +kernel) (inW 68 (by decide +kernel) (by decide +kernel)) fo_H_waitingRow),
  List.forall_mem_cons.mpr ⟨(show SE G 20 4 (.inr (.inl (false, 1, [(6, 78)], 7))) from ⟨c_virt (idx := 95) (n := 0) hK (by decide +kernel) (List.forall_mem_cons.mpr ⟨⟨ko_78, inW 134 (by decide +kernel) (by decide +kernel), inW 135 (by decide +kernel) (by decide +kernel), 5, _, rfl, by decide, rfl, inW 136 (by decide +kernel) (by decide +kernel)⟩, fun _ h => absurd h List.not_mem_nil⟩), (List.forall_mem_cons.mpr ⟨⟨mo_78, by decide⟩, fun _ h => absurd h List.not_mem_nil⟩)⟩),
  List.forall_mem_cons.mpr ⟨(show SE G 20 7 (.inr (.inr 0)) from ⟨(by decide +kernel), rfl⟩),
  fun _ h => absurd h List.not_mem_nil⟩⟩⟩⟩
set_option maxRecDepth 20000 in
theorem ok_l_21 (hK : K0 G) : ∀ q ∈ l_21, SE G 21 q.1 q.2 :=
  List.forall_mem_cons.mpr ⟨(show SE G 21 0 (.inl (i_al 0 1)) from s_aload_n (j := 0) (by decide +kernel)),
  List.forall_mem_cons.mpr ⟨(show SE G 21 1 (.inl (i_get [1] 6 4)) from s_get (idx := 131) (kk := 6) hK (by decide +kernel) (inW 71 (by decide +kernel) (by decide +kernel)) fo_H_collectionsMade),
  List.forall_mem_cons.mpr ⟨(show SE G 21 4 (.inr (.inr 0)) from ⟨(by decide +kernel), rfl⟩),
  fun _ h => absurd h List.not_mem_nil⟩⟩⟩
set_option maxRecDepth 20000 in
theorem ok_l_22 (hK : K0 G) : ∀ q ∈ l_22, SE G 22 q.1 q.2 :=
  List.forall_mem_cons.mpr ⟨(show SE G 22 0 (.inl (i_il 0 1)) from s_iload_n (j := 0) (by decide +kernel)),
  List.forall_mem_cons.mpr ⟨(show SE G 22 1 (.inl (i_z 2 14 4)) from s_if_lt (tg := 14) (off := 13) (by decide +kernel) (by decide)),
  List.forall_mem_cons.mpr ⟨(show SE G 22 4 (.inl (i_il 0 5)) from s_iload_n (j := 0) (by decide +kernel)),
  List.forall_mem_cons.mpr ⟨(show SE G 22 5 (.inl (i_c 6 7)) from s_bipush (e := 6) (by decide +kernel) (by decide +kernel) (by decide)),
  List.forall_mem_cons.mpr ⟨(show SE G 22 7 (.inl (i_cmp 3 14 10)) from s_icmp_ge (tg := 14) (off := 7) (by decide +kernel) (by decide)),
  List.forall_mem_cons.mpr ⟨(show SE G 22 10 (.inl (i_c 1 11)) from s_iconst (e := 1) (by decide +kernel) (by decide)),
  List.forall_mem_cons.mpr ⟨(show SE G 22 11 (.inl (i_go 15)) from s_goto (tg := 15) (off := 4) (by decide +kernel) (by decide)),
  List.forall_mem_cons.mpr ⟨(show SE G 22 14 (.inl (i_c 0 15)) from s_iconst (e := 0) (by decide +kernel) (by decide)),
  List.forall_mem_cons.mpr ⟨(show SE G 22 15 (.inr (.inr 1)) from ⟨(by decide +kernel), rfl⟩),
  fun _ h => absurd h List.not_mem_nil⟩⟩⟩⟩⟩⟩⟩⟩⟩
set_option maxRecDepth 20000 in
theorem ok_l_23 (hK : K0 G) : ∀ q ∈ l_23, SE G 23 q.1 q.2 :=
  List.forall_mem_cons.mpr ⟨(show SE G 23 0 (.inl (i_il 1 1)) from s_iload_n (j := 1) (by decide +kernel)),
  List.forall_mem_cons.mpr ⟨(show SE G 23 1 (.inr (.inl (true, 1, [(0, 22)], 4))) from ⟨c_static (idx := 30) (n := 1) (k1 := 22) (by decide +kernel) ko_22 (inW 91 (by decide +kernel) (by decide +kernel)) (inW 92 (by decide +kernel) (by decide +kernel)), (List.forall_mem_cons.mpr ⟨⟨mo_22, by decide⟩, fun _ h => absurd h List.not_mem_nil⟩)⟩),
  List.forall_mem_cons.mpr ⟨(show SE G 23 4 (.inl (i_z 0 16 7)) from s_if_eq (tg := 16) (off := 12) (by decide +kernel) (by decide)),
  List.forall_mem_cons.mpr ⟨(show SE G 23 7 (.inl (i_al 0 8)) from s_aload_n (j := 0) (by decide +kernel)),
  List.forall_mem_cons.mpr ⟨(show SE G 23 8 (.inl (i_get [1] 0 11)) from s_get (idx := 11) (kk := 0) hK (by decide +kernel) (inW 65 (by decide +kernel) (by decide +kernel)) fo_H_variables),
  List.forall_mem_cons.mpr ⟨(show SE G 23 11 (.inl (i_il 1 12)) from s_iload_n (j := 1) (by decide +kernel)),
  List.forall_mem_cons.mpr ⟨(show SE G 23 12 (.inl (i_ld [22, 23] 13)) from s_aald hK (by decide +kernel)),
  List.forall_mem_cons.mpr ⟨(show SE G 23 13 (.inl (i_go 17)) from s_goto (tg := 17) (off := 4) (by decide +kernel) (by decide)),
  List.forall_mem_cons.mpr ⟨(show SE G 23 16 (.inl (i_n 17)) from s_null (by decide +kernel)),
  List.forall_mem_cons.mpr ⟨(show SE G 23 17 (.inr (.inr 2)) from ⟨(by decide +kernel), _, rfl⟩),
  fun _ h => absurd h List.not_mem_nil⟩⟩⟩⟩⟩⟩⟩⟩⟩⟩
set_option maxRecDepth 20000 in
theorem ok_l_24 (hK : K0 G) : ∀ q ∈ l_24, SE G 24 q.1 q.2 :=
  List.forall_mem_cons.mpr ⟨(show SE G 24 0 (.inl (i_al 0 1)) from s_aload_n (j := 0) (by decide +kernel)),
  List.forall_mem_cons.mpr ⟨(show SE G 24 1 (.inl (i_il 1 2)) from s_iload_n (j := 1) (by decide +kernel)),
  List.forall_mem_cons.mpr ⟨(show SE G 24 2 (.inr (.inl (false, 2, [(1, 23)], 5))) from ⟨c_virt (idx := 39) (n := 1) hK (by decide +kernel) (List.forall_mem_cons.mpr ⟨⟨ko_23, inW 114 (by decide +kernel) (by decide +kernel), inW 116 (by decide +kernel) (by decide +kernel), 0, _, rfl, by decide, rfl, inW 0 (by decide +kernel) (by decide +kernel)⟩, fun _ h => absurd h List.not_mem_nil⟩), (List.forall_mem_cons.mpr ⟨⟨mo_23, by decide⟩, fun _ h => absurd h List.not_mem_nil⟩)⟩),
  List.forall_mem_cons.mpr ⟨(show SE G 24 5 (.inl (i_as 3 6)) from s_astore_n (j := 3) (by decide +kernel) (by decide)),
  List.forall_mem_cons.mpr ⟨(show SE G 24 6 (.inl (i_al 3 7)) from s_aload_n (j := 3) (by decide +kernel)),
  List.forall_mem_cons.mpr ⟨(show SE G 24 7 (.inl (i_ins [3, 4, 5] [2] 10)) from s_inst (idx := 90) (E := "ResurrectingHeap$Thing") hK (by decide +kernel) (inW 149 (by decide +kernel) (by decide +kernel)) yo_G zo_G),
  List.forall_mem_cons.mpr ⟨(show SE G 24 10 (.inl (i_z 0 22 13)) from s_if_eq (tg := 22) (off := 12) (by decide +kernel) (by decide)),
  List.forall_mem_cons.mpr ⟨(show SE G 24 13 (.inl (i_al 3 14)) from s_aload_n (j := 3) (by decide +kernel)),
  List.forall_mem_cons.mpr ⟨(show SE G 24 14 (.inl (i_cst [3, 4, 5] 17)) from s_cast (idx := 90) (E := "ResurrectingHeap$Thing") hK (by decide +kernel) (inW 149 (by decide +kernel) (by decide +kernel)) yo_G),
  List.forall_mem_cons.mpr ⟨(show SE G 24 17 (.inl (i_as 2 18)) from s_astore_n (j := 2) (by decide +kernel) (by decide)),
  List.forall_mem_cons.mpr ⟨(show SE G 24 18 (.inl (i_al 2 19)) from s_aload_n (j := 2) (by decide +kernel)),
  List.forall_mem_cons.mpr ⟨(show SE G 24 19 (.inl (i_go 23)) from s_goto (tg := 23) (off := 4) (by decide +kernel) (by decide)),
  List.forall_mem_cons.mpr ⟨(show SE G 24 22 (.inl (i_n 23)) from s_null (by decide +kernel)),
  List.forall_mem_cons.mpr ⟨(show SE G 24 23 (.inr (.inr 2)) from ⟨(by decide +kernel), _, rfl⟩),
  fun _ h => absurd h List.not_mem_nil⟩⟩⟩⟩⟩⟩⟩⟩⟩⟩⟩⟩⟩⟩
end OK1
end
section
/-! each method's instructions are sound (by program) -/
section OK2
variable {G : MG}
set_option maxRecDepth 20000 in
theorem ok_l_25 (hK : K0 G) : ∀ q ∈ l_25, SE G 25 q.1 q.2 :=
  List.forall_mem_cons.mpr ⟨(show SE G 25 0 (.inl (i_c 60 2)) from s_bipush (e := 60) (by decide +kernel) (by decide +kernel) (by decide)),
  List.forall_mem_cons.mpr ⟨(show SE G 25 2 (.inl (i_al 0 3)) from s_aload_n (j := 0) (by decide +kernel)),
  List.forall_mem_cons.mpr ⟨(show SE G 25 3 (.inl (i_get [1] 4 6)) from s_get (idx := 128) (kk := 4) hK (by decide +kernel) (inW 69 (by decide +kernel) (by decide +kernel)) fo_H_usedCells),
  List.forall_mem_cons.mpr ⟨(show SE G 25 6 (.inl (i_bin (fun a b => a - b) 7)) from s_isub (by decide +kernel)),
  List.forall_mem_cons.mpr ⟨(show SE G 25 7 (.inl (i_il 1 8)) from s_iload_n (j := 1) (by decide +kernel)),
  List.forall_mem_cons.mpr ⟨(show SE G 25 8 (.inl (i_cmp 3 16 11)) from s_icmp_ge (tg := 16) (off := 8) (by decide +kernel) (by decide)),
  List.forall_mem_cons.mpr ⟨(show SE G 25 11 (.inl (i_al 0 12)) from s_aload_n (j := 0) (by decide +kernel)),
  List.forall_mem_cons.mpr ⟨(show SE G 25 12 (.inr (.inl (false, 1, [(1, 27)], 15))) from ⟨c_virt (idx := 110) (n := 0) hK (by decide +kernel) (List.forall_mem_cons.mpr ⟨⟨ko_27, inW 126 (by decide +kernel) (by decide +kernel), inW 128 (by decide +kernel) (by decide +kernel), 0, _, rfl, by decide, rfl, inW 2 (by decide +kernel) (by decide +kernel)⟩, fun _ h => absurd h List.not_mem_nil⟩), (List.forall_mem_cons.mpr ⟨⟨mo_27, by decide⟩, fun _ h => absurd h List.not_mem_nil⟩)⟩),
  List.forall_mem_cons.mpr ⟨(show SE G 25 15 (.inl (i_pop 16)) from s_pop (by decide +kernel)),
  List.forall_mem_cons.mpr ⟨(show SE G 25 16 (.inl (i_c 60 18)) from s_bipush (e := 60) (by decide +kernel) (by decide +kernel) (by decide)),
  List.forall_mem_cons.mpr ⟨(show SE G 25 18 (.inl (i_al 0 19)) from s_aload_n (j := 0) (by decide +kernel)),
  List.forall_mem_cons.mpr ⟨(show SE G 25 19 (.inl (i_get [1] 4 22)) from s_get (idx := 128) (kk := 4) hK (by decide +kernel) (inW 69 (by decide +kernel) (by decide +kernel)) fo_H_usedCells),
  List.forall_mem_cons.mpr ⟨(show SE G 25 22 (.inl (i_bin (fun a b => a - b) 23)) from s_isub (by decide +kernel)),
  List.forall_mem_cons.mpr ⟨(show SE G 25 23 (.inl (i_il 1 24)) from s_iload_n (j := 1) (by decide +kernel)),
  List.forall_mem_cons.mpr ⟨(show SE G 25 24 (.inl (i_cmp 2 31 27)) from s_icmp_lt (tg := 31) (off := 7) (by decide +kernel) (by decide)),
  List.forall_mem_cons.mpr ⟨(show SE G 25 27 (.inl (i_c 1 28)) from s_iconst (e := 1) (by decide +kernel) (by decide)),
  List.forall_mem_cons.mpr ⟨(show SE G 25 28 (.inl (i_go 32)) from s_goto (tg := 32) (off := 4) (by decide +kernel) (by decide)),
  List.forall_mem_cons.mpr ⟨(show SE G 25 31 (.inl (i_c 0 32)) from s_iconst (e := 0) (by decide +kernel) (by decide)),
  List.forall_mem_cons.mpr ⟨(show SE G 25 32 (.inr (.inr 1)) from ⟨(by decide +kernel), rfl⟩),
  fun _ h => absurd h List.not_mem_nil⟩⟩⟩⟩⟩⟩⟩⟩⟩⟩⟩⟩⟩⟩⟩⟩⟩⟩⟩
set_option maxRecDepth 20000 in
theorem ok_l_26 (hK : K0 G) : ∀ q ∈ l_26, SE G 26 q.1 q.2 :=
  List.forall_mem_cons.mpr ⟨(show SE G 26 0 (.inl (i_al 0 1)) from s_aload_n (j := 0) (by decide +kernel)),
  List.forall_mem_cons.mpr ⟨(show SE G 26 1 (.inl (i_dup 2)) from s_dup (by decide +kernel)),
  List.forall_mem_cons.mpr ⟨(show SE G 26 2 (.inl (i_get [1] 5 5)) from s_get (idx := 48) (kk := 5) hK (by decide +kernel) (inW 70 (by decide +kernel) (by decide +kernel)) fo_H_objectsMade),
  List.forall_mem_cons.mpr ⟨(show SE G 26 5 (.inl (i_c 1 6)) from s_iconst (e := 1) (by decide +kernel) (by decide)),
  List.forall_mem_cons.mpr ⟨(show SE G 26 6 (.inl (i_bin (fun a b => a + b) 7)) from s_iadd (by decide +kernel)),
  List.forall_mem_cons.mpr ⟨(show SE G 26 7 (.inl (i_put [1] 5 0 10)) from s_put (idx := 48) (kk := 5) (ty := 0) hK (by decide +kernel) (inW 70 (by decide +kernel) (by decide +kernel)) fo_H_objectsMade po_26_H_objectsMade),
  List.forall_mem_cons.mpr ⟨(show SE G 26 10 (.inl (i_al 0 11)) from s_aload_n (j := 0) (by decide +kernel)),
  List.forall_mem_cons.mpr ⟨(show SE G 26 11 (.inl (i_get [1] 1 14)) from s_get (idx := 20) (kk := 1) hK (by decide +kernel) (inW 66 (by decide +kernel) (by decide +kernel)) fo_H_objects),
  List.forall_mem_cons.mpr ⟨(show SE G 26 14 (.inl (i_al 2 15)) from s_aload_n (j := 2) (by decide +kernel)),
  List.forall_mem_cons.mpr ⟨(show SE G 26 15 (.inr (.inl (false, 2, [(6, 80)], 18))) from ⟨c_virt (idx := 102) (n := 1) hK (by decide +kernel) (List.forall_mem_cons.mpr ⟨⟨ko_80, inW 197 (by decide +kernel) (by decide +kernel), inW 198 (by decide +kernel) (by decide +kernel), 5, _, rfl, by decide, rfl, inW 199 (by decide +kernel) (by decide +kernel)⟩, fun _ h => absurd h List.not_mem_nil⟩), (List.forall_mem_cons.mpr ⟨⟨mo_80, by decide⟩, fun _ h => absurd h List.not_mem_nil⟩)⟩),
  List.forall_mem_cons.mpr ⟨(show SE G 26 18 (.inl (i_al 2 19)) from s_aload_n (j := 2) (by decide +kernel)),
  List.forall_mem_cons.mpr ⟨(show SE G 26 19 (.inl (i_al 0 20)) from s_aload_n (j := 0) (by decide +kernel)),
  List.forall_mem_cons.mpr ⟨(show SE G 26 20 (.inl (i_get [1] 4 23)) from s_get (idx := 128) (kk := 4) hK (by decide +kernel) (inW 69 (by decide +kernel) (by decide +kernel)) fo_H_usedCells),
  List.forall_mem_cons.mpr ⟨(show SE G 26 23 (.inl (i_put [3, 4, 5] 2 0 26)) from s_put (idx := 122) (kk := 2) (ty := 0) hK (by decide +kernel) (inW 225 (by decide +kernel) (by decide +kernel)) fo_G_place po_26_G_place),
  List.forall_mem_cons.mpr ⟨(show SE G 26 26 (.inl (i_al 0 27)) from s_aload_n (j := 0) (by decide +kernel)),
  List.forall_mem_cons.mpr ⟨(show SE G 26 27 (.inl (i_dup 28)) from s_dup (by decide +kernel)),
  List.forall_mem_cons.mpr ⟨(show SE G 26 28 (.inl (i_get [1] 4 31)) from s_get (idx := 128) (kk := 4) hK (by decide +kernel) (inW 69 (by decide +kernel) (by decide +kernel)) fo_H_usedCells),
  List.forall_mem_cons.mpr ⟨(show SE G 26 31 (.inl (i_al 2 32)) from s_aload_n (j := 2) (by decide +kernel)),
  List.forall_mem_cons.mpr ⟨(show SE G 26 32 (.inl (i_get [3, 4, 5] 1 35)) from s_get (idx := 134) (kk := 1) hK (by decide +kernel) (inW 224 (by decide +kernel) (by decide +kernel)) fo_G_cells),
  List.forall_mem_cons.mpr ⟨(show SE G 26 35 (.inl (i_bin (fun a b => a + b) 36)) from s_iadd (by decide +kernel)),
  List.forall_mem_cons.mpr ⟨(show SE G 26 36 (.inl (i_put [1] 4 0 39)) from s_put (idx := 128) (kk := 4) (ty := 0) hK (by decide +kernel) (inW 69 (by decide +kernel) (by decide +kernel)) fo_H_usedCells po_26_H_usedCells),
  List.forall_mem_cons.mpr ⟨(show SE G 26 39 (.inl (i_al 0 40)) from s_aload_n (j := 0) (by decide +kernel)),
  List.forall_mem_cons.mpr ⟨(show SE G 26 40 (.inl (i_get [1] 0 43)) from s_get (idx := 11) (kk := 0) hK (by decide +kernel) (inW 65 (by decide +kernel) (by decide +kernel)) fo_H_variables),
  List.forall_mem_cons.mpr ⟨(show SE G 26 43 (.inl (i_il 1 44)) from s_iload_n (j := 1) (by decide +kernel)),
  List.forall_mem_cons.mpr ⟨(show SE G 26 44 (.inl (i_al 2 45)) from s_aload_n (j := 2) (by decide +kernel)),
  List.forall_mem_cons.mpr ⟨(show SE G 26 45 (.inl (i_ast [(22, [3, 4, 5]), (23, [2, 3, 4, 5])] 46)) from s_aast hK (by decide +kernel) yo_G yo_U),
  List.forall_mem_cons.mpr ⟨(show SE G 26 46 (.inl (i_al 2 47)) from s_aload_n (j := 2) (by decide +kernel)),
  List.forall_mem_cons.mpr ⟨(show SE G 26 47 (.inl (i_get [3, 4, 5] 0 50)) from s_get (idx := 119) (kk := 0) hK (by decide +kernel) (inW 222 (by decide +kernel) (by decide +kernel)) fo_G_hash),
  List.forall_mem_cons.mpr ⟨(show SE G 26 50 (.inr (.inr 0)) from ⟨(by decide +kernel), rfl⟩),
  fun _ h => absurd h List.not_mem_nil⟩⟩⟩⟩⟩⟩⟩⟩⟩⟩⟩⟩⟩⟩⟩⟩⟩⟩⟩⟩⟩⟩⟩⟩⟩⟩⟩⟩⟩
set_option maxRecDepth 20000 in
theorem ok_l_27 (hK : K0 G) : ∀ q ∈ l_27, SE G 27 q.1 q.2 :=
  List.forall_mem_cons.mpr ⟨(show SE G 27 0 (.inl (i_al 0 1)) from s_aload_n (j := 0) (by decide +kernel)),
  List.forall_mem_cons.mpr ⟨(show SE G 27 1 (.inl (i_dup 2)) from s_dup (by decide +kernel)),
  List.forall_mem_cons.mpr ⟨(show SE G 27 2 (.inl (i_get [1] 6 5)) from s_get (idx := 131) (kk := 6) hK (by decide +kernel) (inW 71 (by decide +kernel) (by decide +kernel)) fo_H_collectionsMade),
  List.forall_mem_cons.mpr ⟨(show SE G 27 5 (.inl (i_c 1 6)) from s_iconst (e := 1) (by decide +kernel) (by decide)),
  List.forall_mem_cons.mpr ⟨(show SE G 27 6 (.inl (i_bin (fun a b => a + b) 7)) from s_iadd (by decide +kernel)),
  List.forall_mem_cons.mpr ⟨(show SE G 27 7 (.inl (i_put [1] 6 0 10)) from s_put (idx := 131) (kk := 6) (ty := 0) hK (by decide +kernel) (inW 71 (by decide +kernel) (by decide +kernel)) fo_H_collectionsMade po_27_H_collectionsMade),
  List.forall_mem_cons.mpr ⟨(show SE G 27 10 (.inl (i_al 0 11)) from s_aload_n (j := 0) (by decide +kernel)),
  List.forall_mem_cons.mpr ⟨(show SE G 27 11 (.inr (.inl (false, 1, [(1, 28)], 14))) from ⟨c_virt (idx := 137) (n := 0) hK (by decide +kernel) (List.forall_mem_cons.mpr ⟨⟨ko_28, inW 130 (by decide +kernel) (by decide +kernel), inW 132 (by decide +kernel) (by decide +kernel), 0, _, rfl, by decide, rfl, inW 3 (by decide +kernel) (by decide +kernel)⟩, fun _ h => absurd h List.not_mem_nil⟩), (List.forall_mem_cons.mpr ⟨⟨mo_28, by decide⟩, fun _ h => absurd h List.not_mem_nil⟩)⟩),
  List.forall_mem_cons.mpr ⟨(show SE G 27 14 (.inl (i_al 0 15)) from s_aload_n (j := 0) (by decide +kernel)),
  List.forall_mem_cons.mpr ⟨(show SE G 27 15 (.inr (.inl (false, 1, [(1, 29)], 18))) from ⟨c_virt (idx := 140) (n := 0) hK (by decide +kernel) (List.forall_mem_cons.mpr ⟨⟨ko_29, inW 142 (by decide +kernel) (by decide +kernel), inW 144 (by decide +kernel) (by decide +kernel), 0, _, rfl, by decide, rfl, inW 4 (by decide +kernel) (by decide +kernel)⟩, fun _ h => absurd h List.not_mem_nil⟩), (List.forall_mem_cons.mpr ⟨⟨mo_29, by decide⟩, fun _ h => absurd h List.not_mem_nil⟩)⟩),
  List.forall_mem_cons.mpr ⟨(show SE G 27 18 (.inl (i_al 0 19)) from s_aload_n (j := 0) (by decide +kernel)),
  List.forall_mem_cons.mpr ⟨(show SE G 27 19 (.inl (i_get [1] 3 22)) from s_get (idx := 27) (kk := 3) hK (by decide +kernel) (inW 68 (by decide +kernel) (by decide +kernel)) fo_H_waitingRow),
  List.forall_mem_cons.mpr ⟨(show SE G 27 22 (.inr (.inl (false, 1, [(6, 82)], 25))) from ⟨c_virt (idx := 143) (n := 0) hK (by decide +kernel) (List.forall_mem_cons.mpr ⟨⟨ko_82, inW 150 (by decide +kernel) (by decide +kernel), inW 151 (by decide +kernel) (by decide +kernel), 5, _, rfl, by decide, rfl, inW 152 (by decide +kernel) (by decide +kernel)⟩, fun _ h => absurd h List.not_mem_nil⟩), (List.forall_mem_cons.mpr ⟨⟨mo_82, by decide⟩, fun _ h => absurd h List.not_mem_nil⟩)⟩),
  List.forall_mem_cons.mpr ⟨(show SE G 27 25 (.inl (i_al 0 26)) from s_aload_n (j := 0) (by decide +kernel)),
  List.forall_mem_cons.mpr ⟨(show SE G 27 26 (.inr (.inl (false, 1, [(1, 30)], 29))) from ⟨c_virt (idx := 146) (n := 0) hK (by decide +kernel) (List.forall_mem_cons.mpr ⟨⟨ko_30, inW 155 (by decide +kernel) (by decide +kernel), inW 157 (by decide +kernel) (by decide +kernel), 0, _, rfl, by decide, rfl, inW 5 (by decide +kernel) (by decide +kernel)⟩, fun _ h => absurd h List.not_mem_nil⟩), (List.forall_mem_cons.mpr ⟨⟨mo_30, by decide⟩, fun _ h => absurd h List.not_mem_nil⟩)⟩),
  List.forall_mem_cons.mpr ⟨(show SE G 27 29 (.inl (i_al 0 30)) from s_aload_n (j := 0) (by decide +kernel)),
  List.forall_mem_cons.mpr ⟨(show SE G 27 30 (.inr (.inl (false, 1, [(1, 32)], 33))) from ⟨c_virt (idx := 149) (n := 0) hK (by decide +kernel) (List.forall_mem_cons.mpr ⟨⟨ko_32, inW 177 (by decide +kernel) (by decide +kernel), inW 179 (by decide +kernel) (by decide +kernel), 0, _, rfl, by decide, rfl, inW 7 (by decide +kernel) (by decide +kernel)⟩, fun _ h => absurd h List.not_mem_nil⟩), (List.forall_mem_cons.mpr ⟨⟨mo_32, by decide⟩, fun _ h => absurd h List.not_mem_nil⟩)⟩),
  List.forall_mem_cons.mpr ⟨(show SE G 27 33 (.inl (i_al 0 34)) from s_aload_n (j := 0) (by decide +kernel)),
  List.forall_mem_cons.mpr ⟨(show SE G 27 34 (.inr (.inl (false, 1, [(1, 33)], 37))) from ⟨c_virt (idx := 152) (n := 0) hK (by decide +kernel) (List.forall_mem_cons.mpr ⟨⟨ko_33, inW 193 (by decide +kernel) (by decide +kernel), inW 195 (by decide +kernel) (by decide +kernel), 0, _, rfl, by decide, rfl, inW 8 (by decide +kernel) (by decide +kernel)⟩, fun _ h => absurd h List.not_mem_nil⟩), (List.forall_mem_cons.mpr ⟨⟨mo_33, by decide⟩, fun _ h => absurd h List.not_mem_nil⟩)⟩),
  List.forall_mem_cons.mpr ⟨(show SE G 27 37 (.inl (i_al 0 38)) from s_aload_n (j := 0) (by decide +kernel)),
  List.forall_mem_cons.mpr ⟨(show SE G 27 38 (.inr (.inl (false, 1, [(1, 30)], 41))) from ⟨c_virt (idx := 146) (n := 0) hK (by decide +kernel) (List.forall_mem_cons.mpr ⟨⟨ko_30, inW 155 (by decide +kernel) (by decide +kernel), inW 157 (by decide +kernel) (by decide +kernel), 0, _, rfl, by decide, rfl, inW 5 (by decide +kernel) (by decide +kernel)⟩, fun _ h => absurd h List.not_mem_nil⟩), (List.forall_mem_cons.mpr ⟨⟨mo_30, by decide⟩, fun _ h => absurd h List.not_mem_nil⟩)⟩),
  List.forall_mem_cons.mpr ⟨(show SE G 27 41 (.inl (i_al 0 42)) from s_aload_n (j := 0) (by decide +kernel)),
  List.forall_mem_cons.mpr ⟨(show SE G 27 42 (.inl (i_get [1] 1 45)) from s_get (idx := 20) (kk := 1) hK (by decide +kernel) (inW 66 (by decide +kernel) (by decide +kernel)) fo_H_objects),
  List.forall_mem_cons.mpr ⟨(show SE G 27 45 (.inr (.inl (false, 1, [(6, 83)], 48))) from ⟨c_virt (idx := 155) (n := 0) hK (by decide +kernel) (List.forall_mem_cons.mpr ⟨⟨ko_83, inW 201 (by decide +kernel) (by decide +kernel), inW 202 (by decide +kernel) (by decide +kernel), 5, _, rfl, by decide, rfl, inW 203 (by decide +kernel) (by decide +kernel)⟩, fun _ h => absurd h List.not_mem_nil⟩), (List.forall_mem_cons.mpr ⟨⟨mo_83, by decide⟩, fun _ h => absurd h List.not_mem_nil⟩)⟩),
  List.forall_mem_cons.mpr ⟨(show SE G 27 48 (.inl (i_is 1 49)) from s_istore_n (j := 1) (by decide +kernel) (by decide)),
  List.forall_mem_cons.mpr ⟨(show SE G 27 49 (.inl (i_al 0 50)) from s_aload_n (j := 0) (by decide +kernel)),
  List.forall_mem_cons.mpr ⟨(show SE G 27 50 (.inr (.inl (false, 1, [(1, 34)], 53))) from ⟨c_virt (idx := 158) (n := 0) hK (by decide +kernel) (List.forall_mem_cons.mpr ⟨⟨ko_34, inW 205 (by decide +kernel) (by decide +kernel), inW 207 (by decide +kernel) (by decide +kernel), 0, _, rfl, by decide, rfl, inW 9 (by decide +kernel) (by decide +kernel)⟩, fun _ h => absurd h List.not_mem_nil⟩), (List.forall_mem_cons.mpr ⟨⟨mo_34, by decide⟩, fun _ h => absurd h List.not_mem_nil⟩)⟩),
  List.forall_mem_cons.mpr ⟨(show SE G 27 53 (.inl (i_il 1 54)) from s_iload_n (j := 1) (by decide +kernel)),
  List.forall_mem_cons.mpr ⟨(show SE G 27 54 (.inr (.inr 0)) from ⟨(by decide +kernel), rfl⟩),
  fun _ h => absurd h List.not_mem_nil⟩⟩⟩⟩⟩⟩⟩⟩⟩⟩⟩⟩⟩⟩⟩⟩⟩⟩⟩⟩⟩⟩⟩⟩⟩⟩⟩⟩⟩
set_option maxRecDepth 20000 in
theorem ok_l_28 (hK : K0 G) : ∀ q ∈ l_28, SE G 28 q.1 q.2 :=
  List.forall_mem_cons.mpr ⟨(show SE G 28 0 (.inl (i_c 0 1)) from s_iconst (e := 0) (by decide +kernel) (by decide)),
  List.forall_mem_cons.mpr ⟨(show SE G 28 1 (.inl (i_is 1 2)) from s_istore_n (j := 1) (by decide +kernel) (by decide)),
  List.forall_mem_cons.mpr ⟨(show SE G 28 2 (.inl (i_il 1 3)) from s_iload_n (j := 1) (by decide +kernel)),
  List.forall_mem_cons.mpr ⟨(show SE G 28 3 (.inl (i_al 0 4)) from s_aload_n (j := 0) (by decide +kernel)),
  List.forall_mem_cons.mpr ⟨(show SE G 28 4 (.inl (i_get [1] 1 7)) from s_get (idx := 20) (kk := 1) hK (by decide +kernel) (inW 66 (by decide +kernel) (by decide +kernel)) fo_H_objects),
  List.forall_mem_cons.mpr ⟨(show SE G 28 7 (.inr (.inl (false, 1, [(6, 78)], 10))) from ⟨c_virt (idx := 95) (n := 0) hK (by decide +kernel) (List.forall_mem_cons.mpr ⟨⟨ko_78, inW 134 (by decide +kernel) (by decide +kernel), inW 135 (by decide +kernel) (by decide +kernel), 5, _, rfl, by decide, rfl, inW 136 (by decide +kernel) (by decide +kernel)⟩, fun _ h => absurd h List.not_mem_nil⟩), (List.forall_mem_cons.mpr ⟨⟨mo_78, by decide⟩, fun _ h => absurd h List.not_mem_nil⟩)⟩),
  List.forall_mem_cons.mpr ⟨(show SE G 28 10 (.inl (i_cmp 3 37 13)) from s_icmp_ge (tg := 37) (off := 27) (by decide +kernel) (by decide)),
  List.forall_mem_cons.mpr ⟨(show SE G 28 13 (.inl (i_al 0 14)) from s_aload_n (j := 0) (by decide +kernel)),
  List.forall_mem_cons.mpr ⟨(show SE G 28 14 (.inl (i_get [1] 1 17)) from s_get (idx := 20) (kk := 1) hK (by decide +kernel) (inW 66 (by decide +kernel) (by decide +kernel)) fo_H_objects),
  List.forall_mem_cons.mpr ⟨(show SE G 28 17 (.inl (i_il 1 18)) from s_iload_n (j := 1) (by decide +kernel)),
  List.forall_mem_cons.mpr ⟨(show SE G 28 18 (.inr (.inl (false, 2, [(6, 79)], 21))) from ⟨c_virt (idx := 161) (n := 1) hK (by decide +kernel) (List.forall_mem_cons.mpr ⟨⟨ko_79, inW 138 (by decide +kernel) (by decide +kernel), inW 139 (by decide +kernel) (by decide +kernel), 5, _, rfl, by decide, rfl, inW 140 (by decide +kernel) (by decide +kernel)⟩, fun _ h => absurd h List.not_mem_nil⟩), (List.forall_mem_cons.mpr ⟨⟨mo_79, by decide⟩, fun _ h => absurd h List.not_mem_nil⟩)⟩),
  List.forall_mem_cons.mpr ⟨(show SE G 28 21 (.inl (i_as 2 22)) from s_astore_n (j := 2) (by decide +kernel) (by decide)),
  List.forall_mem_cons.mpr ⟨(show SE G 28 22 (.inl (i_al 2 23)) from s_aload_n (j := 2) (by decide +kernel)),
  List.forall_mem_cons.mpr ⟨(show SE G 28 23 (.inl (i_nul 31 26)) from s_ifnull (tg := 31) (off := 8) (by decide +kernel) (by decide)),
  List.forall_mem_cons.mpr ⟨(show SE G 28 26 (.inl (i_al 2 27)) from s_aload_n (j := 2) (by decide +kernel)),
  List.forall_mem_cons.mpr ⟨(show SE G 28 27 (.inl (i_c 0 28)) from s_iconst (e := 0) (by decide +kernel) (by decide)),
  List.forall_mem_cons.mpr ⟨(show SE G 28 28 (.inl (i_put [3, 4, 5] 3 1 31)) from s_put (idx := 164) (kk := 3) (ty := 1) hK (by decide +kernel) (inW 229 (by decide +kernel) (by decide +kernel)) fo_G_marked po_28_G_marked),
  List.forall_mem_cons.mpr ⟨(show SE G 28 31 (.inl (i_ii 1 1 34)) from s_iinc (j := 1) (n := 1) (by decide +kernel) (by decide)),
  List.forall_mem_cons.mpr ⟨(show SE G 28 34 (.inl (i_go 2)) from s_goto (tg := 2) (off := -32) (by decide +kernel) (by decide)),
  List.forall_mem_cons.mpr ⟨(show SE G 28 37 (.inr (.inr 3)) from ⟨(by decide +kernel), rfl⟩),
  fun _ h => absurd h List.not_mem_nil⟩⟩⟩⟩⟩⟩⟩⟩⟩⟩⟩⟩⟩⟩⟩⟩⟩⟩⟩⟩
set_option maxRecDepth 20000 in
theorem ok_l_29 (hK : K0 G) : ∀ q ∈ l_29, SE G 29 q.1 q.2 :=
  List.forall_mem_cons.mpr ⟨(show SE G 29 0 (.inl (i_c 0 1)) from s_iconst (e := 0) (by decide +kernel) (by decide)),
  List.forall_mem_cons.mpr ⟨(show SE G 29 1 (.inl (i_is 1 2)) from s_istore_n (j := 1) (by decide +kernel) (by decide)),
  List.forall_mem_cons.mpr ⟨(show SE G 29 2 (.inl (i_il 1 3)) from s_iload_n (j := 1) (by decide +kernel)),
  List.forall_mem_cons.mpr ⟨(show SE G 29 3 (.inl (i_c 6 5)) from s_bipush (e := 6) (by decide +kernel) (by decide +kernel) (by decide)),
  List.forall_mem_cons.mpr ⟨(show SE G 29 5 (.inl (i_cmp 3 24 8)) from s_icmp_ge (tg := 24) (off := 19) (by decide +kernel) (by decide)),
  List.forall_mem_cons.mpr ⟨(show SE G 29 8 (.inl (i_al 0 9)) from s_aload_n (j := 0) (by decide +kernel)),
  List.forall_mem_cons.mpr ⟨(show SE G 29 9 (.inl (i_get [1] 0 12)) from s_get (idx := 11) (kk := 0) hK (by decide +kernel) (inW 65 (by decide +kernel) (by decide +kernel)) fo_H_variables),
  List.forall_mem_cons.mpr ⟨(show SE G 29 12 (.inl (i_il 1 13)) from s_iload_n (j := 1) (by decide +kernel)),
  List.forall_mem_cons.mpr ⟨(show SE G 29 13 (.inl (i_ld [22, 23] 14)) from s_aald hK (by decide +kernel)),
  List.forall_mem_cons.mpr ⟨(show SE G 29 14 (.inr (.inl (true, 1, [(0, 35)], 17))) from ⟨c_static (idx := 167) (n := 1) (k1 := 35) (by decide +kernel) ko_35 (inW 146 (by decide +kernel) (by decide +kernel)) (inW 147 (by decide +kernel) (by decide +kernel)), (List.forall_mem_cons.mpr ⟨⟨mo_35, by decide⟩, fun _ h => absurd h List.not_mem_nil⟩)⟩),
  List.forall_mem_cons.mpr ⟨(show SE G 29 17 (.inl (i_pop 18)) from s_pop (by decide +kernel)),
  List.forall_mem_cons.mpr ⟨(show SE G 29 18 (.inl (i_ii 1 1 21)) from s_iinc (j := 1) (n := 1) (by decide +kernel) (by decide)),
  List.forall_mem_cons.mpr ⟨(show SE G 29 21 (.inl (i_go 2)) from s_goto (tg := 2) (off := -19) (by decide +kernel) (by decide)),
  List.forall_mem_cons.mpr ⟨(show SE G 29 24 (.inr (.inr 3)) from ⟨(by decide +kernel), rfl⟩),
  fun _ h => absurd h List.not_mem_nil⟩⟩⟩⟩⟩⟩⟩⟩⟩⟩⟩⟩⟩⟩
set_option maxRecDepth 20000 in
theorem ok_l_30 (hK : K0 G) : ∀ q ∈ l_30, SE G 30 q.1 q.2 :=
  List.forall_mem_cons.mpr ⟨(show SE G 30 0 (.inl (i_c 1 1)) from s_iconst (e := 1) (by decide +kernel) (by decide)),
  List.forall_mem_cons.mpr ⟨(show SE G 30 1 (.inl (i_is 1 2)) from s_istore_n (j := 1) (by decide +kernel) (by decide)),
  List.forall_mem_cons.mpr ⟨(show SE G 30 2 (.inl (i_c 0 3)) from s_iconst (e := 0) (by decide +kernel) (by decide)),
  List.forall_mem_cons.mpr ⟨(show SE G 30 3 (.inl (i_is 2 4)) from s_istore_n (j := 2) (by decide +kernel) (by decide)),
  List.forall_mem_cons.mpr ⟨(show SE G 30 4 (.inl (i_il 1 5)) from s_iload_n (j := 1) (by decide +kernel)),
  List.forall_mem_cons.mpr ⟨(show SE G 30 5 (.inl (i_z 0 25 8)) from s_if_eq (tg := 25) (off := 20) (by decide +kernel) (by decide)),
  List.forall_mem_cons.mpr ⟨(show SE G 30 8 (.inl (i_il 2 9)) from s_iload_n (j := 2) (by decide +kernel)),
  List.forall_mem_cons.mpr ⟨(show SE G 30 9 (.inl (i_c 20 11)) from s_bipush (e := 20) (by decide +kernel) (by decide +kernel) (by decide)),
  List.forall_mem_cons.mpr ⟨(show SE G 30 11 (.inl (i_cmp 4 25 14)) from s_icmp_gt (tg := 25) (off := 14) (by decide +kernel) (by decide)),
  List.forall_mem_cons.mpr ⟨(show SE G 30 14 (.inl (i_al 0 15)) from s_aload_n (j := 0) (by decide +kernel)),
  List.forall_mem_cons.mpr ⟨(show SE G 30 15 (.inr (.inl (false, 1, [(1, 31)], 18))) from ⟨c_virt (idx := 171) (n := 0) hK (by decide +kernel) (List.forall_mem_cons.mpr ⟨⟨ko_31, inW 159 (by decide +kernel) (by decide +kernel), inW 161 (by decide +kernel) (by decide +kernel), 0, _, rfl, by decide, rfl, inW 6 (by decide +kernel) (by decide +kernel)⟩, fun _ h => absurd h List.not_mem_nil⟩), (List.forall_mem_cons.mpr ⟨⟨mo_31, by decide⟩, fun _ h => absurd h List.not_mem_nil⟩)⟩),
  List.forall_mem_cons.mpr ⟨(show SE G 30 18 (.inl (i_is 1 19)) from s_istore_n (j := 1) (by decide +kernel) (by decide)),
  List.forall_mem_cons.mpr ⟨(show SE G 30 19 (.inl (i_ii 2 1 22)) from s_iinc (j := 2) (n := 1) (by decide +kernel) (by decide)),
  List.forall_mem_cons.mpr ⟨(show SE G 30 22 (.inl (i_go 4)) from s_goto (tg := 4) (off := -18) (by decide +kernel) (by decide)),
  List.forall_mem_cons.mpr ⟨(show SE G 30 25 (.inr (.inr 3)) from ⟨(by decide +kernel), rfl⟩),
  fun _ h => absurd h List.not_mem_nil⟩⟩⟩⟩⟩⟩⟩⟩⟩⟩⟩⟩⟩⟩⟩
set_option maxRecDepth 20000 in
theorem ok_l_31 (hK : K0 G) : ∀ q ∈ l_31, SE G 31 q.1 q.2 :=
  List.forall_mem_cons.mpr ⟨(show SE G 31 0 (.inl (i_c 0 1)) from s_iconst (e := 0) (by decide +kernel) (by decide)),
  List.forall_mem_cons.mpr ⟨(show SE G 31 1 (.inl (i_is 1 2)) from s_istore_n (j := 1) (by decide +kernel) (by decide)),
  List.forall_mem_cons.mpr ⟨(show SE G 31 2 (.inl (i_c 0 3)) from s_iconst (e := 0) (by decide +kernel) (by decide)),
  List.forall_mem_cons.mpr ⟨(show SE G 31 3 (.inl (i_is 2 4)) from s_istore_n (j := 2) (by decide +kernel) (by decide)),
  List.forall_mem_cons.mpr ⟨(show SE G 31 4 (.inl (i_il 2 5)) from s_iload_n (j := 2) (by decide +kernel)),
  List.forall_mem_cons.mpr ⟨(show SE G 31 5 (.inl (i_al 0 6)) from s_aload_n (j := 0) (by decide +kernel)),
  List.forall_mem_cons.mpr ⟨(show SE G 31 6 (.inl (i_get [1] 1 9)) from s_get (idx := 20) (kk := 1) hK (by decide +kernel) (inW 66 (by decide +kernel) (by decide +kernel)) fo_H_objects),
  List.forall_mem_cons.mpr ⟨(show SE G 31 9 (.inr (.inl (false, 1, [(6, 78)], 12))) from ⟨c_virt (idx := 95) (n := 0) hK (by decide +kernel) (List.forall_mem_cons.mpr ⟨⟨ko_78, inW 134 (by decide +kernel) (by decide +kernel), inW 135 (by decide +kernel) (by decide +kernel), 5, _, rfl, by decide, rfl, inW 136 (by decide +kernel) (by decide +kernel)⟩, fun _ h => absurd h List.not_mem_nil⟩), (List.forall_mem_cons.mpr ⟨⟨mo_78, by decide⟩, fun _ h => absurd h List.not_mem_nil⟩)⟩),
  List.forall_mem_cons.mpr ⟨(show SE G 31 12 (.inl (i_cmp 3 50 15)) from s_icmp_ge (tg := 50) (off := 38) (by decide +kernel) (by decide)),
  List.forall_mem_cons.mpr ⟨(show SE G 31 15 (.inl (i_al 0 16)) from s_aload_n (j := 0) (by decide +kernel)),
  List.forall_mem_cons.mpr ⟨(show SE G 31 16 (.inl (i_get [1] 1 19)) from s_get (idx := 20) (kk := 1) hK (by decide +kernel) (inW 66 (by decide +kernel) (by decide +kernel)) fo_H_objects),
  List.forall_mem_cons.mpr ⟨(show SE G 31 19 (.inl (i_il 2 20)) from s_iload_n (j := 2) (by decide +kernel)),
  List.forall_mem_cons.mpr ⟨(show SE G 31 20 (.inr (.inl (false, 2, [(6, 79)], 23))) from ⟨c_virt (idx := 161) (n := 1) hK (by decide +kernel) (List.forall_mem_cons.mpr ⟨⟨ko_79, inW 138 (by decide +kernel) (by decide +kernel), inW 139 (by decide +kernel) (by decide +kernel), 5, _, rfl, by decide, rfl, inW 140 (by decide +kernel) (by decide +kernel)⟩, fun _ h => absurd h List.not_mem_nil⟩), (List.forall_mem_cons.mpr ⟨⟨mo_79, by decide⟩, fun _ h => absurd h List.not_mem_nil⟩)⟩),
  List.forall_mem_cons.mpr ⟨(show SE G 31 23 (.inl (i_as 3 24)) from s_astore_n (j := 3) (by decide +kernel) (by decide)),
  List.forall_mem_cons.mpr ⟨(show SE G 31 24 (.inl (i_al 3 25)) from s_aload_n (j := 3) (by decide +kernel)),
  List.forall_mem_cons.mpr ⟨(show SE G 31 25 (.inl (i_nul 44 28)) from s_ifnull (tg := 44) (off := 19) (by decide +kernel) (by decide)),
  List.forall_mem_cons.mpr ⟨(show SE G 31 28 (.inl (i_al 3 29)) from s_aload_n (j := 3) (by decide +kernel)),
  List.forall_mem_cons.mpr ⟨(show SE G 31 29 (.inl (i_get [3, 4, 5] 3 32)) from s_get (idx := 164) (kk := 3) hK (by decide +kernel) (inW 229 (by decide +kernel) (by decide +kernel)) fo_G_marked),
  List.forall_mem_cons.mpr ⟨(show SE G 31 32 (.inl (i_z 0 44 35)) from s_if_eq (tg := 44) (off := 12) (by decide +kernel) (by decide)),
  List.forall_mem_cons.mpr ⟨(show SE G 31 35 (.inl (i_al 3 36)) from s_aload_n (j := 3) (by decide +kernel)),
  List.forall_mem_cons.mpr ⟨(show SE G 31 36 (.inr (.inl (false, 1, [(3, 98), (4, 103), (5, 90)], 39))) from ⟨c_abs (idx := 175) (n := 0) (x := ⟨"ResurrectingHeap$Thing", "markHeld", "()Z"⟩) (owner := "ResurrectingHeap$Thing") hK (by decide +kernel) (inW 163 (by decide +kernel) (by decide +kernel)) (inW 165 (by decide +kernel) (by decide +kernel)) (inW 164 (by decide +kernel) (by decide +kernel)) (by decide) (by decide +kernel) (List.forall_mem_cons.mpr ⟨⟨ko_98, inW 171 (by decide +kernel) (by decide +kernel), 2, _, rfl, by decide, rfl, inW 170 (by decide +kernel) (by decide +kernel)⟩, List.forall_mem_cons.mpr ⟨⟨ko_103, inW 175 (by decide +kernel) (by decide +kernel), 3, _, rfl, by decide, rfl, inW 174 (by decide +kernel) (by decide +kernel)⟩, List.forall_mem_cons.mpr ⟨⟨ko_90, inW 167 (by decide +kernel) (by decide +kernel), 4, _, rfl, by decide, rfl, inW 166 (by decide +kernel) (by decide +kernel)⟩, fun _ h => absurd h List.not_mem_nil⟩⟩⟩), (List.forall_mem_cons.mpr ⟨⟨mo_98, by decide⟩, List.forall_mem_cons.mpr ⟨⟨mo_103, by decide⟩, List.forall_mem_cons.mpr ⟨⟨mo_90, by decide⟩, fun _ h => absurd h List.not_mem_nil⟩⟩⟩)⟩),
  List.forall_mem_cons.mpr ⟨(show SE G 31 39 (.inl (i_z 0 44 42)) from s_if_eq (tg := 44) (off := 5) (by decide +kernel) (by decide)),
  List.forall_mem_cons.mpr ⟨(show SE G 31 42 (.inl (i_c 1 43)) from s_iconst (e := 1) (by decide +kernel) (by decide)),
  List.forall_mem_cons.mpr ⟨(show SE G 31 43 (.inl (i_is 1 44)) from s_istore_n (j := 1) (by decide +kernel) (by decide)),
  List.forall_mem_cons.mpr ⟨(show SE G 31 44 (.inl (i_ii 2 1 47)) from s_iinc (j := 2) (n := 1) (by decide +kernel) (by decide)),
  List.forall_mem_cons.mpr ⟨(show SE G 31 47 (.inl (i_go 4)) from s_goto (tg := 4) (off := -43) (by decide +kernel) (by decide)),
  List.forall_mem_cons.mpr ⟨(show SE G 31 50 (.inl (i_il 1 51)) from s_iload_n (j := 1) (by decide +kernel)),
  List.forall_mem_cons.mpr ⟨(show SE G 31 51 (.inr (.inr 1)) from ⟨(by decide +kernel), rfl⟩),
  fun _ h => absurd h List.not_mem_nil⟩⟩⟩⟩⟩⟩⟩⟩⟩⟩⟩⟩⟩⟩⟩⟩⟩⟩⟩⟩⟩⟩⟩⟩⟩⟩⟩⟩
set_option maxRecDepth 20000 in
theorem ok_l_32 (hK : K0 G) : ∀ q ∈ l_32, SE G 32 q.1 q.2 :=
  List.forall_mem_cons.mpr ⟨(show SE G 32 0 (.inl (i_c 0 1)) from s_iconst (e := 0) (by decide +kernel) (by decide)),
  List.forall_mem_cons.mpr ⟨(show SE G 32 1 (.inl (i_is 1 2)) from s_istore_n (j := 1) (by decide +kernel) (by decide)),
  List.forall_mem_cons.mpr ⟨(show SE G 32 2 (.inl (i_il 1 3)) from s_iload_n (j := 1) (by decide +kernel)),
  List.forall_mem_cons.mpr ⟨(show SE G 32 3 (.inl (i_al 0 4)) from s_aload_n (j := 0) (by decide +kernel)),
  List.forall_mem_cons.mpr ⟨(show SE G 32 4 (.inl (i_get [1] 1 7)) from s_get (idx := 20) (kk := 1) hK (by decide +kernel) (inW 66 (by decide +kernel) (by decide +kernel)) fo_H_objects),
  List.forall_mem_cons.mpr ⟨(show SE G 32 7 (.inr (.inl (false, 1, [(6, 78)], 10))) from ⟨c_virt (idx := 95) (n := 0) hK (by decide +kernel) (List.forall_mem_cons.mpr ⟨⟨ko_78, inW 134 (by decide +kernel) (by decide +kernel), inW 135 (by decide +kernel) (by decide +kernel), 5, _, rfl, by decide, rfl, inW 136 (by decide +kernel) (by decide +kernel)⟩, fun _ h => absurd h List.not_mem_nil⟩), (List.forall_mem_cons.mpr ⟨⟨mo_78, by decide⟩, fun _ h => absurd h List.not_mem_nil⟩)⟩),
  List.forall_mem_cons.mpr ⟨(show SE G 32 10 (.inl (i_cmp 3 36 13)) from s_icmp_ge (tg := 36) (off := 26) (by decide +kernel) (by decide)),
  List.forall_mem_cons.mpr ⟨(show SE G 32 13 (.inl (i_al 0 14)) from s_aload_n (j := 0) (by decide +kernel)),
  List.forall_mem_cons.mpr ⟨(show SE G 32 14 (.inl (i_get [1] 1 17)) from s_get (idx := 20) (kk := 1) hK (by decide +kernel) (inW 66 (by decide +kernel) (by decide +kernel)) fo_H_objects),
  List.forall_mem_cons.mpr ⟨(show SE G 32 17 (.inl (i_il 1 18)) from s_iload_n (j := 1) (by decide +kernel)),
  List.forall_mem_cons.mpr ⟨(show SE G 32 18 (.inr (.inl (false, 2, [(6, 79)], 21))) from ⟨c_virt (idx := 161) (n := 1) hK (by decide +kernel) (List.forall_mem_cons.mpr ⟨⟨ko_79, inW 138 (by decide +kernel) (by decide +kernel), inW 139 (by decide +kernel) (by decide +kernel), 5, _, rfl, by decide, rfl, inW 140 (by decide +kernel) (by decide +kernel)⟩, fun _ h => absurd h List.not_mem_nil⟩), (List.forall_mem_cons.mpr ⟨⟨mo_79, by decide⟩, fun _ h => absurd h List.not_mem_nil⟩)⟩),
  List.forall_mem_cons.mpr ⟨(show SE G 32 21 (.inl (i_as 2 22)) from s_astore_n (j := 2) (by decide +kernel) (by decide)),
  List.forall_mem_cons.mpr ⟨(show SE G 32 22 (.inl (i_al 2 23)) from s_aload_n (j := 2) (by decide +kernel)),
  List.forall_mem_cons.mpr ⟨(show SE G 32 23 (.inl (i_nul 30 26)) from s_ifnull (tg := 30) (off := 7) (by decide +kernel) (by decide)),
  List.forall_mem_cons.mpr ⟨(show SE G 32 26 (.inl (i_al 2 27)) from s_aload_n (j := 2) (by decide +kernel)),
  List.forall_mem_cons.mpr ⟨(show SE G 32 27 (.inr (.inl (false, 1, [(3, 99), (4, 104), (5, 91)], 30))) from ⟨c_abs (idx := 178) (n := 0) (x := ⟨"ResurrectingHeap$Thing", "loseUnmarked", "()V"⟩) (owner := "ResurrectingHeap$Thing") hK (by decide +kernel) (inW 181 (by decide +kernel) (by decide +kernel)) (inW 183 (by decide +kernel) (by decide +kernel)) (inW 182 (by decide +kernel) (by decide +kernel)) (by decide) (by decide +kernel) (List.forall_mem_cons.mpr ⟨⟨ko_99, inW 188 (by decide +kernel) (by decide +kernel), 2, _, rfl, by decide, rfl, inW 187 (by decide +kernel) (by decide +kernel)⟩, List.forall_mem_cons.mpr ⟨⟨ko_104, inW 191 (by decide +kernel) (by decide +kernel), 3, _, rfl, by decide, rfl, inW 190 (by decide +kernel) (by decide +kernel)⟩, List.forall_mem_cons.mpr ⟨⟨ko_91, inW 185 (by decide +kernel) (by decide +kernel), 4, _, rfl, by decide, rfl, inW 184 (by decide +kernel) (by decide +kernel)⟩, fun _ h => absurd h List.not_mem_nil⟩⟩⟩), (List.forall_mem_cons.mpr ⟨⟨mo_99, by decide⟩, List.forall_mem_cons.mpr ⟨⟨mo_104, by decide⟩, List.forall_mem_cons.mpr ⟨⟨mo_91, by decide⟩, fun _ h => absurd h List.not_mem_nil⟩⟩⟩)⟩),
  List.forall_mem_cons.mpr ⟨(show SE G 32 30 (.inl (i_ii 1 1 33)) from s_iinc (j := 1) (n := 1) (by decide +kernel) (by decide)),
  List.forall_mem_cons.mpr ⟨(show SE G 32 33 (.inl (i_go 2)) from s_goto (tg := 2) (off := -31) (by decide +kernel) (by decide)),
  List.forall_mem_cons.mpr ⟨(show SE G 32 36 (.inr (.inr 3)) from ⟨(by decide +kernel), rfl⟩),
  fun _ h => absurd h List.not_mem_nil⟩⟩⟩⟩⟩⟩⟩⟩⟩⟩⟩⟩⟩⟩⟩⟩⟩⟩⟩
set_option maxRecDepth 20000 in
theorem ok_l_33_0 (hK : K0 G) : ∀ q ∈ l_33_0, SE G 33 q.1 q.2 :=
  List.forall_mem_cons.mpr ⟨(show SE G 33 0 (.inl (i_c 0 1)) from s_iconst (e := 0) (by decide +kernel) (by decide)),
  List.forall_mem_cons.mpr ⟨(show SE G 33 1 (.inl (i_is 1 2)) from s_istore_n (j := 1) (by decide +kernel) (by decide)),
  List.forall_mem_cons.mpr ⟨(show SE G 33 2 (.inl (i_il 1 3)) from s_iload_n (j := 1) (by decide +kernel)),
  List.forall_mem_cons.mpr ⟨(show SE G 33 3 (.inl (i_al 0 4)) from s_aload_n (j := 0) (by decide +kernel)),
  List.forall_mem_cons.mpr ⟨(show SE G 33 4 (.inl (i_get [1] 2 7)) from s_get (idx := 24) (kk := 2) hK (by decide +kernel) (inW 67 (by decide +kernel) (by decide +kernel)) fo_H_registered),
  List.forall_mem_cons.mpr ⟨(show SE G 33 7 (.inr (.inl (false, 1, [(6, 78)], 10))) from ⟨c_virt (idx := 95) (n := 0) hK (by decide +kernel) (List.forall_mem_cons.mpr ⟨⟨ko_78, inW 134 (by decide +kernel) (by decide +kernel), inW 135 (by decide +kernel) (by decide +kernel), 5, _, rfl, by decide, rfl, inW 136 (by decide +kernel) (by decide +kernel)⟩, fun _ h => absurd h List.not_mem_nil⟩), (List.forall_mem_cons.mpr ⟨⟨mo_78, by decide⟩, fun _ h => absurd h List.not_mem_nil⟩)⟩),
  List.forall_mem_cons.mpr ⟨(show SE G 33 10 (.inl (i_cmp 3 47 13)) from s_icmp_ge (tg := 47) (off := 37) (by decide +kernel) (by decide)),
  List.forall_mem_cons.mpr ⟨(show SE G 33 13 (.inl (i_al 0 14)) from s_aload_n (j := 0) (by decide +kernel)),
  List.forall_mem_cons.mpr ⟨(show SE G 33 14 (.inl (i_get [1] 2 17)) from s_get (idx := 24) (kk := 2) hK (by decide +kernel) (inW 67 (by decide +kernel) (by decide +kernel)) fo_H_registered),
  List.forall_mem_cons.mpr ⟨(show SE G 33 17 (.inl (i_il 1 18)) from s_iload_n (j := 1) (by decide +kernel)),
  List.forall_mem_cons.mpr ⟨(show SE G 33 18 (.inr (.inl (false, 2, [(6, 79)], 21))) from ⟨c_virt (idx := 161) (n := 1) hK (by decide +kernel) (List.forall_mem_cons.mpr ⟨⟨ko_79, inW 138 (by decide +kernel) (by decide +kernel), inW 139 (by decide +kernel) (by decide +kernel), 5, _, rfl, by decide, rfl, inW 140 (by decide +kernel) (by decide +kernel)⟩, fun _ h => absurd h List.not_mem_nil⟩), (List.forall_mem_cons.mpr ⟨⟨mo_79, by decide⟩, fun _ h => absurd h List.not_mem_nil⟩)⟩),
  List.forall_mem_cons.mpr ⟨(show SE G 33 21 (.inl (i_as 2 22)) from s_astore_n (j := 2) (by decide +kernel) (by decide)),
  List.forall_mem_cons.mpr ⟨(show SE G 33 22 (.inl (i_al 2 23)) from s_aload_n (j := 2) (by decide +kernel)),
  List.forall_mem_cons.mpr ⟨(show SE G 33 23 (.inl (i_nul 41 26)) from s_ifnull (tg := 41) (off := 18) (by decide +kernel) (by decide)),
  List.forall_mem_cons.mpr ⟨(show SE G 33 26 (.inl (i_al 2 27)) from s_aload_n (j := 2) (by decide +kernel)),
  List.forall_mem_cons.mpr ⟨(show SE G 33 27 (.inl (i_get [3, 4, 5] 3 30)) from s_get (idx := 164) (kk := 3) hK (by decide +kernel) (inW 229 (by decide +kernel) (by decide +kernel)) fo_G_marked),
  List.forall_mem_cons.mpr ⟨(show SE G 33 30 (.inl (i_z 1 41 33)) from s_if_ne (tg := 41) (off := 11) (by decide +kernel) (by decide)),
  List.forall_mem_cons.mpr ⟨(show SE G 33 33 (.inl (i_al 0 34)) from s_aload_n (j := 0) (by decide +kernel)),
  List.forall_mem_cons.mpr ⟨(show SE G 33 34 (.inl (i_get [1] 3 37)) from s_get (idx := 27) (kk := 3) hK (by decide +kernel) (inW 68 (by decide +kernel) (by decide +kernel)) fo_H_waitingRow),
  List.forall_mem_cons.mpr ⟨(show SE G 33 37 (.inl (i_al 2 38)) from s_aload_n (j := 2) (by decide +kernel)),
  List.forall_mem_cons.mpr ⟨(show SE G 33 38 (.inr (.inl (false, 2, [(6, 80)], 41))) from ⟨c_virt (idx := 102) (n := 1) hK (by decide +kernel) (List.forall_mem_cons.mpr ⟨⟨ko_80, inW 197 (by decide +kernel) (by decide +kernel), inW 198 (by decide +kernel) (by decide +kernel), 5, _, rfl, by decide, rfl, inW 199 (by decide +kernel) (by decide +kernel)⟩, fun _ h => absurd h List.not_mem_nil⟩), (List.forall_mem_cons.mpr ⟨⟨mo_80, by decide⟩, fun _ h => absurd h List.not_mem_nil⟩)⟩),
  List.forall_mem_cons.mpr ⟨(show SE G 33 41 (.inl (i_ii 1 1 44)) from s_iinc (j := 1) (n := 1) (by decide +kernel) (by decide)),
  List.forall_mem_cons.mpr ⟨(show SE G 33 44 (.inl (i_go 2)) from s_goto (tg := 2) (off := -42) (by decide +kernel) (by decide)),
  List.forall_mem_cons.mpr ⟨(show SE G 33 47 (.inl (i_al 0 48)) from s_aload_n (j := 0) (by decide +kernel)),
  List.forall_mem_cons.mpr ⟨(show SE G 33 48 (.inl (i_get [1] 2 51)) from s_get (idx := 24) (kk := 2) hK (by decide +kernel) (inW 67 (by decide +kernel) (by decide +kernel)) fo_H_registered),
  List.forall_mem_cons.mpr ⟨(show SE G 33 51 (.inr (.inl (false, 1, [(6, 83)], 54))) from ⟨c_virt (idx := 155) (n := 0) hK (by decide +kernel) (List.forall_mem_cons.mpr ⟨⟨ko_83, inW 201 (by decide +kernel) (by decide +kernel), inW 202 (by decide +kernel) (by decide +kernel), 5, _, rfl, by decide, rfl, inW 203 (by decide +kernel) (by decide +kernel)⟩, fun _ h => absurd h List.not_mem_nil⟩), (List.forall_mem_cons.mpr ⟨⟨mo_83, by decide⟩, fun _ h => absurd h List.not_mem_nil⟩)⟩),
  List.forall_mem_cons.mpr ⟨(show SE G 33 54 (.inl (i_pop 55)) from s_pop (by decide +kernel)),
  List.forall_mem_cons.mpr ⟨(show SE G 33 55 (.inl (i_al 0 56)) from s_aload_n (j := 0) (by decide +kernel)),
  List.forall_mem_cons.mpr ⟨(show SE G 33 56 (.inl (i_get [1] 3 59)) from s_get (idx := 27) (kk := 3) hK (by decide +kernel) (inW 68 (by decide +kernel) (by decide +kernel)) fo_H_waitingRow),
  List.forall_mem_cons.mpr ⟨(show SE G 33 59 (.inr (.inl (false, 1, [(6, 82)], 62))) from ⟨c_virt (idx := 143) (n := 0) hK (by decide +kernel) (List.forall_mem_cons.mpr ⟨⟨ko_82, inW 150 (by decide +kernel) (by decide +kernel), inW 151 (by decide +kernel) (by decide +kernel), 5, _, rfl, by decide, rfl, inW 152 (by decide +kernel) (by decide +kernel)⟩, fun _ h => absurd h List.not_mem_nil⟩), (List.forall_mem_cons.mpr ⟨⟨mo_82, by decide⟩, fun _ h => absurd h List.not_mem_nil⟩)⟩),
  fun _ h => absurd h List.not_mem_nil⟩⟩⟩⟩⟩⟩⟩⟩⟩⟩⟩⟩⟩⟩⟩⟩⟩⟩⟩⟩⟩⟩⟩⟩⟩⟩⟩⟩⟩⟩
set_option maxRecDepth 20000 in
theorem ok_l_33_1 (hK : K0 G) : ∀ q ∈ l_33_1, SE G 33 q.1 q.2 :=
  List.forall_mem_cons.mpr ⟨(show SE G 33 62 (.inr (.inr 3)) from ⟨(by decide +kernel), rfl⟩),
  fun _ h => absurd h List.not_mem_nil⟩
theorem ok_l_33 (hK : K0 G) : ∀ q ∈ l_33, SE G 33 q.1 q.2 := by
  show ∀ q ∈ l_33_0 ++ (l_33_1), SE G 33 q.1 q.2
  exact List.forall_mem_append.mpr ⟨ok_l_33_0 hK, ok_l_33_1 hK⟩
set_option maxRecDepth 20000 in
theorem ok_l_34_0 (hK : K0 G) : ∀ q ∈ l_34_0, SE G 34 q.1 q.2 :=
  List.forall_mem_cons.mpr ⟨(show SE G 34 0 (.inl (i_al 0 1)) from s_aload_n (j := 0) (by decide +kernel)),
  List.forall_mem_cons.mpr ⟨(show SE G 34 1 (.inl (i_c 0 2)) from s_iconst (e := 0) (by decide +kernel) (by decide)),
  List.forall_mem_cons.mpr ⟨(show SE G 34 2 (.inl (i_put [1] 4 0 5)) from s_put (idx := 128) (kk := 4) (ty := 0) hK (by decide +kernel) (inW 69 (by decide +kernel) (by decide +kernel)) fo_H_usedCells po_34_H_usedCells),
  List.forall_mem_cons.mpr ⟨(show SE G 34 5 (.inl (i_c 0 6)) from s_iconst (e := 0) (by decide +kernel) (by decide)),
  List.forall_mem_cons.mpr ⟨(show SE G 34 6 (.inl (i_is 1 7)) from s_istore_n (j := 1) (by decide +kernel) (by decide)),
  List.forall_mem_cons.mpr ⟨(show SE G 34 7 (.inl (i_il 1 8)) from s_iload_n (j := 1) (by decide +kernel)),
  List.forall_mem_cons.mpr ⟨(show SE G 34 8 (.inl (i_al 0 9)) from s_aload_n (j := 0) (by decide +kernel)),
  List.forall_mem_cons.mpr ⟨(show SE G 34 9 (.inl (i_get [1] 1 12)) from s_get (idx := 20) (kk := 1) hK (by decide +kernel) (inW 66 (by decide +kernel) (by decide +kernel)) fo_H_objects),
  List.forall_mem_cons.mpr ⟨(show SE G 34 12 (.inr (.inl (false, 1, [(6, 78)], 15))) from ⟨c_virt (idx := 95) (n := 0) hK (by decide +kernel) (List.forall_mem_cons.mpr ⟨⟨ko_78, inW 134 (by decide +kernel) (by decide +kernel), inW 135 (by decide +kernel) (by decide +kernel), 5, _, rfl, by decide, rfl, inW 136 (by decide +kernel) (by decide +kernel)⟩, fun _ h => absurd h List.not_mem_nil⟩), (List.forall_mem_cons.mpr ⟨⟨mo_78, by decide⟩, fun _ h => absurd h List.not_mem_nil⟩)⟩),
  List.forall_mem_cons.mpr ⟨(show SE G 34 15 (.inl (i_cmp 3 58 18)) from s_icmp_ge (tg := 58) (off := 43) (by decide +kernel) (by decide)),
  List.forall_mem_cons.mpr ⟨(show SE G 34 18 (.inl (i_al 0 19)) from s_aload_n (j := 0) (by decide +kernel)),
  List.forall_mem_cons.mpr ⟨(show SE G 34 19 (.inl (i_get [1] 1 22)) from s_get (idx := 20) (kk := 1) hK (by decide +kernel) (inW 66 (by decide +kernel) (by decide +kernel)) fo_H_objects),
  List.forall_mem_cons.mpr ⟨(show SE G 34 22 (.inl (i_il 1 23)) from s_iload_n (j := 1) (by decide +kernel)),
  List.forall_mem_cons.mpr ⟨(show SE G 34 23 (.inr (.inl (false, 2, [(6, 79)], 26))) from ⟨c_virt (idx := 161) (n := 1) hK (by decide +kernel) (List.forall_mem_cons.mpr ⟨⟨ko_79, inW 138 (by decide +kernel) (by decide +kernel), inW 139 (by decide +kernel) (by decide +kernel), 5, _, rfl, by decide, rfl, inW 140 (by decide +kernel) (by decide +kernel)⟩, fun _ h => absurd h List.not_mem_nil⟩), (List.forall_mem_cons.mpr ⟨⟨mo_79, by decide⟩, fun _ h => absurd h List.not_mem_nil⟩)⟩),
  List.forall_mem_cons.mpr ⟨(show SE G 34 26 (.inl (i_as 2 27)) from s_astore_n (j := 2) (by decide +kernel) (by decide)),
  List.forall_mem_cons.mpr ⟨(show SE G 34 27 (.inl (i_al 2 28)) from s_aload_n (j := 2) (by decide +kernel)),
  List.forall_mem_cons.mpr ⟨(show SE G 34 28 (.inl (i_nul 52 31)) from s_ifnull (tg := 52) (off := 24) (by decide +kernel) (by decide)),
  List.forall_mem_cons.mpr ⟨(show SE G 34 31 (.inl (i_al 2 32)) from s_aload_n (j := 2) (by decide +kernel)),
  List.forall_mem_cons.mpr ⟨(show SE G 34 32 (.inl (i_al 0 33)) from s_aload_n (j := 0) (by decide +kernel)),
  List.forall_mem_cons.mpr ⟨(show SE G 34 33 (.inl (i_get [1] 4 36)) from s_get (idx := 128) (kk := 4) hK (by decide +kernel) (inW 69 (by decide +kernel) (by decide +kernel)) fo_H_usedCells),
  List.forall_mem_cons.mpr ⟨(show SE G 34 36 (.inl (i_put [3, 4, 5] 2 0 39)) from s_put (idx := 122) (kk := 2) (ty := 0) hK (by decide +kernel) (inW 225 (by decide +kernel) (by decide +kernel)) fo_G_place po_34_G_place),
  List.forall_mem_cons.mpr ⟨(show SE G 34 39 (.inl (i_al 0 40)) from s_aload_n (j := 0) (by decide +kernel)),
  List.forall_mem_cons.mpr ⟨(show SE G 34 40 (.inl (i_dup 41)) from s_dup (by decide +kernel)),
  List.forall_mem_cons.mpr ⟨(show SE G 34 41 (.inl (i_get [1] 4 44)) from s_get (idx := 128) (kk := 4) hK (by decide +kernel) (inW 69 (by decide +kernel) (by decide +kernel)) fo_H_usedCells),
  List.forall_mem_cons.mpr ⟨(show SE G 34 44 (.inl (i_al 2 45)) from s_aload_n (j := 2) (by decide +kernel)),
  List.forall_mem_cons.mpr ⟨(show SE G 34 45 (.inl (i_get [3, 4, 5] 1 48)) from s_get (idx := 134) (kk := 1) hK (by decide +kernel) (inW 224 (by decide +kernel) (by decide +kernel)) fo_G_cells),
  List.forall_mem_cons.mpr ⟨(show SE G 34 48 (.inl (i_bin (fun a b => a + b) 49)) from s_iadd (by decide +kernel)),
  List.forall_mem_cons.mpr ⟨(show SE G 34 49 (.inl (i_put [1] 4 0 52)) from s_put (idx := 128) (kk := 4) (ty := 0) hK (by decide +kernel) (inW 69 (by decide +kernel) (by decide +kernel)) fo_H_usedCells po_34_H_usedCells),
  List.forall_mem_cons.mpr ⟨(show SE G 34 52 (.inl (i_ii 1 1 55)) from s_iinc (j := 1) (n := 1) (by decide +kernel) (by decide)),
  List.forall_mem_cons.mpr ⟨(show SE G 34 55 (.inl (i_go 7)) from s_goto (tg := 7) (off := -48) (by decide +kernel) (by decide)),
  fun _ h => absurd h List.not_mem_nil⟩⟩⟩⟩⟩⟩⟩⟩⟩⟩⟩⟩⟩⟩⟩⟩⟩⟩⟩⟩⟩⟩⟩⟩⟩⟩⟩⟩⟩⟩
set_option maxRecDepth 20000 in
theorem ok_l_34_1 (hK : K0 G) : ∀ q ∈ l_34_1, SE G 34 q.1 q.2 :=
  List.forall_mem_cons.mpr ⟨(show SE G 34 58 (.inr (.inr 3)) from ⟨(by decide +kernel), rfl⟩),
  fun _ h => absurd h List.not_mem_nil⟩
theorem ok_l_34 (hK : K0 G) : ∀ q ∈ l_34, SE G 34 q.1 q.2 := by
  show ∀ q ∈ l_34_0 ++ (l_34_1), SE G 34 q.1 q.2
  exact List.forall_mem_append.mpr ⟨ok_l_34_0 hK, ok_l_34_1 hK⟩
set_option maxRecDepth 20000 in
theorem ok_l_35 (hK : K0 G) : ∀ q ∈ l_35, SE G 35 q.1 q.2 :=
  List.forall_mem_cons.mpr ⟨(show SE G 35 0 (.inl (i_al 0 1)) from s_aload_n (j := 0) (by decide +kernel)),
  List.forall_mem_cons.mpr ⟨(show SE G 35 1 (.inl (i_ins [3, 4, 5] [2] 4)) from s_inst (idx := 90) (E := "ResurrectingHeap$Thing") hK (by decide +kernel) (inW 149 (by decide +kernel) (by decide +kernel)) yo_G zo_G),
  List.forall_mem_cons.mpr ⟨(show SE G 35 4 (.inl (i_z 0 26 7)) from s_if_eq (tg := 26) (off := 22) (by decide +kernel) (by decide)),
  List.forall_mem_cons.mpr ⟨(show SE G 35 7 (.inl (i_al 0 8)) from s_aload_n (j := 0) (by decide +kernel)),
  List.forall_mem_cons.mpr ⟨(show SE G 35 8 (.inl (i_cst [3, 4, 5] 11)) from s_cast (idx := 90) (E := "ResurrectingHeap$Thing") hK (by decide +kernel) (inW 149 (by decide +kernel) (by decide +kernel)) yo_G),
  List.forall_mem_cons.mpr ⟨(show SE G 35 11 (.inl (i_as 1 12)) from s_astore_n (j := 1) (by decide +kernel) (by decide)),
  List.forall_mem_cons.mpr ⟨(show SE G 35 12 (.inl (i_al 1 13)) from s_aload_n (j := 1) (by decide +kernel)),
  List.forall_mem_cons.mpr ⟨(show SE G 35 13 (.inl (i_get [3, 4, 5] 3 16)) from s_get (idx := 164) (kk := 3) hK (by decide +kernel) (inW 229 (by decide +kernel) (by decide +kernel)) fo_G_marked),
  List.forall_mem_cons.mpr ⟨(show SE G 35 16 (.inl (i_z 1 26 19)) from s_if_ne (tg := 26) (off := 10) (by decide +kernel) (by decide)),
  List.forall_mem_cons.mpr ⟨(show SE G 35 19 (.inl (i_al 1 20)) from s_aload_n (j := 1) (by decide +kernel)),
  List.forall_mem_cons.mpr ⟨(show SE G 35 20 (.inl (i_c 1 21)) from s_iconst (e := 1) (by decide +kernel) (by decide)),
  List.forall_mem_cons.mpr ⟨(show SE G 35 21 (.inl (i_put [3, 4, 5] 3 1 24)) from s_put (idx := 164) (kk := 3) (ty := 1) hK (by decide +kernel) (inW 229 (by decide +kernel) (by decide +kernel)) fo_G_marked po_35_G_marked),
  List.forall_mem_cons.mpr ⟨(show SE G 35 24 (.inl (i_c 1 25)) from s_iconst (e := 1) (by decide +kernel) (by decide)),
  List.forall_mem_cons.mpr ⟨(show SE G 35 25 (.inr (.inr 1)) from ⟨(by decide +kernel), rfl⟩),
  List.forall_mem_cons.mpr ⟨(show SE G 35 26 (.inl (i_c 0 27)) from s_iconst (e := 0) (by decide +kernel) (by decide)),
  List.forall_mem_cons.mpr ⟨(show SE G 35 27 (.inr (.inr 1)) from ⟨(by decide +kernel), rfl⟩),
  fun _ h => absurd h List.not_mem_nil⟩⟩⟩⟩⟩⟩⟩⟩⟩⟩⟩⟩⟩⟩⟩⟩
set_option maxRecDepth 20000 in
theorem ok_l_36_0 (hK : K0 G) : ∀ q ∈ l_36_0, SE G 36 q.1 q.2 :=
  List.forall_mem_cons.mpr ⟨(show SE G 36 0 (.inl (i_al 0 1)) from s_aload_n (j := 0) (by decide +kernel)),
  List.forall_mem_cons.mpr ⟨(show SE G 36 1 (.inl (i_obj 4)) from s_obj (idx := 1) (by decide +kernel) (inW 416 (by decide +kernel) (by decide +kernel)) (inW 46 (by decide +kernel) (by decide +kernel)) (inW 47 (by decide +kernel) (by decide +kernel))),
  List.forall_mem_cons.mpr ⟨(show SE G 36 4 (.inl (i_al 0 5)) from s_aload_n (j := 0) (by decide +kernel)),
  List.forall_mem_cons.mpr ⟨(show SE G 36 5 (.inl (i_c 6 7)) from s_bipush (e := 6) (by decide +kernel) (by decide +kernel) (by decide)),
  List.forall_mem_cons.mpr ⟨(show SE G 36 7 (.inl (i_newa 20 (.inl 0) 9)) from s_newa (at_ := .int) (j := 0) hK (by decide +kernel) (by decide) rfl (by decide) (by decide) (fun cA h => h)),
  List.forall_mem_cons.mpr ⟨(show SE G 36 9 (.inl (i_put [7] 0 2 12)) from s_put (idx := 7) (kk := 0) (ty := 2) hK (by decide +kernel) (inW 417 (by decide +kernel) (by decide +kernel)) fo_M_varIs po_36_M_varIs),
  List.forall_mem_cons.mpr ⟨(show SE G 36 12 (.inl (i_al 0 13)) from s_aload_n (j := 0) (by decide +kernel)),
  List.forall_mem_cons.mpr ⟨(show SE G 36 13 (.inl (i_c 6 15)) from s_bipush (e := 6) (by decide +kernel) (by decide +kernel) (by decide)),
  List.forall_mem_cons.mpr ⟨(show SE G 36 15 (.inl (i_newa 20 (.inl 0) 17)) from s_newa (at_ := .int) (j := 0) hK (by decide +kernel) (by decide) rfl (by decide) (by decide) (fun cA h => h)),
  List.forall_mem_cons.mpr ⟨(show SE G 36 17 (.inl (i_put [7] 1 2 20)) from s_put (idx := 13) (kk := 1) (ty := 2) hK (by decide +kernel) (inW 418 (by decide +kernel) (by decide +kernel)) fo_M_varHas po_36_M_varHas),
  List.forall_mem_cons.mpr ⟨(show SE G 36 20 (.inl (i_al 0 21)) from s_aload_n (j := 0) (by decide +kernel)),
  List.forall_mem_cons.mpr ⟨(show SE G 36 21 (.inl (i_c 20 23)) from s_bipush (e := 20) (by decide +kernel) (by decide +kernel) (by decide)),
  List.forall_mem_cons.mpr ⟨(show SE G 36 23 (.inl (i_newa 20 (.inl 0) 25)) from s_newa (at_ := .int) (j := 0) hK (by decide +kernel) (by decide) rfl (by decide) (by decide) (fun cA h => h)),
  List.forall_mem_cons.mpr ⟨(show SE G 36 25 (.inl (i_put [7] 4 2 28)) from s_put (idx := 16) (kk := 4) (ty := 2) hK (by decide +kernel) (inW 421 (by decide +kernel) (by decide +kernel)) fo_M_name po_36_M_name),
  List.forall_mem_cons.mpr ⟨(show SE G 36 28 (.inl (i_al 0 29)) from s_aload_n (j := 0) (by decide +kernel)),
  List.forall_mem_cons.mpr ⟨(show SE G 36 29 (.inl (i_c 20 31)) from s_bipush (e := 20) (by decide +kernel) (by decide +kernel) (by decide)),
  List.forall_mem_cons.mpr ⟨(show SE G 36 31 (.inl (i_newa 20 (.inl 0) 33)) from s_newa (at_ := .int) (j := 0) hK (by decide +kernel) (by decide) rfl (by decide) (by decide) (fun cA h => h)),
  List.forall_mem_cons.mpr ⟨(show SE G 36 33 (.inl (i_put [7] 5 2 36)) from s_put (idx := 19) (kk := 5) (ty := 2) hK (by decide +kernel) (inW 422 (by decide +kernel) (by decide +kernel)) fo_M_sort po_36_M_sort),
  List.forall_mem_cons.mpr ⟨(show SE G 36 36 (.inl (i_al 0 37)) from s_aload_n (j := 0) (by decide +kernel)),
  List.forall_mem_cons.mpr ⟨(show SE G 36 37 (.inl (i_c 20 39)) from s_bipush (e := 20) (by decide +kernel) (by decide +kernel) (by decide)),
  List.forall_mem_cons.mpr ⟨(show SE G 36 39 (.inl (i_newa 20 (.inl 0) 41)) from s_newa (at_ := .int) (j := 0) hK (by decide +kernel) (by decide) rfl (by decide) (by decide) (fun cA h => h)),
  List.forall_mem_cons.mpr ⟨(show SE G 36 41 (.inl (i_put [7] 6 2 44)) from s_put (idx := 22) (kk := 6) (ty := 2) hK (by decide +kernel) (inW 423 (by decide +kernel) (by decide +kernel)) fo_M_many po_36_M_many),
  List.forall_mem_cons.mpr ⟨(show SE G 36 44 (.inl (i_al 0 45)) from s_aload_n (j := 0) (by decide +kernel)),
  List.forall_mem_cons.mpr ⟨(show SE G 36 45 (.inl (i_c 80 47)) from s_bipush (e := 80) (by decide +kernel) (by decide +kernel) (by decide)),
  List.forall_mem_cons.mpr ⟨(show SE G 36 47 (.inl (i_newa 20 (.inl 0) 49)) from s_newa (at_ := .int) (j := 0) hK (by decide +kernel) (by decide) rfl (by decide) (by decide) (fun cA h => h)),
  List.forall_mem_cons.mpr ⟨(show SE G 36 49 (.inl (i_put [7] 7 2 52)) from s_put (idx := 25) (kk := 7) (ty := 2) hK (by decide +kernel) (inW 424 (by decide +kernel) (by decide +kernel)) fo_M_is po_36_M_is),
  List.forall_mem_cons.mpr ⟨(show SE G 36 52 (.inl (i_al 0 53)) from s_aload_n (j := 0) (by decide +kernel)),
  List.forall_mem_cons.mpr ⟨(show SE G 36 53 (.inl (i_c 80 55)) from s_bipush (e := 80) (by decide +kernel) (by decide +kernel) (by decide)),
  List.forall_mem_cons.mpr ⟨(show SE G 36 55 (.inl (i_newa 20 (.inl 0) 57)) from s_newa (at_ := .int) (j := 0) hK (by decide +kernel) (by decide) rfl (by decide) (by decide) (fun cA h => h)),
  List.forall_mem_cons.mpr ⟨(show SE G 36 57 (.inl (i_put [7] 8 2 60)) from s_put (idx := 28) (kk := 8) (ty := 2) hK (by decide +kernel) (inW 425 (by decide +kernel) (by decide +kernel)) fo_M_has po_36_M_has),
  fun _ h => absurd h List.not_mem_nil⟩⟩⟩⟩⟩⟩⟩⟩⟩⟩⟩⟩⟩⟩⟩⟩⟩⟩⟩⟩⟩⟩⟩⟩⟩⟩⟩⟩⟩⟩
set_option maxRecDepth 20000 in
theorem ok_l_36_1 (hK : K0 G) : ∀ q ∈ l_36_1, SE G 36 q.1 q.2 :=
  List.forall_mem_cons.mpr ⟨(show SE G 36 60 (.inl (i_al 0 61)) from s_aload_n (j := 0) (by decide +kernel)),
  List.forall_mem_cons.mpr ⟨(show SE G 36 61 (.inl (i_c 80 63)) from s_bipush (e := 80) (by decide +kernel) (by decide +kernel) (by decide)),
  List.forall_mem_cons.mpr ⟨(show SE G 36 63 (.inl (i_newa 20 (.inl 0) 65)) from s_newa (at_ := .int) (j := 0) hK (by decide +kernel) (by decide) rfl (by decide) (by decide) (fun cA h => h)),
  List.forall_mem_cons.mpr ⟨(show SE G 36 65 (.inl (i_put [7] 9 2 68)) from s_put (idx := 31) (kk := 9) (ty := 2) hK (by decide +kernel) (inW 426 (by decide +kernel) (by decide +kernel)) fo_M_keys po_36_M_keys),
  List.forall_mem_cons.mpr ⟨(show SE G 36 68 (.inl (i_al 0 69)) from s_aload_n (j := 0) (by decide +kernel)),
  List.forall_mem_cons.mpr ⟨(show SE G 36 69 (.inl (i_c 20 71)) from s_bipush (e := 20) (by decide +kernel) (by decide +kernel) (by decide)),
  List.forall_mem_cons.mpr ⟨(show SE G 36 71 (.inl (i_newa 21 (.inl 0) 73)) from s_newa (at_ := .boolean) (j := 1) hK (by decide +kernel) (by decide) rfl (by decide) (by decide) (fun cA h => h)),
  List.forall_mem_cons.mpr ⟨(show SE G 36 73 (.inl (i_put [7] 10 2 76)) from s_put (idx := 34) (kk := 10) (ty := 2) hK (by decide +kernel) (inW 427 (by decide +kernel) (by decide +kernel)) fo_M_mark po_36_M_mark),
  List.forall_mem_cons.mpr ⟨(show SE G 36 76 (.inl (i_al 0 77)) from s_aload_n (j := 0) (by decide +kernel)),
  List.forall_mem_cons.mpr ⟨(show SE G 36 77 (.inl (i_c 8 79)) from s_bipush (e := 8) (by decide +kernel) (by decide +kernel) (by decide)),
  List.forall_mem_cons.mpr ⟨(show SE G 36 79 (.inl (i_newa 20 (.inl 0) 81)) from s_newa (at_ := .int) (j := 0) hK (by decide +kernel) (by decide) rfl (by decide) (by decide) (fun cA h => h)),
  List.forall_mem_cons.mpr ⟨(show SE G 36 81 (.inl (i_put [7] 12 2 84)) from s_put (idx := 38) (kk := 12) (ty := 2) hK (by decide +kernel) (inW 429 (by decide +kernel) (by decide +kernel)) fo_M_regName po_36_M_regName),
  List.forall_mem_cons.mpr ⟨(show SE G 36 84 (.inl (i_al 0 85)) from s_aload_n (j := 0) (by decide +kernel)),
  List.forall_mem_cons.mpr ⟨(show SE G 36 85 (.inl (i_c 8 87)) from s_bipush (e := 8) (by decide +kernel) (by decide +kernel) (by decide)),
  List.forall_mem_cons.mpr ⟨(show SE G 36 87 (.inl (i_newa 20 (.inl 0) 89)) from s_newa (at_ := .int) (j := 0) hK (by decide +kernel) (by decide) rfl (by decide) (by decide) (fun cA h => h)),
  List.forall_mem_cons.mpr ⟨(show SE G 36 89 (.inl (i_put [7] 13 2 92)) from s_put (idx := 41) (kk := 13) (ty := 2) hK (by decide +kernel) (inW 430 (by decide +kernel) (by decide +kernel)) fo_M_regTag po_36_M_regTag),
  List.forall_mem_cons.mpr ⟨(show SE G 36 92 (.inl (i_al 0 93)) from s_aload_n (j := 0) (by decide +kernel)),
  List.forall_mem_cons.mpr ⟨(show SE G 36 93 (.inl (i_c 8 95)) from s_bipush (e := 8) (by decide +kernel) (by decide +kernel) (by decide)),
  List.forall_mem_cons.mpr ⟨(show SE G 36 95 (.inl (i_newa 20 (.inl 0) 97)) from s_newa (at_ := .int) (j := 0) hK (by decide +kernel) (by decide) rfl (by decide) (by decide) (fun cA h => h)),
  List.forall_mem_cons.mpr ⟨(show SE G 36 97 (.inl (i_put [7] 15 2 100)) from s_put (idx := 44) (kk := 15) (ty := 2) hK (by decide +kernel) (inW 432 (by decide +kernel) (by decide +kernel)) fo_M_waitName po_36_M_waitName),
  List.forall_mem_cons.mpr ⟨(show SE G 36 100 (.inl (i_al 0 101)) from s_aload_n (j := 0) (by decide +kernel)),
  List.forall_mem_cons.mpr ⟨(show SE G 36 101 (.inl (i_c 8 103)) from s_bipush (e := 8) (by decide +kernel) (by decide +kernel) (by decide)),
  List.forall_mem_cons.mpr ⟨(show SE G 36 103 (.inl (i_newa 20 (.inl 0) 105)) from s_newa (at_ := .int) (j := 0) hK (by decide +kernel) (by decide) rfl (by decide) (by decide) (fun cA h => h)),
  List.forall_mem_cons.mpr ⟨(show SE G 36 105 (.inl (i_put [7] 16 2 108)) from s_put (idx := 47) (kk := 16) (ty := 2) hK (by decide +kernel) (inW 433 (by decide +kernel) (by decide +kernel)) fo_M_waitTag po_36_M_waitTag),
  List.forall_mem_cons.mpr ⟨(show SE G 36 108 (.inr (.inr 3)) from ⟨(by decide +kernel), rfl⟩),
  fun _ h => absurd h List.not_mem_nil⟩⟩⟩⟩⟩⟩⟩⟩⟩⟩⟩⟩⟩⟩⟩⟩⟩⟩⟩⟩⟩⟩⟩⟩⟩
theorem ok_l_36 (hK : K0 G) : ∀ q ∈ l_36, SE G 36 q.1 q.2 := by
  show ∀ q ∈ l_36_0 ++ (l_36_1), SE G 36 q.1 q.2
  exact List.forall_mem_append.mpr ⟨ok_l_36_0 hK, ok_l_36_1 hK⟩
set_option maxRecDepth 20000 in
theorem ok_l_37 (hK : K0 G) : ∀ q ∈ l_37, SE G 37 q.1 q.2 :=
  List.forall_mem_cons.mpr ⟨(show SE G 37 0 (.inl (i_il 0 1)) from s_iload_n (j := 0) (by decide +kernel)),
  List.forall_mem_cons.mpr ⟨(show SE G 37 1 (.inl (i_z 2 13 4)) from s_if_lt (tg := 13) (off := 12) (by decide +kernel) (by decide)),
  List.forall_mem_cons.mpr ⟨(show SE G 37 4 (.inl (i_il 0 5)) from s_iload_n (j := 0) (by decide +kernel)),
  List.forall_mem_cons.mpr ⟨(show SE G 37 5 (.inl (i_c 5 6)) from s_iconst (e := 5) (by decide +kernel) (by decide)),
  List.forall_mem_cons.mpr ⟨(show SE G 37 6 (.inl (i_cmp 4 13 9)) from s_icmp_gt (tg := 13) (off := 7) (by decide +kernel) (by decide)),
  List.forall_mem_cons.mpr ⟨(show SE G 37 9 (.inl (i_c 1 10)) from s_iconst (e := 1) (by decide +kernel) (by decide)),
  List.forall_mem_cons.mpr ⟨(show SE G 37 10 (.inl (i_go 14)) from s_goto (tg := 14) (off := 4) (by decide +kernel) (by decide)),
  List.forall_mem_cons.mpr ⟨(show SE G 37 13 (.inl (i_c 0 14)) from s_iconst (e := 0) (by decide +kernel) (by decide)),
  List.forall_mem_cons.mpr ⟨(show SE G 37 14 (.inr (.inr 1)) from ⟨(by decide +kernel), rfl⟩),
  fun _ h => absurd h List.not_mem_nil⟩⟩⟩⟩⟩⟩⟩⟩⟩
set_option maxRecDepth 20000 in
theorem ok_l_38 (hK : K0 G) : ∀ q ∈ l_38, SE G 38 q.1 q.2 :=
  List.forall_mem_cons.mpr ⟨(show SE G 38 0 (.inl (i_c (-1) 1)) from s_iconst (e := (-1)) (by decide +kernel) (by decide)),
  List.forall_mem_cons.mpr ⟨(show SE G 38 1 (.inl (i_is 2 2)) from s_istore_n (j := 2) (by decide +kernel) (by decide)),
  List.forall_mem_cons.mpr ⟨(show SE G 38 2 (.inl (i_c 0 3)) from s_iconst (e := 0) (by decide +kernel) (by decide)),
  List.forall_mem_cons.mpr ⟨(show SE G 38 3 (.inl (i_is 3 4)) from s_istore_n (j := 3) (by decide +kernel) (by decide)),
  List.forall_mem_cons.mpr ⟨(show SE G 38 4 (.inl (i_il 3 5)) from s_iload_n (j := 3) (by decide +kernel)),
  List.forall_mem_cons.mpr ⟨(show SE G 38 5 (.inl (i_al 0 6)) from s_aload_n (j := 0) (by decide +kernel)),
  List.forall_mem_cons.mpr ⟨(show SE G 38 6 (.inl (i_get [7] 2 9)) from s_get (idx := 50) (kk := 2) hK (by decide +kernel) (inW 419 (by decide +kernel) (by decide +kernel)) fo_M_objects),
  List.forall_mem_cons.mpr ⟨(show SE G 38 9 (.inl (i_cmp 3 34 12)) from s_icmp_ge (tg := 34) (off := 25) (by decide +kernel) (by decide)),
  List.forall_mem_cons.mpr ⟨(show SE G 38 12 (.inl (i_al 0 13)) from s_aload_n (j := 0) (by decide +kernel)),
  List.forall_mem_cons.mpr ⟨(show SE G 38 13 (.inl (i_get [7] 4 16)) from s_get (idx := 16) (kk := 4) hK (by decide +kernel) (inW 421 (by decide +kernel) (by decide +kernel)) fo_M_name),
  List.forall_mem_cons.mpr ⟨(show SE G 38 16 (.inl (i_il 3 17)) from s_iload_n (j := 3) (by decide +kernel)),
  List.forall_mem_cons.mpr ⟨(show SE G 38 17 (.inl (i_ld [20, 30] 18)) from s_iald hK (by decide +kernel)),
  List.forall_mem_cons.mpr ⟨(show SE G 38 18 (.inl (i_il 1 19)) from s_iload_n (j := 1) (by decide +kernel)),
  List.forall_mem_cons.mpr ⟨(show SE G 38 19 (.inl (i_cmp 1 26 22)) from s_icmp_ne (tg := 26) (off := 7) (by decide +kernel) (by decide)),
  List.forall_mem_cons.mpr ⟨(show SE G 38 22 (.inl (i_il 3 23)) from s_iload_n (j := 3) (by decide +kernel)),
  List.forall_mem_cons.mpr ⟨(show SE G 38 23 (.inl (i_go 27)) from s_goto (tg := 27) (off := 4) (by decide +kernel) (by decide)),
  List.forall_mem_cons.mpr ⟨(show SE G 38 26 (.inl (i_il 2 27)) from s_iload_n (j := 2) (by decide +kernel)),
  List.forall_mem_cons.mpr ⟨(show SE G 38 27 (.inl (i_is 2 28)) from s_istore_n (j := 2) (by decide +kernel) (by decide)),
  List.forall_mem_cons.mpr ⟨(show SE G 38 28 (.inl (i_ii 3 1 31)) from s_iinc (j := 3) (n := 1) (by decide +kernel) (by decide)),
  List.forall_mem_cons.mpr ⟨(show SE G 38 31 (.inl (i_go 4)) from s_goto (tg := 4) (off := -27) (by decide +kernel) (by decide)),
  List.forall_mem_cons.mpr ⟨(show SE G 38 34 (.inl (i_il 2 35)) from s_iload_n (j := 2) (by decide +kernel)),
  List.forall_mem_cons.mpr ⟨(show SE G 38 35 (.inr (.inr 0)) from ⟨(by decide +kernel), rfl⟩),
  fun _ h => absurd h List.not_mem_nil⟩⟩⟩⟩⟩⟩⟩⟩⟩⟩⟩⟩⟩⟩⟩⟩⟩⟩⟩⟩⟩⟩
set_option maxRecDepth 20000 in
theorem ok_l_39 (hK : K0 G) : ∀ q ∈ l_39, SE G 39 q.1 q.2 :=
  List.forall_mem_cons.mpr ⟨(show SE G 39 0 (.inl (i_il 1 1)) from s_iload_n (j := 1) (by decide +kernel)),
  List.forall_mem_cons.mpr ⟨(show SE G 39 1 (.inr (.inl (true, 1, [(0, 37)], 4))) from ⟨c_static (idx := 54) (n := 1) (k1 := 37) (by decide +kernel) ko_37 (inW 478 (by decide +kernel) (by decide +kernel)) (inW 479 (by decide +kernel) (by decide +kernel)), (List.forall_mem_cons.mpr ⟨⟨mo_37, by decide⟩, fun _ h => absurd h List.not_mem_nil⟩)⟩),
  List.forall_mem_cons.mpr ⟨(show SE G 39 4 (.inl (i_z 0 31 7)) from s_if_eq (tg := 31) (off := 27) (by decide +kernel) (by decide)),
  List.forall_mem_cons.mpr ⟨(show SE G 39 7 (.inl (i_al 0 8)) from s_aload_n (j := 0) (by decide +kernel)),
  List.forall_mem_cons.mpr ⟨(show SE G 39 8 (.inl (i_get [7] 0 11)) from s_get (idx := 7) (kk := 0) hK (by decide +kernel) (inW 417 (by decide +kernel) (by decide +kernel)) fo_M_varIs),
  List.forall_mem_cons.mpr ⟨(show SE G 39 11 (.inl (i_il 1 12)) from s_iload_n (j := 1) (by decide +kernel)),
  List.forall_mem_cons.mpr ⟨(show SE G 39 12 (.inl (i_ld [20, 30] 13)) from s_iald hK (by decide +kernel)),
  List.forall_mem_cons.mpr ⟨(show SE G 39 13 (.inl (i_c 9 15)) from s_bipush (e := 9) (by decide +kernel) (by decide +kernel) (by decide)),
  List.forall_mem_cons.mpr ⟨(show SE G 39 15 (.inl (i_cmp 1 31 18)) from s_icmp_ne (tg := 31) (off := 16) (by decide +kernel) (by decide)),
  List.forall_mem_cons.mpr ⟨(show SE G 39 18 (.inl (i_al 0 19)) from s_aload_n (j := 0) (by decide +kernel)),
  List.forall_mem_cons.mpr ⟨(show SE G 39 19 (.inl (i_al 0 20)) from s_aload_n (j := 0) (by decide +kernel)),
  List.forall_mem_cons.mpr ⟨(show SE G 39 20 (.inl (i_get [7] 1 23)) from s_get (idx := 13) (kk := 1) hK (by decide +kernel) (inW 418 (by decide +kernel) (by decide +kernel)) fo_M_varHas),
  List.forall_mem_cons.mpr ⟨(show SE G 39 23 (.inl (i_il 1 24)) from s_iload_n (j := 1) (by decide +kernel)),
  List.forall_mem_cons.mpr ⟨(show SE G 39 24 (.inl (i_ld [20, 30] 25)) from s_iald hK (by decide +kernel)),
  List.forall_mem_cons.mpr ⟨(show SE G 39 25 (.inr (.inl (false, 2, [(7, 38)], 28))) from ⟨c_virt (idx := 58) (n := 1) hK (by decide +kernel) (List.forall_mem_cons.mpr ⟨⟨ko_38, inW 519 (by decide +kernel) (by decide +kernel), inW 521 (by decide +kernel) (by decide +kernel), 6, _, rfl, by decide, rfl, inW 19 (by decide +kernel) (by decide +kernel)⟩, fun _ h => absurd h List.not_mem_nil⟩), (List.forall_mem_cons.mpr ⟨⟨mo_38, by decide⟩, fun _ h => absurd h List.not_mem_nil⟩)⟩),
  List.forall_mem_cons.mpr ⟨(show SE G 39 28 (.inl (i_go 32)) from s_goto (tg := 32) (off := 4) (by decide +kernel) (by decide)),
  List.forall_mem_cons.mpr ⟨(show SE G 39 31 (.inl (i_c (-1) 32)) from s_iconst (e := (-1)) (by decide +kernel) (by decide)),
  List.forall_mem_cons.mpr ⟨(show SE G 39 32 (.inr (.inr 0)) from ⟨(by decide +kernel), rfl⟩),
  fun _ h => absurd h List.not_mem_nil⟩⟩⟩⟩⟩⟩⟩⟩⟩⟩⟩⟩⟩⟩⟩⟩⟩⟩
set_option maxRecDepth 20000 in
theorem ok_l_40 (hK : K0 G) : ∀ q ∈ l_40, SE G 40 q.1 q.2 :=
  List.forall_mem_cons.mpr ⟨(show SE G 40 0 (.inl (i_al 0 1)) from s_aload_n (j := 0) (by decide +kernel)),
  List.forall_mem_cons.mpr ⟨(show SE G 40 1 (.inl (i_il 1 2)) from s_iload_n (j := 1) (by decide +kernel)),
  List.forall_mem_cons.mpr ⟨(show SE G 40 2 (.inr (.inl (false, 2, [(7, 39)], 5))) from ⟨c_virt (idx := 62) (n := 1) hK (by decide +kernel) (List.forall_mem_cons.mpr ⟨⟨ko_39, inW 555 (by decide +kernel) (by decide +kernel), inW 557 (by decide +kernel) (by decide +kernel), 6, _, rfl, by decide, rfl, inW 27 (by decide +kernel) (by decide +kernel)⟩, fun _ h => absurd h List.not_mem_nil⟩), (List.forall_mem_cons.mpr ⟨⟨mo_39, by decide⟩, fun _ h => absurd h List.not_mem_nil⟩)⟩),
  List.forall_mem_cons.mpr ⟨(show SE G 40 5 (.inl (i_is 3 6)) from s_istore_n (j := 3) (by decide +kernel) (by decide)),
  List.forall_mem_cons.mpr ⟨(show SE G 40 6 (.inl (i_il 3 7)) from s_iload_n (j := 3) (by decide +kernel)),
  List.forall_mem_cons.mpr ⟨(show SE G 40 7 (.inl (i_z 2 24 10)) from s_if_lt (tg := 24) (off := 17) (by decide +kernel) (by decide)),
  List.forall_mem_cons.mpr ⟨(show SE G 40 10 (.inl (i_al 0 11)) from s_aload_n (j := 0) (by decide +kernel)),
  List.forall_mem_cons.mpr ⟨(show SE G 40 11 (.inl (i_get [7] 5 14)) from s_get (idx := 19) (kk := 5) hK (by decide +kernel) (inW 422 (by decide +kernel) (by decide +kernel)) fo_M_sort),
  List.forall_mem_cons.mpr ⟨(show SE G 40 14 (.inl (i_il 3 15)) from s_iload_n (j := 3) (by decide +kernel)),
  List.forall_mem_cons.mpr ⟨(show SE G 40 15 (.inl (i_ld [20, 30] 16)) from s_iald hK (by decide +kernel)),
  List.forall_mem_cons.mpr ⟨(show SE G 40 16 (.inl (i_il 2 17)) from s_iload_n (j := 2) (by decide +kernel)),
  List.forall_mem_cons.mpr ⟨(show SE G 40 17 (.inl (i_cmp 1 24 20)) from s_icmp_ne (tg := 24) (off := 7) (by decide +kernel) (by decide)),
  List.forall_mem_cons.mpr ⟨(show SE G 40 20 (.inl (i_il 3 21)) from s_iload_n (j := 3) (by decide +kernel)),
  List.forall_mem_cons.mpr ⟨(show SE G 40 21 (.inl (i_go 25)) from s_goto (tg := 25) (off := 4) (by decide +kernel) (by decide)),
  List.forall_mem_cons.mpr ⟨(show SE G 40 24 (.inl (i_c (-1) 25)) from s_iconst (e := (-1)) (by decide +kernel) (by decide)),
  List.forall_mem_cons.mpr ⟨(show SE G 40 25 (.inr (.inr 0)) from ⟨(by decide +kernel), rfl⟩),
  fun _ h => absurd h List.not_mem_nil⟩⟩⟩⟩⟩⟩⟩⟩⟩⟩⟩⟩⟩⟩⟩⟩
set_option maxRecDepth 20000 in
theorem ok_l_41 (hK : K0 G) : ∀ q ∈ l_41, SE G 41 q.1 q.2 :=
  List.forall_mem_cons.mpr ⟨(show SE G 41 0 (.inl (i_al 0 1)) from s_aload_n (j := 0) (by decide +kernel)),
  List.forall_mem_cons.mpr ⟨(show SE G 41 1 (.inl (i_get [7] 0 4)) from s_get (idx := 7) (kk := 0) hK (by decide +kernel) (inW 417 (by decide +kernel) (by decide +kernel)) fo_M_varIs),
  List.forall_mem_cons.mpr ⟨(show SE G 41 4 (.inl (i_il 1 5)) from s_iload_n (j := 1) (by decide +kernel)),
  List.forall_mem_cons.mpr ⟨(show SE G 41 5 (.inl (i_il 2 6)) from s_iload_n (j := 2) (by decide +kernel)),
  List.forall_mem_cons.mpr ⟨(show SE G 41 6 (.inl (i_ist 7)) from s_iast hK (by decide +kernel)),
  List.forall_mem_cons.mpr ⟨(show SE G 41 7 (.inl (i_al 0 8)) from s_aload_n (j := 0) (by decide +kernel)),
  List.forall_mem_cons.mpr ⟨(show SE G 41 8 (.inl (i_get [7] 1 11)) from s_get (idx := 13) (kk := 1) hK (by decide +kernel) (inW 418 (by decide +kernel) (by decide +kernel)) fo_M_varHas),
  List.forall_mem_cons.mpr ⟨(show SE G 41 11 (.inl (i_il 1 12)) from s_iload_n (j := 1) (by decide +kernel)),
  List.forall_mem_cons.mpr ⟨(show SE G 41 12 (.inl (i_il 3 13)) from s_iload_n (j := 3) (by decide +kernel)),
  List.forall_mem_cons.mpr ⟨(show SE G 41 13 (.inl (i_ist 14)) from s_iast hK (by decide +kernel)),
  List.forall_mem_cons.mpr ⟨(show SE G 41 14 (.inr (.inr 3)) from ⟨(by decide +kernel), rfl⟩),
  fun _ h => absurd h List.not_mem_nil⟩⟩⟩⟩⟩⟩⟩⟩⟩⟩⟩
set_option maxRecDepth 20000 in
theorem ok_l_42 (hK : K0 G) : ∀ q ∈ l_42, SE G 42 q.1 q.2 :=
  List.forall_mem_cons.mpr ⟨(show SE G 42 0 (.inl (i_il 1 1)) from s_iload_n (j := 1) (by decide +kernel)),
  List.forall_mem_cons.mpr ⟨(show SE G 42 1 (.inr (.inl (true, 1, [(0, 37)], 4))) from ⟨c_static (idx := 54) (n := 1) (k1 := 37) (by decide +kernel) ko_37 (inW 478 (by decide +kernel) (by decide +kernel)) (inW 479 (by decide +kernel) (by decide +kernel)), (List.forall_mem_cons.mpr ⟨⟨mo_37, by decide⟩, fun _ h => absurd h List.not_mem_nil⟩)⟩),
  List.forall_mem_cons.mpr ⟨(show SE G 42 4 (.inl (i_z 0 19 7)) from s_if_eq (tg := 19) (off := 15) (by decide +kernel) (by decide)),
  List.forall_mem_cons.mpr ⟨(show SE G 42 7 (.inl (i_il 2 8)) from s_iload_n (j := 2) (by decide +kernel)),
  List.forall_mem_cons.mpr ⟨(show SE G 42 8 (.inl (i_c (-1000000) 10)) from s_ldc (e := (-1000000)) (idx := 65) (by decide +kernel) (inW 481 (by decide +kernel) (by decide +kernel)) (by decide)),
  List.forall_mem_cons.mpr ⟨(show SE G 42 10 (.inl (i_cmp 2 19 13)) from s_icmp_lt (tg := 19) (off := 9) (by decide +kernel) (by decide)),
  List.forall_mem_cons.mpr ⟨(show SE G 42 13 (.inl (i_il 2 14)) from s_iload_n (j := 2) (by decide +kernel)),
  List.forall_mem_cons.mpr ⟨(show SE G 42 14 (.inl (i_c (1000000) 16)) from s_ldc (e := (1000000)) (idx := 66) (by decide +kernel) (inW 482 (by decide +kernel) (by decide +kernel)) (by decide)),
  List.forall_mem_cons.mpr ⟨(show SE G 42 16 (.inl (i_cmp 5 21 19)) from s_icmp_le (tg := 21) (off := 5) (by decide +kernel) (by decide)),
  List.forall_mem_cons.mpr ⟨(show SE G 42 19 (.inl (i_c 0 20)) from s_iconst (e := 0) (by decide +kernel) (by decide)),
  List.forall_mem_cons.mpr ⟨(show SE G 42 20 (.inr (.inr 1)) from ⟨(by decide +kernel), rfl⟩),
  List.forall_mem_cons.mpr ⟨(show SE G 42 21 (.inl (i_al 0 22)) from s_aload_n (j := 0) (by decide +kernel)),
  List.forall_mem_cons.mpr ⟨(show SE G 42 22 (.inl (i_il 1 23)) from s_iload_n (j := 1) (by decide +kernel)),
  List.forall_mem_cons.mpr ⟨(show SE G 42 23 (.inl (i_c 1 24)) from s_iconst (e := 1) (by decide +kernel) (by decide)),
  List.forall_mem_cons.mpr ⟨(show SE G 42 24 (.inl (i_il 2 25)) from s_iload_n (j := 2) (by decide +kernel)),
  List.forall_mem_cons.mpr ⟨(show SE G 42 25 (.inr (.inl (false, 4, [(7, 41)], 28))) from ⟨c_virt (idx := 67) (n := 3) hK (by decide +kernel) (List.forall_mem_cons.mpr ⟨⟨ko_41, inW 483 (by decide +kernel) (by decide +kernel), inW 485 (by decide +kernel) (by decide +kernel), 6, _, rfl, by decide, rfl, inW 13 (by decide +kernel) (by decide +kernel)⟩, fun _ h => absurd h List.not_mem_nil⟩), (List.forall_mem_cons.mpr ⟨⟨mo_41, by decide⟩, fun _ h => absurd h List.not_mem_nil⟩)⟩),
  List.forall_mem_cons.mpr ⟨(show SE G 42 28 (.inl (i_c 1 29)) from s_iconst (e := 1) (by decide +kernel) (by decide)),
  List.forall_mem_cons.mpr ⟨(show SE G 42 29 (.inr (.inr 1)) from ⟨(by decide +kernel), rfl⟩),
  fun _ h => absurd h List.not_mem_nil⟩⟩⟩⟩⟩⟩⟩⟩⟩⟩⟩⟩⟩⟩⟩⟩⟩⟩
set_option maxRecDepth 20000 in
theorem ok_l_43_0 (hK : K0 G) : ∀ q ∈ l_43_0, SE G 43 q.1 q.2 :=
  List.forall_mem_cons.mpr ⟨(show SE G 43 0 (.inl (i_il 1 1)) from s_iload_n (j := 1) (by decide +kernel)),
  List.forall_mem_cons.mpr ⟨(show SE G 43 1 (.inr (.inl (true, 1, [(0, 37)], 4))) from ⟨c_static (idx := 54) (n := 1) (k1 := 37) (by decide +kernel) ko_37 (inW 478 (by decide +kernel) (by decide +kernel)) (inW 479 (by decide +kernel) (by decide +kernel)), (List.forall_mem_cons.mpr ⟨⟨mo_37, by decide⟩, fun _ h => absurd h List.not_mem_nil⟩)⟩),
  List.forall_mem_cons.mpr ⟨(show SE G 43 4 (.inl (i_z 0 19 7)) from s_if_eq (tg := 19) (off := 15) (by decide +kernel) (by decide)),
  List.forall_mem_cons.mpr ⟨(show SE G 43 7 (.inl (i_il 2 8)) from s_iload_n (j := 2) (by decide +kernel)),
  List.forall_mem_cons.mpr ⟨(show SE G 43 8 (.inl (i_c (-1) 9)) from s_iconst (e := (-1)) (by decide +kernel) (by decide)),
  List.forall_mem_cons.mpr ⟨(show SE G 43 9 (.inl (i_cmp 0 21 12)) from s_icmp_eq (tg := 21) (off := 12) (by decide +kernel) (by decide)),
  List.forall_mem_cons.mpr ⟨(show SE G 43 12 (.inl (i_il 2 13)) from s_iload_n (j := 2) (by decide +kernel)),
  List.forall_mem_cons.mpr ⟨(show SE G 43 13 (.inr (.inl (true, 1, [(0, 37)], 16))) from ⟨c_static (idx := 54) (n := 1) (k1 := 37) (by decide +kernel) ko_37 (inW 478 (by decide +kernel) (by decide +kernel)) (inW 479 (by decide +kernel) (by decide +kernel)), (List.forall_mem_cons.mpr ⟨⟨mo_37, by decide⟩, fun _ h => absurd h List.not_mem_nil⟩)⟩),
  List.forall_mem_cons.mpr ⟨(show SE G 43 16 (.inl (i_z 1 21 19)) from s_if_ne (tg := 21) (off := 5) (by decide +kernel) (by decide)),
  List.forall_mem_cons.mpr ⟨(show SE G 43 19 (.inl (i_c 0 20)) from s_iconst (e := 0) (by decide +kernel) (by decide)),
  List.forall_mem_cons.mpr ⟨(show SE G 43 20 (.inr (.inr 1)) from ⟨(by decide +kernel), rfl⟩),
  List.forall_mem_cons.mpr ⟨(show SE G 43 21 (.inl (i_il 2 22)) from s_iload_n (j := 2) (by decide +kernel)),
  List.forall_mem_cons.mpr ⟨(show SE G 43 22 (.inl (i_z 3 35 25)) from s_if_ge (tg := 35) (off := 13) (by decide +kernel) (by decide)),
  List.forall_mem_cons.mpr ⟨(show SE G 43 25 (.inl (i_al 0 26)) from s_aload_n (j := 0) (by decide +kernel)),
  List.forall_mem_cons.mpr ⟨(show SE G 43 26 (.inl (i_il 1 27)) from s_iload_n (j := 1) (by decide +kernel)),
  List.forall_mem_cons.mpr ⟨(show SE G 43 27 (.inl (i_c 0 28)) from s_iconst (e := 0) (by decide +kernel) (by decide)),
  List.forall_mem_cons.mpr ⟨(show SE G 43 28 (.inl (i_c 0 29)) from s_iconst (e := 0) (by decide +kernel) (by decide)),
  List.forall_mem_cons.mpr ⟨(show SE G 43 29 (.inr (.inl (false, 4, [(7, 41)], 32))) from ⟨c_virt (idx := 67) (n := 3) hK (by decide +kernel) (List.forall_mem_cons.mpr ⟨⟨ko_41, inW 483 (by decide +kernel) (by decide +kernel), inW 485 (by decide +kernel) (by decide +kernel), 6, _, rfl, by decide, rfl, inW 13 (by decide +kernel) (by decide +kernel)⟩, fun _ h => absurd h List.not_mem_nil⟩), (List.forall_mem_cons.mpr ⟨⟨mo_41, by decide⟩, fun _ h => absurd h List.not_mem_nil⟩)⟩),
  List.forall_mem_cons.mpr ⟨(show SE G 43 32 (.inl (i_go 52)) from s_goto (tg := 52) (off := 20) (by decide +kernel) (by decide)),
  List.forall_mem_cons.mpr ⟨(show SE G 43 35 (.inl (i_al 0 36)) from s_aload_n (j := 0) (by decide +kernel)),
  List.forall_mem_cons.mpr ⟨(show SE G 43 36 (.inl (i_il 1 37)) from s_iload_n (j := 1) (by decide +kernel)),
  List.forall_mem_cons.mpr ⟨(show SE G 43 37 (.inl (i_al 0 38)) from s_aload_n (j := 0) (by decide +kernel)),
  List.forall_mem_cons.mpr ⟨(show SE G 43 38 (.inl (i_get [7] 0 41)) from s_get (idx := 7) (kk := 0) hK (by decide +kernel) (inW 417 (by decide +kernel) (by decide +kernel)) fo_M_varIs),
  List.forall_mem_cons.mpr ⟨(show SE G 43 41 (.inl (i_il 2 42)) from s_iload_n (j := 2) (by decide +kernel)),
  List.forall_mem_cons.mpr ⟨(show SE G 43 42 (.inl (i_ld [20, 30] 43)) from s_iald hK (by decide +kernel)),
  List.forall_mem_cons.mpr ⟨(show SE G 43 43 (.inl (i_al 0 44)) from s_aload_n (j := 0) (by decide +kernel)),
  List.forall_mem_cons.mpr ⟨(show SE G 43 44 (.inl (i_get [7] 1 47)) from s_get (idx := 13) (kk := 1) hK (by decide +kernel) (inW 418 (by decide +kernel) (by decide +kernel)) fo_M_varHas),
  List.forall_mem_cons.mpr ⟨(show SE G 43 47 (.inl (i_il 2 48)) from s_iload_n (j := 2) (by decide +kernel)),
  List.forall_mem_cons.mpr ⟨(show SE G 43 48 (.inl (i_ld [20, 30] 49)) from s_iald hK (by decide +kernel)),
  List.forall_mem_cons.mpr ⟨(show SE G 43 49 (.inr (.inl (false, 4, [(7, 41)], 52))) from ⟨c_virt (idx := 67) (n := 3) hK (by decide +kernel) (List.forall_mem_cons.mpr ⟨⟨ko_41, inW 483 (by decide +kernel) (by decide +kernel), inW 485 (by decide +kernel) (by decide +kernel), 6, _, rfl, by decide, rfl, inW 13 (by decide +kernel) (by decide +kernel)⟩, fun _ h => absurd h List.not_mem_nil⟩), (List.forall_mem_cons.mpr ⟨⟨mo_41, by decide⟩, fun _ h => absurd h List.not_mem_nil⟩)⟩),
  fun _ h => absurd h List.not_mem_nil⟩⟩⟩⟩⟩⟩⟩⟩⟩⟩⟩⟩⟩⟩⟩⟩⟩⟩⟩⟩⟩⟩⟩⟩⟩⟩⟩⟩⟩⟩
set_option maxRecDepth 20000 in
theorem ok_l_43_1 (hK : K0 G) : ∀ q ∈ l_43_1, SE G 43 q.1 q.2 :=
  List.forall_mem_cons.mpr ⟨(show SE G 43 52 (.inl (i_c 1 53)) from s_iconst (e := 1) (by decide +kernel) (by decide)),
  List.forall_mem_cons.mpr ⟨(show SE G 43 53 (.inr (.inr 1)) from ⟨(by decide +kernel), rfl⟩),
  fun _ h => absurd h List.not_mem_nil⟩⟩
theorem ok_l_43 (hK : K0 G) : ∀ q ∈ l_43, SE G 43 q.1 q.2 := by
  show ∀ q ∈ l_43_0 ++ (l_43_1), SE G 43 q.1 q.2
  exact List.forall_mem_append.mpr ⟨ok_l_43_0 hK, ok_l_43_1 hK⟩
set_option maxRecDepth 20000 in
theorem ok_l_44 (hK : K0 G) : ∀ q ∈ l_44, SE G 44 q.1 q.2 :=
  List.forall_mem_cons.mpr ⟨(show SE G 44 0 (.inl (i_al 0 1)) from s_aload_n (j := 0) (by decide +kernel)),
  List.forall_mem_cons.mpr ⟨(show SE G 44 1 (.inl (i_get [7] 5 4)) from s_get (idx := 19) (kk := 5) hK (by decide +kernel) (inW 422 (by decide +kernel) (by decide +kernel)) fo_M_sort),
  List.forall_mem_cons.mpr ⟨(show SE G 44 4 (.inl (i_il 1 5)) from s_iload_n (j := 1) (by decide +kernel)),
  List.forall_mem_cons.mpr ⟨(show SE G 44 5 (.inl (i_ld [20, 30] 6)) from s_iald hK (by decide +kernel)),
  List.forall_mem_cons.mpr ⟨(show SE G 44 6 (.inl (i_c 2 7)) from s_iconst (e := 2) (by decide +kernel) (by decide)),
  List.forall_mem_cons.mpr ⟨(show SE G 44 7 (.inl (i_cmp 1 21 10)) from s_icmp_ne (tg := 21) (off := 14) (by decide +kernel) (by decide)),
  List.forall_mem_cons.mpr ⟨(show SE G 44 10 (.inl (i_c 2 11)) from s_iconst (e := 2) (by decide +kernel) (by decide)),
  List.forall_mem_cons.mpr ⟨(show SE G 44 11 (.inl (i_al 0 12)) from s_aload_n (j := 0) (by decide +kernel)),
  List.forall_mem_cons.mpr ⟨(show SE G 44 12 (.inl (i_get [7] 6 15)) from s_get (idx := 22) (kk := 6) hK (by decide +kernel) (inW 423 (by decide +kernel) (by decide +kernel)) fo_M_many),
  List.forall_mem_cons.mpr ⟨(show SE G 44 15 (.inl (i_il 1 16)) from s_iload_n (j := 1) (by decide +kernel)),
  List.forall_mem_cons.mpr ⟨(show SE G 44 16 (.inl (i_ld [20, 30] 17)) from s_iald hK (by decide +kernel)),
  List.forall_mem_cons.mpr ⟨(show SE G 44 17 (.inl (i_bin (fun a b => a + b) 18)) from s_iadd (by decide +kernel)),
  List.forall_mem_cons.mpr ⟨(show SE G 44 18 (.inl (i_go 37)) from s_goto (tg := 37) (off := 19) (by decide +kernel) (by decide)),
  List.forall_mem_cons.mpr ⟨(show SE G 44 21 (.inl (i_al 0 22)) from s_aload_n (j := 0) (by decide +kernel)),
  List.forall_mem_cons.mpr ⟨(show SE G 44 22 (.inl (i_get [7] 5 25)) from s_get (idx := 19) (kk := 5) hK (by decide +kernel) (inW 422 (by decide +kernel) (by decide +kernel)) fo_M_sort),
  List.forall_mem_cons.mpr ⟨(show SE G 44 25 (.inl (i_il 1 26)) from s_iload_n (j := 1) (by decide +kernel)),
  List.forall_mem_cons.mpr ⟨(show SE G 44 26 (.inl (i_ld [20, 30] 27)) from s_iald hK (by decide +kernel)),
  List.forall_mem_cons.mpr ⟨(show SE G 44 27 (.inl (i_c 3 28)) from s_iconst (e := 3) (by decide +kernel) (by decide)),
  List.forall_mem_cons.mpr ⟨(show SE G 44 28 (.inl (i_cmp 1 35 31)) from s_icmp_ne (tg := 35) (off := 7) (by decide +kernel) (by decide)),
  List.forall_mem_cons.mpr ⟨(show SE G 44 31 (.inl (i_c 3 32)) from s_iconst (e := 3) (by decide +kernel) (by decide)),
  List.forall_mem_cons.mpr ⟨(show SE G 44 32 (.inl (i_go 37)) from s_goto (tg := 37) (off := 5) (by decide +kernel) (by decide)),
  List.forall_mem_cons.mpr ⟨(show SE G 44 35 (.inl (i_c 8 37)) from s_bipush (e := 8) (by decide +kernel) (by decide +kernel) (by decide)),
  List.forall_mem_cons.mpr ⟨(show SE G 44 37 (.inr (.inr 0)) from ⟨(by decide +kernel), rfl⟩),
  fun _ h => absurd h List.not_mem_nil⟩⟩⟩⟩⟩⟩⟩⟩⟩⟩⟩⟩⟩⟩⟩⟩⟩⟩⟩⟩⟩⟩⟩
end OK2
end
section
/-! each method's instructions are sound (by program) -/
section OK3
variable {G : MG}
set_option maxRecDepth 20000 in
theorem ok_l_45 (hK : K0 G) : ∀ q ∈ l_45, SE G 45 q.1 q.2 :=
  List.forall_mem_cons.mpr ⟨(show SE G 45 0 (.inl (i_c 0 1)) from s_iconst (e := 0) (by decide +kernel) (by decide)),
  List.forall_mem_cons.mpr ⟨(show SE G 45 1 (.inl (i_is 2 2)) from s_istore_n (j := 2) (by decide +kernel) (by decide)),
  List.forall_mem_cons.mpr ⟨(show SE G 45 2 (.inl (i_c 0 3)) from s_iconst (e := 0) (by decide +kernel) (by decide)),
  List.forall_mem_cons.mpr ⟨(show SE G 45 3 (.inl (i_is 3 4)) from s_istore_n (j := 3) (by decide +kernel) (by decide)),
  List.forall_mem_cons.mpr ⟨(show SE G 45 4 (.inl (i_il 3 5)) from s_iload_n (j := 3) (by decide +kernel)),
  List.forall_mem_cons.mpr ⟨(show SE G 45 5 (.inl (i_il 1 6)) from s_iload_n (j := 1) (by decide +kernel)),
  List.forall_mem_cons.mpr ⟨(show SE G 45 6 (.inl (i_cmp 3 23 9)) from s_icmp_ge (tg := 23) (off := 17) (by decide +kernel) (by decide)),
  List.forall_mem_cons.mpr ⟨(show SE G 45 9 (.inl (i_il 2 10)) from s_iload_n (j := 2) (by decide +kernel)),
  List.forall_mem_cons.mpr ⟨(show SE G 45 10 (.inl (i_al 0 11)) from s_aload_n (j := 0) (by decide +kernel)),
  List.forall_mem_cons.mpr ⟨(show SE G 45 11 (.inl (i_il 3 12)) from s_iload_n (j := 3) (by decide +kernel)),
  List.forall_mem_cons.mpr ⟨(show SE G 45 12 (.inr (.inl (false, 2, [(7, 44)], 15))) from ⟨c_virt (idx := 71) (n := 1) hK (by decide +kernel) (List.forall_mem_cons.mpr ⟨⟨ko_44, inW 503 (by decide +kernel) (by decide +kernel), inW 505 (by decide +kernel) (by decide +kernel), 6, _, rfl, by decide, rfl, inW 16 (by decide +kernel) (by decide +kernel)⟩, fun _ h => absurd h List.not_mem_nil⟩), (List.forall_mem_cons.mpr ⟨⟨mo_44, by decide⟩, fun _ h => absurd h List.not_mem_nil⟩)⟩),
  List.forall_mem_cons.mpr ⟨(show SE G 45 15 (.inl (i_bin (fun a b => a + b) 16)) from s_iadd (by decide +kernel)),
  List.forall_mem_cons.mpr ⟨(show SE G 45 16 (.inl (i_is 2 17)) from s_istore_n (j := 2) (by decide +kernel) (by decide)),
  List.forall_mem_cons.mpr ⟨(show SE G 45 17 (.inl (i_ii 3 1 20)) from s_iinc (j := 3) (n := 1) (by decide +kernel) (by decide)),
  List.forall_mem_cons.mpr ⟨(show SE G 45 20 (.inl (i_go 4)) from s_goto (tg := 4) (off := -16) (by decide +kernel) (by decide)),
  List.forall_mem_cons.mpr ⟨(show SE G 45 23 (.inl (i_il 2 24)) from s_iload_n (j := 2) (by decide +kernel)),
  List.forall_mem_cons.mpr ⟨(show SE G 45 24 (.inr (.inr 0)) from ⟨(by decide +kernel), rfl⟩),
  fun _ h => absurd h List.not_mem_nil⟩⟩⟩⟩⟩⟩⟩⟩⟩⟩⟩⟩⟩⟩⟩⟩⟩
set_option maxRecDepth 20000 in
theorem ok_l_46_0 (hK : K0 G) : ∀ q ∈ l_46_0, SE G 46 q.1 q.2 :=
  List.forall_mem_cons.mpr ⟨(show SE G 46 0 (.inl (i_al 0 1)) from s_aload_n (j := 0) (by decide +kernel)),
  List.forall_mem_cons.mpr ⟨(show SE G 46 1 (.inl (i_al 0 2)) from s_aload_n (j := 0) (by decide +kernel)),
  List.forall_mem_cons.mpr ⟨(show SE G 46 2 (.inl (i_get [7] 2 5)) from s_get (idx := 50) (kk := 2) hK (by decide +kernel) (inW 419 (by decide +kernel) (by decide +kernel)) fo_M_objects),
  List.forall_mem_cons.mpr ⟨(show SE G 46 5 (.inr (.inl (false, 2, [(7, 45)], 8))) from ⟨c_virt (idx := 74) (n := 1) hK (by decide +kernel) (List.forall_mem_cons.mpr ⟨⟨ko_45, inW 499 (by decide +kernel) (by decide +kernel), inW 501 (by decide +kernel) (by decide +kernel), 6, _, rfl, by decide, rfl, inW 15 (by decide +kernel) (by decide +kernel)⟩, fun _ h => absurd h List.not_mem_nil⟩), (List.forall_mem_cons.mpr ⟨⟨mo_45, by decide⟩, fun _ h => absurd h List.not_mem_nil⟩)⟩),
  List.forall_mem_cons.mpr ⟨(show SE G 46 8 (.inl (i_il 3 9)) from s_iload_n (j := 3) (by decide +kernel)),
  List.forall_mem_cons.mpr ⟨(show SE G 46 9 (.inl (i_bin (fun a b => a + b) 10)) from s_iadd (by decide +kernel)),
  List.forall_mem_cons.mpr ⟨(show SE G 46 10 (.inl (i_c 60 12)) from s_bipush (e := 60) (by decide +kernel) (by decide +kernel) (by decide)),
  List.forall_mem_cons.mpr ⟨(show SE G 46 12 (.inl (i_cmp 5 37 15)) from s_icmp_le (tg := 37) (off := 25) (by decide +kernel) (by decide)),
  List.forall_mem_cons.mpr ⟨(show SE G 46 15 (.inl (i_al 0 16)) from s_aload_n (j := 0) (by decide +kernel)),
  List.forall_mem_cons.mpr ⟨(show SE G 46 16 (.inr (.inl (false, 1, [(7, 66)], 19))) from ⟨c_virt (idx := 77) (n := 0) hK (by decide +kernel) (List.forall_mem_cons.mpr ⟨⟨ko_66, inW 507 (by decide +kernel) (by decide +kernel), inW 508 (by decide +kernel) (by decide +kernel), 6, _, rfl, by decide, rfl, inW 509 (by decide +kernel) (by decide +kernel)⟩, fun _ h => absurd h List.not_mem_nil⟩), (List.forall_mem_cons.mpr ⟨⟨mo_66, by decide⟩, fun _ h => absurd h List.not_mem_nil⟩)⟩),
  List.forall_mem_cons.mpr ⟨(show SE G 46 19 (.inl (i_pop 20)) from s_pop (by decide +kernel)),
  List.forall_mem_cons.mpr ⟨(show SE G 46 20 (.inl (i_al 0 21)) from s_aload_n (j := 0) (by decide +kernel)),
  List.forall_mem_cons.mpr ⟨(show SE G 46 21 (.inl (i_al 0 22)) from s_aload_n (j := 0) (by decide +kernel)),
  List.forall_mem_cons.mpr ⟨(show SE G 46 22 (.inl (i_get [7] 2 25)) from s_get (idx := 50) (kk := 2) hK (by decide +kernel) (inW 419 (by decide +kernel) (by decide +kernel)) fo_M_objects),
  List.forall_mem_cons.mpr ⟨(show SE G 46 25 (.inr (.inl (false, 2, [(7, 45)], 28))) from ⟨c_virt (idx := 74) (n := 1) hK (by decide +kernel) (List.forall_mem_cons.mpr ⟨⟨ko_45, inW 499 (by decide +kernel) (by decide +kernel), inW 501 (by decide +kernel) (by decide +kernel), 6, _, rfl, by decide, rfl, inW 15 (by decide +kernel) (by decide +kernel)⟩, fun _ h => absurd h List.not_mem_nil⟩), (List.forall_mem_cons.mpr ⟨⟨mo_45, by decide⟩, fun _ h => absurd h List.not_mem_nil⟩)⟩),
  List.forall_mem_cons.mpr ⟨(show SE G 46 28 (.inl (i_il 3 29)) from s_iload_n (j := 3) (by decide +kernel)),
  List.forall_mem_cons.mpr ⟨(show SE G 46 29 (.inl (i_bin (fun a b => a + b) 30)) from s_iadd (by decide +kernel)),
  List.forall_mem_cons.mpr ⟨(show SE G 46 30 (.inl (i_c 60 32)) from s_bipush (e := 60) (by decide +kernel) (by decide +kernel) (by decide)),
  List.forall_mem_cons.mpr ⟨(show SE G 46 32 (.inl (i_cmp 5 37 35)) from s_icmp_le (tg := 37) (off := 5) (by decide +kernel) (by decide)),
  List.forall_mem_cons.mpr ⟨(show SE G 46 35 (.inl (i_c (-1) 36)) from s_iconst (e := (-1)) (by decide +kernel) (by decide)),
  List.forall_mem_cons.mpr ⟨(show SE G 46 36 (.inr (.inr 0)) from ⟨(by decide +kernel), rfl⟩),
  List.forall_mem_cons.mpr ⟨(show SE G 46 37 (.inl (i_al 0 38)) from s_aload_n (j := 0) (by decide +kernel)),
  List.forall_mem_cons.mpr ⟨(show SE G 46 38 (.inl (i_get [7] 2 41)) from s_get (idx := 50) (kk := 2) hK (by decide +kernel) (inW 419 (by decide +kernel) (by decide +kernel)) fo_M_objects),
  List.forall_mem_cons.mpr ⟨(show SE G 46 41 (.inl (i_is 4 43)) from s_istore (j := 4) (by decide +kernel) (by decide)),
  List.forall_mem_cons.mpr ⟨(show SE G 46 43 (.inl (i_al 0 44)) from s_aload_n (j := 0) (by decide +kernel)),
  List.forall_mem_cons.mpr ⟨(show SE G 46 44 (.inl (i_dup 45)) from s_dup (by decide +kernel)),
  List.forall_mem_cons.mpr ⟨(show SE G 46 45 (.inl (i_get [7] 2 48)) from s_get (idx := 50) (kk := 2) hK (by decide +kernel) (inW 419 (by decide +kernel) (by decide +kernel)) fo_M_objects),
  List.forall_mem_cons.mpr ⟨(show SE G 46 48 (.inl (i_c 1 49)) from s_iconst (e := 1) (by decide +kernel) (by decide)),
  List.forall_mem_cons.mpr ⟨(show SE G 46 49 (.inl (i_bin (fun a b => a + b) 50)) from s_iadd (by decide +kernel)),
  List.forall_mem_cons.mpr ⟨(show SE G 46 50 (.inl (i_put [7] 2 0 53)) from s_put (idx := 50) (kk := 2) (ty := 0) hK (by decide +kernel) (inW 419 (by decide +kernel) (by decide +kernel)) fo_M_objects po_46_M_objects),
  fun _ h => absurd h List.not_mem_nil⟩⟩⟩⟩⟩⟩⟩⟩⟩⟩⟩⟩⟩⟩⟩⟩⟩⟩⟩⟩⟩⟩⟩⟩⟩⟩⟩⟩⟩⟩
set_option maxRecDepth 20000 in
theorem ok_l_46_1 (hK : K0 G) : ∀ q ∈ l_46_1, SE G 46 q.1 q.2 :=
  List.forall_mem_cons.mpr ⟨(show SE G 46 53 (.inl (i_al 0 54)) from s_aload_n (j := 0) (by decide +kernel)),
  List.forall_mem_cons.mpr ⟨(show SE G 46 54 (.inl (i_dup 55)) from s_dup (by decide +kernel)),
  List.forall_mem_cons.mpr ⟨(show SE G 46 55 (.inl (i_get [7] 3 58)) from s_get (idx := 81) (kk := 3) hK (by decide +kernel) (inW 420 (by decide +kernel) (by decide +kernel)) fo_M_made),
  List.forall_mem_cons.mpr ⟨(show SE G 46 58 (.inl (i_c 1 59)) from s_iconst (e := 1) (by decide +kernel) (by decide)),
  List.forall_mem_cons.mpr ⟨(show SE G 46 59 (.inl (i_bin (fun a b => a + b) 60)) from s_iadd (by decide +kernel)),
  List.forall_mem_cons.mpr ⟨(show SE G 46 60 (.inl (i_put [7] 3 0 63)) from s_put (idx := 81) (kk := 3) (ty := 0) hK (by decide +kernel) (inW 420 (by decide +kernel) (by decide +kernel)) fo_M_made po_46_M_made),
  List.forall_mem_cons.mpr ⟨(show SE G 46 63 (.inl (i_al 0 64)) from s_aload_n (j := 0) (by decide +kernel)),
  List.forall_mem_cons.mpr ⟨(show SE G 46 64 (.inl (i_get [7] 4 67)) from s_get (idx := 16) (kk := 4) hK (by decide +kernel) (inW 421 (by decide +kernel) (by decide +kernel)) fo_M_name),
  List.forall_mem_cons.mpr ⟨(show SE G 46 67 (.inl (i_il 4 69)) from s_iload (j := 4) (by decide +kernel)),
  List.forall_mem_cons.mpr ⟨(show SE G 46 69 (.inl (i_al 0 70)) from s_aload_n (j := 0) (by decide +kernel)),
  List.forall_mem_cons.mpr ⟨(show SE G 46 70 (.inl (i_get [7] 3 73)) from s_get (idx := 81) (kk := 3) hK (by decide +kernel) (inW 420 (by decide +kernel) (by decide +kernel)) fo_M_made),
  List.forall_mem_cons.mpr ⟨(show SE G 46 73 (.inl (i_ist 74)) from s_iast hK (by decide +kernel)),
  List.forall_mem_cons.mpr ⟨(show SE G 46 74 (.inl (i_al 0 75)) from s_aload_n (j := 0) (by decide +kernel)),
  List.forall_mem_cons.mpr ⟨(show SE G 46 75 (.inl (i_get [7] 5 78)) from s_get (idx := 19) (kk := 5) hK (by decide +kernel) (inW 422 (by decide +kernel) (by decide +kernel)) fo_M_sort),
  List.forall_mem_cons.mpr ⟨(show SE G 46 78 (.inl (i_il 4 80)) from s_iload (j := 4) (by decide +kernel)),
  List.forall_mem_cons.mpr ⟨(show SE G 46 80 (.inl (i_il 1 81)) from s_iload_n (j := 1) (by decide +kernel)),
  List.forall_mem_cons.mpr ⟨(show SE G 46 81 (.inl (i_ist 82)) from s_iast hK (by decide +kernel)),
  List.forall_mem_cons.mpr ⟨(show SE G 46 82 (.inl (i_al 0 83)) from s_aload_n (j := 0) (by decide +kernel)),
  List.forall_mem_cons.mpr ⟨(show SE G 46 83 (.inl (i_get [7] 6 86)) from s_get (idx := 22) (kk := 6) hK (by decide +kernel) (inW 423 (by decide +kernel) (by decide +kernel)) fo_M_many),
  List.forall_mem_cons.mpr ⟨(show SE G 46 86 (.inl (i_il 4 88)) from s_iload (j := 4) (by decide +kernel)),
  List.forall_mem_cons.mpr ⟨(show SE G 46 88 (.inl (i_il 2 89)) from s_iload_n (j := 2) (by decide +kernel)),
  List.forall_mem_cons.mpr ⟨(show SE G 46 89 (.inl (i_ist 90)) from s_iast hK (by decide +kernel)),
  List.forall_mem_cons.mpr ⟨(show SE G 46 90 (.inl (i_c 0 91)) from s_iconst (e := 0) (by decide +kernel) (by decide)),
  List.forall_mem_cons.mpr ⟨(show SE G 46 91 (.inl (i_is 5 93)) from s_istore (j := 5) (by decide +kernel) (by decide)),
  List.forall_mem_cons.mpr ⟨(show SE G 46 93 (.inl (i_il 5 95)) from s_iload (j := 5) (by decide +kernel)),
  List.forall_mem_cons.mpr ⟨(show SE G 46 95 (.inl (i_c 4 96)) from s_iconst (e := 4) (by decide +kernel) (by decide)),
  List.forall_mem_cons.mpr ⟨(show SE G 46 96 (.inl (i_cmp 3 144 99)) from s_icmp_ge (tg := 144) (off := 48) (by decide +kernel) (by decide)),
  List.forall_mem_cons.mpr ⟨(show SE G 46 99 (.inl (i_al 0 100)) from s_aload_n (j := 0) (by decide +kernel)),
  List.forall_mem_cons.mpr ⟨(show SE G 46 100 (.inl (i_get [7] 7 103)) from s_get (idx := 25) (kk := 7) hK (by decide +kernel) (inW 424 (by decide +kernel) (by decide +kernel)) fo_M_is),
  List.forall_mem_cons.mpr ⟨(show SE G 46 103 (.inl (i_c 4 104)) from s_iconst (e := 4) (by decide +kernel) (by decide)),
  fun _ h => absurd h List.not_mem_nil⟩⟩⟩⟩⟩⟩⟩⟩⟩⟩⟩⟩⟩⟩⟩⟩⟩⟩⟩⟩⟩⟩⟩⟩⟩⟩⟩⟩⟩⟩
set_option maxRecDepth 20000 in
theorem ok_l_46_2 (hK : K0 G) : ∀ q ∈ l_46_2, SE G 46 q.1 q.2 :=
  List.forall_mem_cons.mpr ⟨(show SE G 46 104 (.inl (i_il 4 106)) from s_iload (j := 4) (by decide +kernel)),
  List.forall_mem_cons.mpr ⟨(show SE G 46 106 (.inl (i_bin (fun a b => a * b) 107)) from s_imul (by decide +kernel)),
  List.forall_mem_cons.mpr ⟨(show SE G 46 107 (.inl (i_il 5 109)) from s_iload (j := 5) (by decide +kernel)),
  List.forall_mem_cons.mpr ⟨(show SE G 46 109 (.inl (i_bin (fun a b => a + b) 110)) from s_iadd (by decide +kernel)),
  List.forall_mem_cons.mpr ⟨(show SE G 46 110 (.inl (i_c 0 111)) from s_iconst (e := 0) (by decide +kernel) (by decide)),
  List.forall_mem_cons.mpr ⟨(show SE G 46 111 (.inl (i_ist 112)) from s_iast hK (by decide +kernel)),
  List.forall_mem_cons.mpr ⟨(show SE G 46 112 (.inl (i_al 0 113)) from s_aload_n (j := 0) (by decide +kernel)),
  List.forall_mem_cons.mpr ⟨(show SE G 46 113 (.inl (i_get [7] 8 116)) from s_get (idx := 28) (kk := 8) hK (by decide +kernel) (inW 425 (by decide +kernel) (by decide +kernel)) fo_M_has),
  List.forall_mem_cons.mpr ⟨(show SE G 46 116 (.inl (i_c 4 117)) from s_iconst (e := 4) (by decide +kernel) (by decide)),
  List.forall_mem_cons.mpr ⟨(show SE G 46 117 (.inl (i_il 4 119)) from s_iload (j := 4) (by decide +kernel)),
  List.forall_mem_cons.mpr ⟨(show SE G 46 119 (.inl (i_bin (fun a b => a * b) 120)) from s_imul (by decide +kernel)),
  List.forall_mem_cons.mpr ⟨(show SE G 46 120 (.inl (i_il 5 122)) from s_iload (j := 5) (by decide +kernel)),
  List.forall_mem_cons.mpr ⟨(show SE G 46 122 (.inl (i_bin (fun a b => a + b) 123)) from s_iadd (by decide +kernel)),
  List.forall_mem_cons.mpr ⟨(show SE G 46 123 (.inl (i_c 0 124)) from s_iconst (e := 0) (by decide +kernel) (by decide)),
  List.forall_mem_cons.mpr ⟨(show SE G 46 124 (.inl (i_ist 125)) from s_iast hK (by decide +kernel)),
  List.forall_mem_cons.mpr ⟨(show SE G 46 125 (.inl (i_al 0 126)) from s_aload_n (j := 0) (by decide +kernel)),
  List.forall_mem_cons.mpr ⟨(show SE G 46 126 (.inl (i_get [7] 9 129)) from s_get (idx := 31) (kk := 9) hK (by decide +kernel) (inW 426 (by decide +kernel) (by decide +kernel)) fo_M_keys),
  List.forall_mem_cons.mpr ⟨(show SE G 46 129 (.inl (i_c 4 130)) from s_iconst (e := 4) (by decide +kernel) (by decide)),
  List.forall_mem_cons.mpr ⟨(show SE G 46 130 (.inl (i_il 4 132)) from s_iload (j := 4) (by decide +kernel)),
  List.forall_mem_cons.mpr ⟨(show SE G 46 132 (.inl (i_bin (fun a b => a * b) 133)) from s_imul (by decide +kernel)),
  List.forall_mem_cons.mpr ⟨(show SE G 46 133 (.inl (i_il 5 135)) from s_iload (j := 5) (by decide +kernel)),
  List.forall_mem_cons.mpr ⟨(show SE G 46 135 (.inl (i_bin (fun a b => a + b) 136)) from s_iadd (by decide +kernel)),
  List.forall_mem_cons.mpr ⟨(show SE G 46 136 (.inl (i_c 0 137)) from s_iconst (e := 0) (by decide +kernel) (by decide)),
  List.forall_mem_cons.mpr ⟨(show SE G 46 137 (.inl (i_ist 138)) from s_iast hK (by decide +kernel)),
  List.forall_mem_cons.mpr ⟨(show SE G 46 138 (.inl (i_ii 5 1 141)) from s_iinc (j := 5) (n := 1) (by decide +kernel) (by decide)),
  List.forall_mem_cons.mpr ⟨(show SE G 46 141 (.inl (i_go 93)) from s_goto (tg := 93) (off := -48) (by decide +kernel) (by decide)),
  List.forall_mem_cons.mpr ⟨(show SE G 46 144 (.inl (i_il 4 146)) from s_iload (j := 4) (by decide +kernel)),
  List.forall_mem_cons.mpr ⟨(show SE G 46 146 (.inr (.inr 0)) from ⟨(by decide +kernel), rfl⟩),
  fun _ h => absurd h List.not_mem_nil⟩⟩⟩⟩⟩⟩⟩⟩⟩⟩⟩⟩⟩⟩⟩⟩⟩⟩⟩⟩⟩⟩⟩⟩⟩⟩⟩⟩
theorem ok_l_46 (hK : K0 G) : ∀ q ∈ l_46, SE G 46 q.1 q.2 := by
  show ∀ q ∈ l_46_0 ++ (l_46_1 ++ (l_46_2)), SE G 46 q.1 q.2
  exact List.forall_mem_append.mpr ⟨ok_l_46_0 hK, List.forall_mem_append.mpr ⟨ok_l_46_1 hK, ok_l_46_2 hK⟩⟩
set_option maxRecDepth 20000 in
theorem ok_l_47_0 (hK : K0 G) : ∀ q ∈ l_47_0, SE G 47 q.1 q.2 :=
  List.forall_mem_cons.mpr ⟨(show SE G 47 0 (.inl (i_il 1 1)) from s_iload_n (j := 1) (by decide +kernel)),
  List.forall_mem_cons.mpr ⟨(show SE G 47 1 (.inr (.inl (true, 1, [(0, 37)], 4))) from ⟨c_static (idx := 54) (n := 1) (k1 := 37) (by decide +kernel) ko_37 (inW 478 (by decide +kernel) (by decide +kernel)) (inW 479 (by decide +kernel) (by decide +kernel)), (List.forall_mem_cons.mpr ⟨⟨mo_37, by decide⟩, fun _ h => absurd h List.not_mem_nil⟩)⟩),
  List.forall_mem_cons.mpr ⟨(show SE G 47 4 (.inl (i_z 0 17 7)) from s_if_eq (tg := 17) (off := 13) (by decide +kernel) (by decide)),
  List.forall_mem_cons.mpr ⟨(show SE G 47 7 (.inl (i_il 2 8)) from s_iload_n (j := 2) (by decide +kernel)),
  List.forall_mem_cons.mpr ⟨(show SE G 47 8 (.inl (i_c 1 9)) from s_iconst (e := 1) (by decide +kernel) (by decide)),
  List.forall_mem_cons.mpr ⟨(show SE G 47 9 (.inl (i_cmp 2 17 12)) from s_icmp_lt (tg := 17) (off := 8) (by decide +kernel) (by decide)),
  List.forall_mem_cons.mpr ⟨(show SE G 47 12 (.inl (i_il 2 13)) from s_iload_n (j := 2) (by decide +kernel)),
  List.forall_mem_cons.mpr ⟨(show SE G 47 13 (.inl (i_c 4 14)) from s_iconst (e := 4) (by decide +kernel) (by decide)),
  List.forall_mem_cons.mpr ⟨(show SE G 47 14 (.inl (i_cmp 5 19 17)) from s_icmp_le (tg := 19) (off := 5) (by decide +kernel) (by decide)),
  List.forall_mem_cons.mpr ⟨(show SE G 47 17 (.inl (i_c (-1) 18)) from s_iconst (e := (-1)) (by decide +kernel) (by decide)),
  List.forall_mem_cons.mpr ⟨(show SE G 47 18 (.inr (.inr 0)) from ⟨(by decide +kernel), rfl⟩),
  List.forall_mem_cons.mpr ⟨(show SE G 47 19 (.inl (i_al 0 20)) from s_aload_n (j := 0) (by decide +kernel)),
  List.forall_mem_cons.mpr ⟨(show SE G 47 20 (.inl (i_c 2 21)) from s_iconst (e := 2) (by decide +kernel) (by decide)),
  List.forall_mem_cons.mpr ⟨(show SE G 47 21 (.inl (i_il 2 22)) from s_iload_n (j := 2) (by decide +kernel)),
  List.forall_mem_cons.mpr ⟨(show SE G 47 22 (.inl (i_c 2 23)) from s_iconst (e := 2) (by decide +kernel) (by decide)),
  List.forall_mem_cons.mpr ⟨(show SE G 47 23 (.inl (i_il 2 24)) from s_iload_n (j := 2) (by decide +kernel)),
  List.forall_mem_cons.mpr ⟨(show SE G 47 24 (.inl (i_bin (fun a b => a + b) 25)) from s_iadd (by decide +kernel)),
  List.forall_mem_cons.mpr ⟨(show SE G 47 25 (.inr (.inl (false, 4, [(7, 46)], 28))) from ⟨c_virt (idx := 84) (n := 3) hK (by decide +kernel) (List.forall_mem_cons.mpr ⟨⟨ko_46, inW 495 (by decide +kernel) (by decide +kernel), inW 497 (by decide +kernel) (by decide +kernel), 6, _, rfl, by decide, rfl, inW 14 (by decide +kernel) (by decide +kernel)⟩, fun _ h => absurd h List.not_mem_nil⟩), (List.forall_mem_cons.mpr ⟨⟨mo_46, by decide⟩, fun _ h => absurd h List.not_mem_nil⟩)⟩),
  List.forall_mem_cons.mpr ⟨(show SE G 47 28 (.inl (i_is 3 29)) from s_istore_n (j := 3) (by decide +kernel) (by decide)),
  List.forall_mem_cons.mpr ⟨(show SE G 47 29 (.inl (i_il 3 30)) from s_iload_n (j := 3) (by decide +kernel)),
  List.forall_mem_cons.mpr ⟨(show SE G 47 30 (.inl (i_z 3 36 33)) from s_if_ge (tg := 36) (off := 6) (by decide +kernel) (by decide)),
  List.forall_mem_cons.mpr ⟨(show SE G 47 33 (.inl (i_c (-2) 35)) from s_bipush (e := (-2)) (by decide +kernel) (by decide +kernel) (by decide)),
  List.forall_mem_cons.mpr ⟨(show SE G 47 35 (.inr (.inr 0)) from ⟨(by decide +kernel), rfl⟩),
  List.forall_mem_cons.mpr ⟨(show SE G 47 36 (.inl (i_al 0 37)) from s_aload_n (j := 0) (by decide +kernel)),
  List.forall_mem_cons.mpr ⟨(show SE G 47 37 (.inl (i_il 1 38)) from s_iload_n (j := 1) (by decide +kernel)),
  List.forall_mem_cons.mpr ⟨(show SE G 47 38 (.inl (i_c 9 40)) from s_bipush (e := 9) (by decide +kernel) (by decide +kernel) (by decide)),
  List.forall_mem_cons.mpr ⟨(show SE G 47 40 (.inl (i_al 0 41)) from s_aload_n (j := 0) (by decide +kernel)),
  List.forall_mem_cons.mpr ⟨(show SE G 47 41 (.inl (i_get [7] 4 44)) from s_get (idx := 16) (kk := 4) hK (by decide +kernel) (inW 421 (by decide +kernel) (by decide +kernel)) fo_M_name),
  List.forall_mem_cons.mpr ⟨(show SE G 47 44 (.inl (i_il 3 45)) from s_iload_n (j := 3) (by decide +kernel)),
  List.forall_mem_cons.mpr ⟨(show SE G 47 45 (.inl (i_ld [20, 30] 46)) from s_iald hK (by decide +kernel)),
  fun _ h => absurd h List.not_mem_nil⟩⟩⟩⟩⟩⟩⟩⟩⟩⟩⟩⟩⟩⟩⟩⟩⟩⟩⟩⟩⟩⟩⟩⟩⟩⟩⟩⟩⟩⟩
set_option maxRecDepth 20000 in
theorem ok_l_47_1 (hK : K0 G) : ∀ q ∈ l_47_1, SE G 47 q.1 q.2 :=
  List.forall_mem_cons.mpr ⟨(show SE G 47 46 (.inr (.inl (false, 4, [(7, 41)], 49))) from ⟨c_virt (idx := 67) (n := 3) hK (by decide +kernel) (List.forall_mem_cons.mpr ⟨⟨ko_41, inW 483 (by decide +kernel) (by decide +kernel), inW 485 (by decide +kernel) (by decide +kernel), 6, _, rfl, by decide, rfl, inW 13 (by decide +kernel) (by decide +kernel)⟩, fun _ h => absurd h List.not_mem_nil⟩), (List.forall_mem_cons.mpr ⟨⟨mo_41, by decide⟩, fun _ h => absurd h List.not_mem_nil⟩)⟩),
  List.forall_mem_cons.mpr ⟨(show SE G 47 49 (.inl (i_al 0 50)) from s_aload_n (j := 0) (by decide +kernel)),
  List.forall_mem_cons.mpr ⟨(show SE G 47 50 (.inl (i_get [7] 4 53)) from s_get (idx := 16) (kk := 4) hK (by decide +kernel) (inW 421 (by decide +kernel) (by decide +kernel)) fo_M_name),
  List.forall_mem_cons.mpr ⟨(show SE G 47 53 (.inl (i_il 3 54)) from s_iload_n (j := 3) (by decide +kernel)),
  List.forall_mem_cons.mpr ⟨(show SE G 47 54 (.inl (i_ld [20, 30] 55)) from s_iald hK (by decide +kernel)),
  List.forall_mem_cons.mpr ⟨(show SE G 47 55 (.inr (.inr 0)) from ⟨(by decide +kernel), rfl⟩),
  fun _ h => absurd h List.not_mem_nil⟩⟩⟩⟩⟩⟩
theorem ok_l_47 (hK : K0 G) : ∀ q ∈ l_47, SE G 47 q.1 q.2 := by
  show ∀ q ∈ l_47_0 ++ (l_47_1), SE G 47 q.1 q.2
  exact List.forall_mem_append.mpr ⟨ok_l_47_0 hK, ok_l_47_1 hK⟩
set_option maxRecDepth 20000 in
theorem ok_l_48_0 (hK : K0 G) : ∀ q ∈ l_48_0, SE G 48 q.1 q.2 :=
  List.forall_mem_cons.mpr ⟨(show SE G 48 0 (.inl (i_il 1 1)) from s_iload_n (j := 1) (by decide +kernel)),
  List.forall_mem_cons.mpr ⟨(show SE G 48 1 (.inr (.inl (true, 1, [(0, 37)], 4))) from ⟨c_static (idx := 54) (n := 1) (k1 := 37) (by decide +kernel) ko_37 (inW 478 (by decide +kernel) (by decide +kernel)) (inW 479 (by decide +kernel) (by decide +kernel)), (List.forall_mem_cons.mpr ⟨⟨mo_37, by decide⟩, fun _ h => absurd h List.not_mem_nil⟩)⟩),
  List.forall_mem_cons.mpr ⟨(show SE G 48 4 (.inl (i_z 0 15 7)) from s_if_eq (tg := 15) (off := 11) (by decide +kernel) (by decide)),
  List.forall_mem_cons.mpr ⟨(show SE G 48 7 (.inl (i_al 0 8)) from s_aload_n (j := 0) (by decide +kernel)),
  List.forall_mem_cons.mpr ⟨(show SE G 48 8 (.inl (i_il 2 9)) from s_iload_n (j := 2) (by decide +kernel)),
  List.forall_mem_cons.mpr ⟨(show SE G 48 9 (.inr (.inl (false, 2, [(7, 39)], 12))) from ⟨c_virt (idx := 62) (n := 1) hK (by decide +kernel) (List.forall_mem_cons.mpr ⟨⟨ko_39, inW 555 (by decide +kernel) (by decide +kernel), inW 557 (by decide +kernel) (by decide +kernel), 6, _, rfl, by decide, rfl, inW 27 (by decide +kernel) (by decide +kernel)⟩, fun _ h => absurd h List.not_mem_nil⟩), (List.forall_mem_cons.mpr ⟨⟨mo_39, by decide⟩, fun _ h => absurd h List.not_mem_nil⟩)⟩),
  List.forall_mem_cons.mpr ⟨(show SE G 48 12 (.inl (i_z 3 17 15)) from s_if_ge (tg := 17) (off := 5) (by decide +kernel) (by decide)),
  List.forall_mem_cons.mpr ⟨(show SE G 48 15 (.inl (i_c (-1) 16)) from s_iconst (e := (-1)) (by decide +kernel) (by decide)),
  List.forall_mem_cons.mpr ⟨(show SE G 48 16 (.inr (.inr 0)) from ⟨(by decide +kernel), rfl⟩),
  List.forall_mem_cons.mpr ⟨(show SE G 48 17 (.inl (i_al 0 18)) from s_aload_n (j := 0) (by decide +kernel)),
  List.forall_mem_cons.mpr ⟨(show SE G 48 18 (.inl (i_c 3 19)) from s_iconst (e := 3) (by decide +kernel) (by decide)),
  List.forall_mem_cons.mpr ⟨(show SE G 48 19 (.inl (i_c 1 20)) from s_iconst (e := 1) (by decide +kernel) (by decide)),
  List.forall_mem_cons.mpr ⟨(show SE G 48 20 (.inl (i_c 3 21)) from s_iconst (e := 3) (by decide +kernel) (by decide)),
  List.forall_mem_cons.mpr ⟨(show SE G 48 21 (.inr (.inl (false, 4, [(7, 46)], 24))) from ⟨c_virt (idx := 84) (n := 3) hK (by decide +kernel) (List.forall_mem_cons.mpr ⟨⟨ko_46, inW 495 (by decide +kernel) (by decide +kernel), inW 497 (by decide +kernel) (by decide +kernel), 6, _, rfl, by decide, rfl, inW 14 (by decide +kernel) (by decide +kernel)⟩, fun _ h => absurd h List.not_mem_nil⟩), (List.forall_mem_cons.mpr ⟨⟨mo_46, by decide⟩, fun _ h => absurd h List.not_mem_nil⟩)⟩),
  List.forall_mem_cons.mpr ⟨(show SE G 48 24 (.inl (i_is 3 25)) from s_istore_n (j := 3) (by decide +kernel) (by decide)),
  List.forall_mem_cons.mpr ⟨(show SE G 48 25 (.inl (i_il 3 26)) from s_iload_n (j := 3) (by decide +kernel)),
  List.forall_mem_cons.mpr ⟨(show SE G 48 26 (.inl (i_z 3 32 29)) from s_if_ge (tg := 32) (off := 6) (by decide +kernel) (by decide)),
  List.forall_mem_cons.mpr ⟨(show SE G 48 29 (.inl (i_c (-2) 31)) from s_bipush (e := (-2)) (by decide +kernel) (by decide +kernel) (by decide)),
  List.forall_mem_cons.mpr ⟨(show SE G 48 31 (.inr (.inr 0)) from ⟨(by decide +kernel), rfl⟩),
  List.forall_mem_cons.mpr ⟨(show SE G 48 32 (.inl (i_al 0 33)) from s_aload_n (j := 0) (by decide +kernel)),
  List.forall_mem_cons.mpr ⟨(show SE G 48 33 (.inl (i_get [7] 7 36)) from s_get (idx := 25) (kk := 7) hK (by decide +kernel) (inW 424 (by decide +kernel) (by decide +kernel)) fo_M_is),
  List.forall_mem_cons.mpr ⟨(show SE G 48 36 (.inl (i_c 4 37)) from s_iconst (e := 4) (by decide +kernel) (by decide)),
  List.forall_mem_cons.mpr ⟨(show SE G 48 37 (.inl (i_il 3 38)) from s_iload_n (j := 3) (by decide +kernel)),
  List.forall_mem_cons.mpr ⟨(show SE G 48 38 (.inl (i_bin (fun a b => a * b) 39)) from s_imul (by decide +kernel)),
  List.forall_mem_cons.mpr ⟨(show SE G 48 39 (.inl (i_c 9 41)) from s_bipush (e := 9) (by decide +kernel) (by decide +kernel) (by decide)),
  List.forall_mem_cons.mpr ⟨(show SE G 48 41 (.inl (i_ist 42)) from s_iast hK (by decide +kernel)),
  List.forall_mem_cons.mpr ⟨(show SE G 48 42 (.inl (i_al 0 43)) from s_aload_n (j := 0) (by decide +kernel)),
  List.forall_mem_cons.mpr ⟨(show SE G 48 43 (.inl (i_get [7] 8 46)) from s_get (idx := 28) (kk := 8) hK (by decide +kernel) (inW 425 (by decide +kernel) (by decide +kernel)) fo_M_has),
  List.forall_mem_cons.mpr ⟨(show SE G 48 46 (.inl (i_c 4 47)) from s_iconst (e := 4) (by decide +kernel) (by decide)),
  List.forall_mem_cons.mpr ⟨(show SE G 48 47 (.inl (i_il 3 48)) from s_iload_n (j := 3) (by decide +kernel)),
  fun _ h => absurd h List.not_mem_nil⟩⟩⟩⟩⟩⟩⟩⟩⟩⟩⟩⟩⟩⟩⟩⟩⟩⟩⟩⟩⟩⟩⟩⟩⟩⟩⟩⟩⟩⟩
set_option maxRecDepth 20000 in
theorem ok_l_48_1 (hK : K0 G) : ∀ q ∈ l_48_1, SE G 48 q.1 q.2 :=
  List.forall_mem_cons.mpr ⟨(show SE G 48 48 (.inl (i_bin (fun a b => a * b) 49)) from s_imul (by decide +kernel)),
  List.forall_mem_cons.mpr ⟨(show SE G 48 49 (.inl (i_al 0 50)) from s_aload_n (j := 0) (by decide +kernel)),
  List.forall_mem_cons.mpr ⟨(show SE G 48 50 (.inl (i_get [7] 1 53)) from s_get (idx := 13) (kk := 1) hK (by decide +kernel) (inW 418 (by decide +kernel) (by decide +kernel)) fo_M_varHas),
  List.forall_mem_cons.mpr ⟨(show SE G 48 53 (.inl (i_il 2 54)) from s_iload_n (j := 2) (by decide +kernel)),
  List.forall_mem_cons.mpr ⟨(show SE G 48 54 (.inl (i_ld [20, 30] 55)) from s_iald hK (by decide +kernel)),
  List.forall_mem_cons.mpr ⟨(show SE G 48 55 (.inl (i_ist 56)) from s_iast hK (by decide +kernel)),
  List.forall_mem_cons.mpr ⟨(show SE G 48 56 (.inl (i_al 0 57)) from s_aload_n (j := 0) (by decide +kernel)),
  List.forall_mem_cons.mpr ⟨(show SE G 48 57 (.inl (i_il 1 58)) from s_iload_n (j := 1) (by decide +kernel)),
  List.forall_mem_cons.mpr ⟨(show SE G 48 58 (.inl (i_c 9 60)) from s_bipush (e := 9) (by decide +kernel) (by decide +kernel) (by decide)),
  List.forall_mem_cons.mpr ⟨(show SE G 48 60 (.inl (i_al 0 61)) from s_aload_n (j := 0) (by decide +kernel)),
  List.forall_mem_cons.mpr ⟨(show SE G 48 61 (.inl (i_get [7] 4 64)) from s_get (idx := 16) (kk := 4) hK (by decide +kernel) (inW 421 (by decide +kernel) (by decide +kernel)) fo_M_name),
  List.forall_mem_cons.mpr ⟨(show SE G 48 64 (.inl (i_il 3 65)) from s_iload_n (j := 3) (by decide +kernel)),
  List.forall_mem_cons.mpr ⟨(show SE G 48 65 (.inl (i_ld [20, 30] 66)) from s_iald hK (by decide +kernel)),
  List.forall_mem_cons.mpr ⟨(show SE G 48 66 (.inr (.inl (false, 4, [(7, 41)], 69))) from ⟨c_virt (idx := 67) (n := 3) hK (by decide +kernel) (List.forall_mem_cons.mpr ⟨⟨ko_41, inW 483 (by decide +kernel) (by decide +kernel), inW 485 (by decide +kernel) (by decide +kernel), 6, _, rfl, by decide, rfl, inW 13 (by decide +kernel) (by decide +kernel)⟩, fun _ h => absurd h List.not_mem_nil⟩), (List.forall_mem_cons.mpr ⟨⟨mo_41, by decide⟩, fun _ h => absurd h List.not_mem_nil⟩)⟩),
  List.forall_mem_cons.mpr ⟨(show SE G 48 69 (.inl (i_al 0 70)) from s_aload_n (j := 0) (by decide +kernel)),
  List.forall_mem_cons.mpr ⟨(show SE G 48 70 (.inl (i_get [7] 4 73)) from s_get (idx := 16) (kk := 4) hK (by decide +kernel) (inW 421 (by decide +kernel) (by decide +kernel)) fo_M_name),
  List.forall_mem_cons.mpr ⟨(show SE G 48 73 (.inl (i_il 3 74)) from s_iload_n (j := 3) (by decide +kernel)),
  List.forall_mem_cons.mpr ⟨(show SE G 48 74 (.inl (i_ld [20, 30] 75)) from s_iald hK (by decide +kernel)),
  List.forall_mem_cons.mpr ⟨(show SE G 48 75 (.inr (.inr 0)) from ⟨(by decide +kernel), rfl⟩),
  fun _ h => absurd h List.not_mem_nil⟩⟩⟩⟩⟩⟩⟩⟩⟩⟩⟩⟩⟩⟩⟩⟩⟩⟩⟩
theorem ok_l_48 (hK : K0 G) : ∀ q ∈ l_48, SE G 48 q.1 q.2 := by
  show ∀ q ∈ l_48_0 ++ (l_48_1), SE G 48 q.1 q.2
  exact List.forall_mem_append.mpr ⟨ok_l_48_0 hK, ok_l_48_1 hK⟩
set_option maxRecDepth 20000 in
theorem ok_l_49 (hK : K0 G) : ∀ q ∈ l_49, SE G 49 q.1 q.2 :=
  List.forall_mem_cons.mpr ⟨(show SE G 49 0 (.inl (i_il 1 1)) from s_iload_n (j := 1) (by decide +kernel)),
  List.forall_mem_cons.mpr ⟨(show SE G 49 1 (.inr (.inl (true, 1, [(0, 37)], 4))) from ⟨c_static (idx := 54) (n := 1) (k1 := 37) (by decide +kernel) ko_37 (inW 478 (by decide +kernel) (by decide +kernel)) (inW 479 (by decide +kernel) (by decide +kernel)), (List.forall_mem_cons.mpr ⟨⟨mo_37, by decide⟩, fun _ h => absurd h List.not_mem_nil⟩)⟩),
  List.forall_mem_cons.mpr ⟨(show SE G 49 4 (.inl (i_z 1 9 7)) from s_if_ne (tg := 9) (off := 5) (by decide +kernel) (by decide)),
  List.forall_mem_cons.mpr ⟨(show SE G 49 7 (.inl (i_c (-1) 8)) from s_iconst (e := (-1)) (by decide +kernel) (by decide)),
  List.forall_mem_cons.mpr ⟨(show SE G 49 8 (.inr (.inr 0)) from ⟨(by decide +kernel), rfl⟩),
  List.forall_mem_cons.mpr ⟨(show SE G 49 9 (.inl (i_al 0 10)) from s_aload_n (j := 0) (by decide +kernel)),
  List.forall_mem_cons.mpr ⟨(show SE G 49 10 (.inl (i_c 4 11)) from s_iconst (e := 4) (by decide +kernel) (by decide)),
  List.forall_mem_cons.mpr ⟨(show SE G 49 11 (.inl (i_c 0 12)) from s_iconst (e := 0) (by decide +kernel) (by decide)),
  List.forall_mem_cons.mpr ⟨(show SE G 49 12 (.inl (i_c 8 14)) from s_bipush (e := 8) (by decide +kernel) (by decide +kernel) (by decide)),
  List.forall_mem_cons.mpr ⟨(show SE G 49 14 (.inr (.inl (false, 4, [(7, 46)], 17))) from ⟨c_virt (idx := 84) (n := 3) hK (by decide +kernel) (List.forall_mem_cons.mpr ⟨⟨ko_46, inW 495 (by decide +kernel) (by decide +kernel), inW 497 (by decide +kernel) (by decide +kernel), 6, _, rfl, by decide, rfl, inW 14 (by decide +kernel) (by decide +kernel)⟩, fun _ h => absurd h List.not_mem_nil⟩), (List.forall_mem_cons.mpr ⟨⟨mo_46, by decide⟩, fun _ h => absurd h List.not_mem_nil⟩)⟩),
  List.forall_mem_cons.mpr ⟨(show SE G 49 17 (.inl (i_is 2 18)) from s_istore_n (j := 2) (by decide +kernel) (by decide)),
  List.forall_mem_cons.mpr ⟨(show SE G 49 18 (.inl (i_il 2 19)) from s_iload_n (j := 2) (by decide +kernel)),
  List.forall_mem_cons.mpr ⟨(show SE G 49 19 (.inl (i_z 3 25 22)) from s_if_ge (tg := 25) (off := 6) (by decide +kernel) (by decide)),
  List.forall_mem_cons.mpr ⟨(show SE G 49 22 (.inl (i_c (-2) 24)) from s_bipush (e := (-2)) (by decide +kernel) (by decide +kernel) (by decide)),
  List.forall_mem_cons.mpr ⟨(show SE G 49 24 (.inr (.inr 0)) from ⟨(by decide +kernel), rfl⟩),
  List.forall_mem_cons.mpr ⟨(show SE G 49 25 (.inl (i_al 0 26)) from s_aload_n (j := 0) (by decide +kernel)),
  List.forall_mem_cons.mpr ⟨(show SE G 49 26 (.inl (i_il 1 27)) from s_iload_n (j := 1) (by decide +kernel)),
  List.forall_mem_cons.mpr ⟨(show SE G 49 27 (.inl (i_c 9 29)) from s_bipush (e := 9) (by decide +kernel) (by decide +kernel) (by decide)),
  List.forall_mem_cons.mpr ⟨(show SE G 49 29 (.inl (i_al 0 30)) from s_aload_n (j := 0) (by decide +kernel)),
  List.forall_mem_cons.mpr ⟨(show SE G 49 30 (.inl (i_get [7] 4 33)) from s_get (idx := 16) (kk := 4) hK (by decide +kernel) (inW 421 (by decide +kernel) (by decide +kernel)) fo_M_name),
  List.forall_mem_cons.mpr ⟨(show SE G 49 33 (.inl (i_il 2 34)) from s_iload_n (j := 2) (by decide +kernel)),
  List.forall_mem_cons.mpr ⟨(show SE G 49 34 (.inl (i_ld [20, 30] 35)) from s_iald hK (by decide +kernel)),
  List.forall_mem_cons.mpr ⟨(show SE G 49 35 (.inr (.inl (false, 4, [(7, 41)], 38))) from ⟨c_virt (idx := 67) (n := 3) hK (by decide +kernel) (List.forall_mem_cons.mpr ⟨⟨ko_41, inW 483 (by decide +kernel) (by decide +kernel), inW 485 (by decide +kernel) (by decide +kernel), 6, _, rfl, by decide, rfl, inW 13 (by decide +kernel) (by decide +kernel)⟩, fun _ h => absurd h List.not_mem_nil⟩), (List.forall_mem_cons.mpr ⟨⟨mo_41, by decide⟩, fun _ h => absurd h List.not_mem_nil⟩)⟩),
  List.forall_mem_cons.mpr ⟨(show SE G 49 38 (.inl (i_al 0 39)) from s_aload_n (j := 0) (by decide +kernel)),
  List.forall_mem_cons.mpr ⟨(show SE G 49 39 (.inl (i_get [7] 4 42)) from s_get (idx := 16) (kk := 4) hK (by decide +kernel) (inW 421 (by decide +kernel) (by decide +kernel)) fo_M_name),
  List.forall_mem_cons.mpr ⟨(show SE G 49 42 (.inl (i_il 2 43)) from s_iload_n (j := 2) (by decide +kernel)),
  List.forall_mem_cons.mpr ⟨(show SE G 49 43 (.inl (i_ld [20, 30] 44)) from s_iald hK (by decide +kernel)),
  List.forall_mem_cons.mpr ⟨(show SE G 49 44 (.inr (.inr 0)) from ⟨(by decide +kernel), rfl⟩),
  fun _ h => absurd h List.not_mem_nil⟩⟩⟩⟩⟩⟩⟩⟩⟩⟩⟩⟩⟩⟩⟩⟩⟩⟩⟩⟩⟩⟩⟩⟩⟩⟩⟩⟩
set_option maxRecDepth 20000 in
theorem ok_l_50_0 (hK : K0 G) : ∀ q ∈ l_50_0, SE G 50 q.1 q.2 :=
  List.forall_mem_cons.mpr ⟨(show SE G 50 0 (.inl (i_al 0 1)) from s_aload_n (j := 0) (by decide +kernel)),
  List.forall_mem_cons.mpr ⟨(show SE G 50 1 (.inl (i_il 1 2)) from s_iload_n (j := 1) (by decide +kernel)),
  List.forall_mem_cons.mpr ⟨(show SE G 50 2 (.inl (i_c 2 3)) from s_iconst (e := 2) (by decide +kernel) (by decide)),
  List.forall_mem_cons.mpr ⟨(show SE G 50 3 (.inr (.inl (false, 3, [(7, 40)], 6))) from ⟨c_virt (idx := 88) (n := 2) hK (by decide +kernel) (List.forall_mem_cons.mpr ⟨⟨ko_40, inW 567 (by decide +kernel) (by decide +kernel), inW 569 (by decide +kernel) (by decide +kernel), 6, _, rfl, by decide, rfl, inW 28 (by decide +kernel) (by decide +kernel)⟩, fun _ h => absurd h List.not_mem_nil⟩), (List.forall_mem_cons.mpr ⟨⟨mo_40, by decide⟩, fun _ h => absurd h List.not_mem_nil⟩)⟩),
  List.forall_mem_cons.mpr ⟨(show SE G 50 6 (.inl (i_is 4 8)) from s_istore (j := 4) (by decide +kernel) (by decide)),
  List.forall_mem_cons.mpr ⟨(show SE G 50 8 (.inl (i_il 4 10)) from s_iload (j := 4) (by decide +kernel)),
  List.forall_mem_cons.mpr ⟨(show SE G 50 10 (.inl (i_z 2 35 13)) from s_if_lt (tg := 35) (off := 25) (by decide +kernel) (by decide)),
  List.forall_mem_cons.mpr ⟨(show SE G 50 13 (.inl (i_il 2 14)) from s_iload_n (j := 2) (by decide +kernel)),
  List.forall_mem_cons.mpr ⟨(show SE G 50 14 (.inl (i_z 2 35 17)) from s_if_lt (tg := 35) (off := 21) (by decide +kernel) (by decide)),
  List.forall_mem_cons.mpr ⟨(show SE G 50 17 (.inl (i_il 2 18)) from s_iload_n (j := 2) (by decide +kernel)),
  List.forall_mem_cons.mpr ⟨(show SE G 50 18 (.inl (i_al 0 19)) from s_aload_n (j := 0) (by decide +kernel)),
  List.forall_mem_cons.mpr ⟨(show SE G 50 19 (.inl (i_get [7] 6 22)) from s_get (idx := 22) (kk := 6) hK (by decide +kernel) (inW 423 (by decide +kernel) (by decide +kernel)) fo_M_many),
  List.forall_mem_cons.mpr ⟨(show SE G 50 22 (.inl (i_il 4 24)) from s_iload (j := 4) (by decide +kernel)),
  List.forall_mem_cons.mpr ⟨(show SE G 50 24 (.inl (i_ld [20, 30] 25)) from s_iald hK (by decide +kernel)),
  List.forall_mem_cons.mpr ⟨(show SE G 50 25 (.inl (i_cmp 3 35 28)) from s_icmp_ge (tg := 35) (off := 10) (by decide +kernel) (by decide)),
  List.forall_mem_cons.mpr ⟨(show SE G 50 28 (.inl (i_il 3 29)) from s_iload_n (j := 3) (by decide +kernel)),
  List.forall_mem_cons.mpr ⟨(show SE G 50 29 (.inr (.inl (true, 1, [(0, 37)], 32))) from ⟨c_static (idx := 54) (n := 1) (k1 := 37) (by decide +kernel) ko_37 (inW 478 (by decide +kernel) (by decide +kernel)) (inW 479 (by decide +kernel) (by decide +kernel)), (List.forall_mem_cons.mpr ⟨⟨mo_37, by decide⟩, fun _ h => absurd h List.not_mem_nil⟩)⟩),
  List.forall_mem_cons.mpr ⟨(show SE G 50 32 (.inl (i_z 1 37 35)) from s_if_ne (tg := 37) (off := 5) (by decide +kernel) (by decide)),
  List.forall_mem_cons.mpr ⟨(show SE G 50 35 (.inl (i_c 0 36)) from s_iconst (e := 0) (by decide +kernel) (by decide)),
  List.forall_mem_cons.mpr ⟨(show SE G 50 36 (.inr (.inr 1)) from ⟨(by decide +kernel), rfl⟩),
  List.forall_mem_cons.mpr ⟨(show SE G 50 37 (.inl (i_al 0 38)) from s_aload_n (j := 0) (by decide +kernel)),
  List.forall_mem_cons.mpr ⟨(show SE G 50 38 (.inl (i_get [7] 7 41)) from s_get (idx := 25) (kk := 7) hK (by decide +kernel) (inW 424 (by decide +kernel) (by decide +kernel)) fo_M_is),
  List.forall_mem_cons.mpr ⟨(show SE G 50 41 (.inl (i_c 4 42)) from s_iconst (e := 4) (by decide +kernel) (by decide)),
  List.forall_mem_cons.mpr ⟨(show SE G 50 42 (.inl (i_il 4 44)) from s_iload (j := 4) (by decide +kernel)),
  List.forall_mem_cons.mpr ⟨(show SE G 50 44 (.inl (i_bin (fun a b => a * b) 45)) from s_imul (by decide +kernel)),
  List.forall_mem_cons.mpr ⟨(show SE G 50 45 (.inl (i_il 2 46)) from s_iload_n (j := 2) (by decide +kernel)),
  List.forall_mem_cons.mpr ⟨(show SE G 50 46 (.inl (i_bin (fun a b => a + b) 47)) from s_iadd (by decide +kernel)),
  List.forall_mem_cons.mpr ⟨(show SE G 50 47 (.inl (i_al 0 48)) from s_aload_n (j := 0) (by decide +kernel)),
  List.forall_mem_cons.mpr ⟨(show SE G 50 48 (.inl (i_get [7] 0 51)) from s_get (idx := 7) (kk := 0) hK (by decide +kernel) (inW 417 (by decide +kernel) (by decide +kernel)) fo_M_varIs),
  List.forall_mem_cons.mpr ⟨(show SE G 50 51 (.inl (i_il 3 52)) from s_iload_n (j := 3) (by decide +kernel)),
  fun _ h => absurd h List.not_mem_nil⟩⟩⟩⟩⟩⟩⟩⟩⟩⟩⟩⟩⟩⟩⟩⟩⟩⟩⟩⟩⟩⟩⟩⟩⟩⟩⟩⟩⟩⟩
set_option maxRecDepth 20000 in
theorem ok_l_50_1 (hK : K0 G) : ∀ q ∈ l_50_1, SE G 50 q.1 q.2 :=
  List.forall_mem_cons.mpr ⟨(show SE G 50 52 (.inl (i_ld [20, 30] 53)) from s_iald hK (by decide +kernel)),
  List.forall_mem_cons.mpr ⟨(show SE G 50 53 (.inl (i_ist 54)) from s_iast hK (by decide +kernel)),
  List.forall_mem_cons.mpr ⟨(show SE G 50 54 (.inl (i_al 0 55)) from s_aload_n (j := 0) (by decide +kernel)),
  List.forall_mem_cons.mpr ⟨(show SE G 50 55 (.inl (i_get [7] 8 58)) from s_get (idx := 28) (kk := 8) hK (by decide +kernel) (inW 425 (by decide +kernel) (by decide +kernel)) fo_M_has),
  List.forall_mem_cons.mpr ⟨(show SE G 50 58 (.inl (i_c 4 59)) from s_iconst (e := 4) (by decide +kernel) (by decide)),
  List.forall_mem_cons.mpr ⟨(show SE G 50 59 (.inl (i_il 4 61)) from s_iload (j := 4) (by decide +kernel)),
  List.forall_mem_cons.mpr ⟨(show SE G 50 61 (.inl (i_bin (fun a b => a * b) 62)) from s_imul (by decide +kernel)),
  List.forall_mem_cons.mpr ⟨(show SE G 50 62 (.inl (i_il 2 63)) from s_iload_n (j := 2) (by decide +kernel)),
  List.forall_mem_cons.mpr ⟨(show SE G 50 63 (.inl (i_bin (fun a b => a + b) 64)) from s_iadd (by decide +kernel)),
  List.forall_mem_cons.mpr ⟨(show SE G 50 64 (.inl (i_al 0 65)) from s_aload_n (j := 0) (by decide +kernel)),
  List.forall_mem_cons.mpr ⟨(show SE G 50 65 (.inl (i_get [7] 1 68)) from s_get (idx := 13) (kk := 1) hK (by decide +kernel) (inW 418 (by decide +kernel) (by decide +kernel)) fo_M_varHas),
  List.forall_mem_cons.mpr ⟨(show SE G 50 68 (.inl (i_il 3 69)) from s_iload_n (j := 3) (by decide +kernel)),
  List.forall_mem_cons.mpr ⟨(show SE G 50 69 (.inl (i_ld [20, 30] 70)) from s_iald hK (by decide +kernel)),
  List.forall_mem_cons.mpr ⟨(show SE G 50 70 (.inl (i_ist 71)) from s_iast hK (by decide +kernel)),
  List.forall_mem_cons.mpr ⟨(show SE G 50 71 (.inl (i_c 1 72)) from s_iconst (e := 1) (by decide +kernel) (by decide)),
  List.forall_mem_cons.mpr ⟨(show SE G 50 72 (.inr (.inr 1)) from ⟨(by decide +kernel), rfl⟩),
  fun _ h => absurd h List.not_mem_nil⟩⟩⟩⟩⟩⟩⟩⟩⟩⟩⟩⟩⟩⟩⟩⟩
theorem ok_l_50 (hK : K0 G) : ∀ q ∈ l_50, SE G 50 q.1 q.2 := by
  show ∀ q ∈ l_50_0 ++ (l_50_1), SE G 50 q.1 q.2
  exact List.forall_mem_append.mpr ⟨ok_l_50_0 hK, ok_l_50_1 hK⟩
set_option maxRecDepth 20000 in
theorem ok_l_51_0 (hK : K0 G) : ∀ q ∈ l_51_0, SE G 51 q.1 q.2 :=
  List.forall_mem_cons.mpr ⟨(show SE G 51 0 (.inl (i_al 0 1)) from s_aload_n (j := 0) (by decide +kernel)),
  List.forall_mem_cons.mpr ⟨(show SE G 51 1 (.inl (i_il 2 2)) from s_iload_n (j := 2) (by decide +kernel)),
  List.forall_mem_cons.mpr ⟨(show SE G 51 2 (.inr (.inl (false, 2, [(7, 39)], 5))) from ⟨c_virt (idx := 62) (n := 1) hK (by decide +kernel) (List.forall_mem_cons.mpr ⟨⟨ko_39, inW 555 (by decide +kernel) (by decide +kernel), inW 557 (by decide +kernel) (by decide +kernel), 6, _, rfl, by decide, rfl, inW 27 (by decide +kernel) (by decide +kernel)⟩, fun _ h => absurd h List.not_mem_nil⟩), (List.forall_mem_cons.mpr ⟨⟨mo_39, by decide⟩, fun _ h => absurd h List.not_mem_nil⟩)⟩),
  List.forall_mem_cons.mpr ⟨(show SE G 51 5 (.inl (i_is 4 7)) from s_istore (j := 4) (by decide +kernel) (by decide)),
  List.forall_mem_cons.mpr ⟨(show SE G 51 7 (.inl (i_il 1 8)) from s_iload_n (j := 1) (by decide +kernel)),
  List.forall_mem_cons.mpr ⟨(show SE G 51 8 (.inr (.inl (true, 1, [(0, 37)], 11))) from ⟨c_static (idx := 54) (n := 1) (k1 := 37) (by decide +kernel) ko_37 (inW 478 (by decide +kernel) (by decide +kernel)) (inW 479 (by decide +kernel) (by decide +kernel)), (List.forall_mem_cons.mpr ⟨⟨mo_37, by decide⟩, fun _ h => absurd h List.not_mem_nil⟩)⟩),
  List.forall_mem_cons.mpr ⟨(show SE G 51 11 (.inl (i_z 0 45 14)) from s_if_eq (tg := 45) (off := 34) (by decide +kernel) (by decide)),
  List.forall_mem_cons.mpr ⟨(show SE G 51 14 (.inl (i_il 4 16)) from s_iload (j := 4) (by decide +kernel)),
  List.forall_mem_cons.mpr ⟨(show SE G 51 16 (.inl (i_z 2 45 19)) from s_if_lt (tg := 45) (off := 29) (by decide +kernel) (by decide)),
  List.forall_mem_cons.mpr ⟨(show SE G 51 19 (.inl (i_al 0 20)) from s_aload_n (j := 0) (by decide +kernel)),
  List.forall_mem_cons.mpr ⟨(show SE G 51 20 (.inl (i_get [7] 5 23)) from s_get (idx := 19) (kk := 5) hK (by decide +kernel) (inW 422 (by decide +kernel) (by decide +kernel)) fo_M_sort),
  List.forall_mem_cons.mpr ⟨(show SE G 51 23 (.inl (i_il 4 25)) from s_iload (j := 4) (by decide +kernel)),
  List.forall_mem_cons.mpr ⟨(show SE G 51 25 (.inl (i_ld [20, 30] 26)) from s_iald hK (by decide +kernel)),
  List.forall_mem_cons.mpr ⟨(show SE G 51 26 (.inl (i_c 4 27)) from s_iconst (e := 4) (by decide +kernel) (by decide)),
  List.forall_mem_cons.mpr ⟨(show SE G 51 27 (.inl (i_cmp 0 45 30)) from s_icmp_eq (tg := 45) (off := 18) (by decide +kernel) (by decide)),
  List.forall_mem_cons.mpr ⟨(show SE G 51 30 (.inl (i_il 3 31)) from s_iload_n (j := 3) (by decide +kernel)),
  List.forall_mem_cons.mpr ⟨(show SE G 51 31 (.inl (i_z 2 45 34)) from s_if_lt (tg := 45) (off := 14) (by decide +kernel) (by decide)),
  List.forall_mem_cons.mpr ⟨(show SE G 51 34 (.inl (i_il 3 35)) from s_iload_n (j := 3) (by decide +kernel)),
  List.forall_mem_cons.mpr ⟨(show SE G 51 35 (.inl (i_al 0 36)) from s_aload_n (j := 0) (by decide +kernel)),
  List.forall_mem_cons.mpr ⟨(show SE G 51 36 (.inl (i_get [7] 6 39)) from s_get (idx := 22) (kk := 6) hK (by decide +kernel) (inW 423 (by decide +kernel) (by decide +kernel)) fo_M_many),
  List.forall_mem_cons.mpr ⟨(show SE G 51 39 (.inl (i_il 4 41)) from s_iload (j := 4) (by decide +kernel)),
  List.forall_mem_cons.mpr ⟨(show SE G 51 41 (.inl (i_ld [20, 30] 42)) from s_iald hK (by decide +kernel)),
  List.forall_mem_cons.mpr ⟨(show SE G 51 42 (.inl (i_cmp 2 47 45)) from s_icmp_lt (tg := 47) (off := 5) (by decide +kernel) (by decide)),
  List.forall_mem_cons.mpr ⟨(show SE G 51 45 (.inl (i_c 0 46)) from s_iconst (e := 0) (by decide +kernel) (by decide)),
  List.forall_mem_cons.mpr ⟨(show SE G 51 46 (.inr (.inr 1)) from ⟨(by decide +kernel), rfl⟩),
  List.forall_mem_cons.mpr ⟨(show SE G 51 47 (.inl (i_al 0 48)) from s_aload_n (j := 0) (by decide +kernel)),
  List.forall_mem_cons.mpr ⟨(show SE G 51 48 (.inl (i_il 1 49)) from s_iload_n (j := 1) (by decide +kernel)),
  List.forall_mem_cons.mpr ⟨(show SE G 51 49 (.inl (i_al 0 50)) from s_aload_n (j := 0) (by decide +kernel)),
  List.forall_mem_cons.mpr ⟨(show SE G 51 50 (.inl (i_get [7] 7 53)) from s_get (idx := 25) (kk := 7) hK (by decide +kernel) (inW 424 (by decide +kernel) (by decide +kernel)) fo_M_is),
  List.forall_mem_cons.mpr ⟨(show SE G 51 53 (.inl (i_c 4 54)) from s_iconst (e := 4) (by decide +kernel) (by decide)),
  fun _ h => absurd h List.not_mem_nil⟩⟩⟩⟩⟩⟩⟩⟩⟩⟩⟩⟩⟩⟩⟩⟩⟩⟩⟩⟩⟩⟩⟩⟩⟩⟩⟩⟩⟩⟩
set_option maxRecDepth 20000 in
theorem ok_l_51_1 (hK : K0 G) : ∀ q ∈ l_51_1, SE G 51 q.1 q.2 :=
  List.forall_mem_cons.mpr ⟨(show SE G 51 54 (.inl (i_il 4 56)) from s_iload (j := 4) (by decide +kernel)),
  List.forall_mem_cons.mpr ⟨(show SE G 51 56 (.inl (i_bin (fun a b => a * b) 57)) from s_imul (by decide +kernel)),
  List.forall_mem_cons.mpr ⟨(show SE G 51 57 (.inl (i_il 3 58)) from s_iload_n (j := 3) (by decide +kernel)),
  List.forall_mem_cons.mpr ⟨(show SE G 51 58 (.inl (i_bin (fun a b => a + b) 59)) from s_iadd (by decide +kernel)),
  List.forall_mem_cons.mpr ⟨(show SE G 51 59 (.inl (i_ld [20, 30] 60)) from s_iald hK (by decide +kernel)),
  List.forall_mem_cons.mpr ⟨(show SE G 51 60 (.inl (i_al 0 61)) from s_aload_n (j := 0) (by decide +kernel)),
  List.forall_mem_cons.mpr ⟨(show SE G 51 61 (.inl (i_get [7] 8 64)) from s_get (idx := 28) (kk := 8) hK (by decide +kernel) (inW 425 (by decide +kernel) (by decide +kernel)) fo_M_has),
  List.forall_mem_cons.mpr ⟨(show SE G 51 64 (.inl (i_c 4 65)) from s_iconst (e := 4) (by decide +kernel) (by decide)),
  List.forall_mem_cons.mpr ⟨(show SE G 51 65 (.inl (i_il 4 67)) from s_iload (j := 4) (by decide +kernel)),
  List.forall_mem_cons.mpr ⟨(show SE G 51 67 (.inl (i_bin (fun a b => a * b) 68)) from s_imul (by decide +kernel)),
  List.forall_mem_cons.mpr ⟨(show SE G 51 68 (.inl (i_il 3 69)) from s_iload_n (j := 3) (by decide +kernel)),
  List.forall_mem_cons.mpr ⟨(show SE G 51 69 (.inl (i_bin (fun a b => a + b) 70)) from s_iadd (by decide +kernel)),
  List.forall_mem_cons.mpr ⟨(show SE G 51 70 (.inl (i_ld [20, 30] 71)) from s_iald hK (by decide +kernel)),
  List.forall_mem_cons.mpr ⟨(show SE G 51 71 (.inr (.inl (false, 4, [(7, 41)], 74))) from ⟨c_virt (idx := 67) (n := 3) hK (by decide +kernel) (List.forall_mem_cons.mpr ⟨⟨ko_41, inW 483 (by decide +kernel) (by decide +kernel), inW 485 (by decide +kernel) (by decide +kernel), 6, _, rfl, by decide, rfl, inW 13 (by decide +kernel) (by decide +kernel)⟩, fun _ h => absurd h List.not_mem_nil⟩), (List.forall_mem_cons.mpr ⟨⟨mo_41, by decide⟩, fun _ h => absurd h List.not_mem_nil⟩)⟩),
  List.forall_mem_cons.mpr ⟨(show SE G 51 74 (.inl (i_c 1 75)) from s_iconst (e := 1) (by decide +kernel) (by decide)),
  List.forall_mem_cons.mpr ⟨(show SE G 51 75 (.inr (.inr 1)) from ⟨(by decide +kernel), rfl⟩),
  fun _ h => absurd h List.not_mem_nil⟩⟩⟩⟩⟩⟩⟩⟩⟩⟩⟩⟩⟩⟩⟩⟩
theorem ok_l_51 (hK : K0 G) : ∀ q ∈ l_51, SE G 51 q.1 q.2 := by
  show ∀ q ∈ l_51_0 ++ (l_51_1), SE G 51 q.1 q.2
  exact List.forall_mem_append.mpr ⟨ok_l_51_0 hK, ok_l_51_1 hK⟩
set_option maxRecDepth 20000 in
theorem ok_l_52 (hK : K0 G) : ∀ q ∈ l_52, SE G 52 q.1 q.2 :=
  List.forall_mem_cons.mpr ⟨(show SE G 52 0 (.inl (i_c (-1) 1)) from s_iconst (e := (-1)) (by decide +kernel) (by decide)),
  List.forall_mem_cons.mpr ⟨(show SE G 52 1 (.inl (i_is 3 2)) from s_istore_n (j := 3) (by decide +kernel) (by decide)),
  List.forall_mem_cons.mpr ⟨(show SE G 52 2 (.inl (i_c 0 3)) from s_iconst (e := 0) (by decide +kernel) (by decide)),
  List.forall_mem_cons.mpr ⟨(show SE G 52 3 (.inl (i_is 4 5)) from s_istore (j := 4) (by decide +kernel) (by decide)),
  List.forall_mem_cons.mpr ⟨(show SE G 52 5 (.inl (i_il 4 7)) from s_iload (j := 4) (by decide +kernel)),
  List.forall_mem_cons.mpr ⟨(show SE G 52 7 (.inl (i_al 0 8)) from s_aload_n (j := 0) (by decide +kernel)),
  List.forall_mem_cons.mpr ⟨(show SE G 52 8 (.inl (i_get [7] 6 11)) from s_get (idx := 22) (kk := 6) hK (by decide +kernel) (inW 423 (by decide +kernel) (by decide +kernel)) fo_M_many),
  List.forall_mem_cons.mpr ⟨(show SE G 52 11 (.inl (i_il 1 12)) from s_iload_n (j := 1) (by decide +kernel)),
  List.forall_mem_cons.mpr ⟨(show SE G 52 12 (.inl (i_ld [20, 30] 13)) from s_iald hK (by decide +kernel)),
  List.forall_mem_cons.mpr ⟨(show SE G 52 13 (.inl (i_cmp 3 44 16)) from s_icmp_ge (tg := 44) (off := 31) (by decide +kernel) (by decide)),
  List.forall_mem_cons.mpr ⟨(show SE G 52 16 (.inl (i_al 0 17)) from s_aload_n (j := 0) (by decide +kernel)),
  List.forall_mem_cons.mpr ⟨(show SE G 52 17 (.inl (i_get [7] 9 20)) from s_get (idx := 31) (kk := 9) hK (by decide +kernel) (inW 426 (by decide +kernel) (by decide +kernel)) fo_M_keys),
  List.forall_mem_cons.mpr ⟨(show SE G 52 20 (.inl (i_c 4 21)) from s_iconst (e := 4) (by decide +kernel) (by decide)),
  List.forall_mem_cons.mpr ⟨(show SE G 52 21 (.inl (i_il 1 22)) from s_iload_n (j := 1) (by decide +kernel)),
  List.forall_mem_cons.mpr ⟨(show SE G 52 22 (.inl (i_bin (fun a b => a * b) 23)) from s_imul (by decide +kernel)),
  List.forall_mem_cons.mpr ⟨(show SE G 52 23 (.inl (i_il 4 25)) from s_iload (j := 4) (by decide +kernel)),
  List.forall_mem_cons.mpr ⟨(show SE G 52 25 (.inl (i_bin (fun a b => a + b) 26)) from s_iadd (by decide +kernel)),
  List.forall_mem_cons.mpr ⟨(show SE G 52 26 (.inl (i_ld [20, 30] 27)) from s_iald hK (by decide +kernel)),
  List.forall_mem_cons.mpr ⟨(show SE G 52 27 (.inl (i_il 2 28)) from s_iload_n (j := 2) (by decide +kernel)),
  List.forall_mem_cons.mpr ⟨(show SE G 52 28 (.inl (i_cmp 1 36 31)) from s_icmp_ne (tg := 36) (off := 8) (by decide +kernel) (by decide)),
  List.forall_mem_cons.mpr ⟨(show SE G 52 31 (.inl (i_il 4 33)) from s_iload (j := 4) (by decide +kernel)),
  List.forall_mem_cons.mpr ⟨(show SE G 52 33 (.inl (i_go 37)) from s_goto (tg := 37) (off := 4) (by decide +kernel) (by decide)),
  List.forall_mem_cons.mpr ⟨(show SE G 52 36 (.inl (i_il 3 37)) from s_iload_n (j := 3) (by decide +kernel)),
  List.forall_mem_cons.mpr ⟨(show SE G 52 37 (.inl (i_is 3 38)) from s_istore_n (j := 3) (by decide +kernel) (by decide)),
  List.forall_mem_cons.mpr ⟨(show SE G 52 38 (.inl (i_ii 4 1 41)) from s_iinc (j := 4) (n := 1) (by decide +kernel) (by decide)),
  List.forall_mem_cons.mpr ⟨(show SE G 52 41 (.inl (i_go 5)) from s_goto (tg := 5) (off := -36) (by decide +kernel) (by decide)),
  List.forall_mem_cons.mpr ⟨(show SE G 52 44 (.inl (i_il 3 45)) from s_iload_n (j := 3) (by decide +kernel)),
  List.forall_mem_cons.mpr ⟨(show SE G 52 45 (.inr (.inr 0)) from ⟨(by decide +kernel), rfl⟩),
  fun _ h => absurd h List.not_mem_nil⟩⟩⟩⟩⟩⟩⟩⟩⟩⟩⟩⟩⟩⟩⟩⟩⟩⟩⟩⟩⟩⟩⟩⟩⟩⟩⟩⟩
set_option maxRecDepth 20000 in
theorem ok_l_53_0 (hK : K0 G) : ∀ q ∈ l_53_0, SE G 53 q.1 q.2 :=
  List.forall_mem_cons.mpr ⟨(show SE G 53 0 (.inl (i_al 0 1)) from s_aload_n (j := 0) (by decide +kernel)),
  List.forall_mem_cons.mpr ⟨(show SE G 53 1 (.inl (i_il 1 2)) from s_iload_n (j := 1) (by decide +kernel)),
  List.forall_mem_cons.mpr ⟨(show SE G 53 2 (.inl (i_c 4 3)) from s_iconst (e := 4) (by decide +kernel) (by decide)),
  List.forall_mem_cons.mpr ⟨(show SE G 53 3 (.inr (.inl (false, 3, [(7, 40)], 6))) from ⟨c_virt (idx := 88) (n := 2) hK (by decide +kernel) (List.forall_mem_cons.mpr ⟨⟨ko_40, inW 567 (by decide +kernel) (by decide +kernel), inW 569 (by decide +kernel) (by decide +kernel), 6, _, rfl, by decide, rfl, inW 28 (by decide +kernel) (by decide +kernel)⟩, fun _ h => absurd h List.not_mem_nil⟩), (List.forall_mem_cons.mpr ⟨⟨mo_40, by decide⟩, fun _ h => absurd h List.not_mem_nil⟩)⟩),
  List.forall_mem_cons.mpr ⟨(show SE G 53 6 (.inl (i_is 4 8)) from s_istore (j := 4) (by decide +kernel) (by decide)),
  List.forall_mem_cons.mpr ⟨(show SE G 53 8 (.inl (i_il 4 10)) from s_iload (j := 4) (by decide +kernel)),
  List.forall_mem_cons.mpr ⟨(show SE G 53 10 (.inl (i_z 2 28 13)) from s_if_lt (tg := 28) (off := 18) (by decide +kernel) (by decide)),
  List.forall_mem_cons.mpr ⟨(show SE G 53 13 (.inl (i_al 0 14)) from s_aload_n (j := 0) (by decide +kernel)),
  List.forall_mem_cons.mpr ⟨(show SE G 53 14 (.inl (i_il 2 15)) from s_iload_n (j := 2) (by decide +kernel)),
  List.forall_mem_cons.mpr ⟨(show SE G 53 15 (.inr (.inl (false, 2, [(7, 39)], 18))) from ⟨c_virt (idx := 62) (n := 1) hK (by decide +kernel) (List.forall_mem_cons.mpr ⟨⟨ko_39, inW 555 (by decide +kernel) (by decide +kernel), inW 557 (by decide +kernel) (by decide +kernel), 6, _, rfl, by decide, rfl, inW 27 (by decide +kernel) (by decide +kernel)⟩, fun _ h => absurd h List.not_mem_nil⟩), (List.forall_mem_cons.mpr ⟨⟨mo_39, by decide⟩, fun _ h => absurd h List.not_mem_nil⟩)⟩),
  List.forall_mem_cons.mpr ⟨(show SE G 53 18 (.inl (i_z 2 28 21)) from s_if_lt (tg := 28) (off := 10) (by decide +kernel) (by decide)),
  List.forall_mem_cons.mpr ⟨(show SE G 53 21 (.inl (i_il 3 22)) from s_iload_n (j := 3) (by decide +kernel)),
  List.forall_mem_cons.mpr ⟨(show SE G 53 22 (.inr (.inl (true, 1, [(0, 37)], 25))) from ⟨c_static (idx := 54) (n := 1) (k1 := 37) (by decide +kernel) ko_37 (inW 478 (by decide +kernel) (by decide +kernel)) (inW 479 (by decide +kernel) (by decide +kernel)), (List.forall_mem_cons.mpr ⟨⟨mo_37, by decide⟩, fun _ h => absurd h List.not_mem_nil⟩)⟩),
  List.forall_mem_cons.mpr ⟨(show SE G 53 25 (.inl (i_z 1 30 28)) from s_if_ne (tg := 30) (off := 5) (by decide +kernel) (by decide)),
  List.forall_mem_cons.mpr ⟨(show SE G 53 28 (.inl (i_c 0 29)) from s_iconst (e := 0) (by decide +kernel) (by decide)),
  List.forall_mem_cons.mpr ⟨(show SE G 53 29 (.inr (.inr 1)) from ⟨(by decide +kernel), rfl⟩),
  List.forall_mem_cons.mpr ⟨(show SE G 53 30 (.inl (i_al 0 31)) from s_aload_n (j := 0) (by decide +kernel)),
  List.forall_mem_cons.mpr ⟨(show SE G 53 31 (.inl (i_il 4 33)) from s_iload (j := 4) (by decide +kernel)),
  List.forall_mem_cons.mpr ⟨(show SE G 53 33 (.inl (i_al 0 34)) from s_aload_n (j := 0) (by decide +kernel)),
  List.forall_mem_cons.mpr ⟨(show SE G 53 34 (.inl (i_get [7] 1 37)) from s_get (idx := 13) (kk := 1) hK (by decide +kernel) (inW 418 (by decide +kernel) (by decide +kernel)) fo_M_varHas),
  List.forall_mem_cons.mpr ⟨(show SE G 53 37 (.inl (i_il 2 38)) from s_iload_n (j := 2) (by decide +kernel)),
  List.forall_mem_cons.mpr ⟨(show SE G 53 38 (.inl (i_ld [20, 30] 39)) from s_iald hK (by decide +kernel)),
  List.forall_mem_cons.mpr ⟨(show SE G 53 39 (.inr (.inl (false, 3, [(7, 52)], 42))) from ⟨c_virt (idx := 92) (n := 2) hK (by decide +kernel) (List.forall_mem_cons.mpr ⟨⟨ko_52, inW 579 (by decide +kernel) (by decide +kernel), inW 581 (by decide +kernel) (by decide +kernel), 6, _, rfl, by decide, rfl, inW 29 (by decide +kernel) (by decide +kernel)⟩, fun _ h => absurd h List.not_mem_nil⟩), (List.forall_mem_cons.mpr ⟨⟨mo_52, by decide⟩, fun _ h => absurd h List.not_mem_nil⟩)⟩),
  List.forall_mem_cons.mpr ⟨(show SE G 53 42 (.inl (i_is 5 44)) from s_istore (j := 5) (by decide +kernel) (by decide)),
  List.forall_mem_cons.mpr ⟨(show SE G 53 44 (.inl (i_il 5 46)) from s_iload (j := 5) (by decide +kernel)),
  List.forall_mem_cons.mpr ⟨(show SE G 53 46 (.inl (i_z 3 82 49)) from s_if_ge (tg := 82) (off := 36) (by decide +kernel) (by decide)),
  List.forall_mem_cons.mpr ⟨(show SE G 53 49 (.inl (i_al 0 50)) from s_aload_n (j := 0) (by decide +kernel)),
  List.forall_mem_cons.mpr ⟨(show SE G 53 50 (.inl (i_get [7] 6 53)) from s_get (idx := 22) (kk := 6) hK (by decide +kernel) (inW 423 (by decide +kernel) (by decide +kernel)) fo_M_many),
  List.forall_mem_cons.mpr ⟨(show SE G 53 53 (.inl (i_il 4 55)) from s_iload (j := 4) (by decide +kernel)),
  List.forall_mem_cons.mpr ⟨(show SE G 53 55 (.inl (i_ld [20, 30] 56)) from s_iald hK (by decide +kernel)),
  fun _ h => absurd h List.not_mem_nil⟩⟩⟩⟩⟩⟩⟩⟩⟩⟩⟩⟩⟩⟩⟩⟩⟩⟩⟩⟩⟩⟩⟩⟩⟩⟩⟩⟩⟩⟩
set_option maxRecDepth 20000 in
theorem ok_l_53_1 (hK : K0 G) : ∀ q ∈ l_53_1, SE G 53 q.1 q.2 :=
  List.forall_mem_cons.mpr ⟨(show SE G 53 56 (.inl (i_c 3 57)) from s_iconst (e := 3) (by decide +kernel) (by decide)),
  List.forall_mem_cons.mpr ⟨(show SE G 53 57 (.inl (i_cmp 1 62 60)) from s_icmp_ne (tg := 62) (off := 5) (by decide +kernel) (by decide)),
  List.forall_mem_cons.mpr ⟨(show SE G 53 60 (.inl (i_c 0 61)) from s_iconst (e := 0) (by decide +kernel) (by decide)),
  List.forall_mem_cons.mpr ⟨(show SE G 53 61 (.inr (.inr 1)) from ⟨(by decide +kernel), rfl⟩),
  List.forall_mem_cons.mpr ⟨(show SE G 53 62 (.inl (i_al 0 63)) from s_aload_n (j := 0) (by decide +kernel)),
  List.forall_mem_cons.mpr ⟨(show SE G 53 63 (.inl (i_get [7] 6 66)) from s_get (idx := 22) (kk := 6) hK (by decide +kernel) (inW 423 (by decide +kernel) (by decide +kernel)) fo_M_many),
  List.forall_mem_cons.mpr ⟨(show SE G 53 66 (.inl (i_il 4 68)) from s_iload (j := 4) (by decide +kernel)),
  List.forall_mem_cons.mpr ⟨(show SE G 53 68 (.inl (i_ld [20, 30] 69)) from s_iald hK (by decide +kernel)),
  List.forall_mem_cons.mpr ⟨(show SE G 53 69 (.inl (i_is 5 71)) from s_istore (j := 5) (by decide +kernel) (by decide)),
  List.forall_mem_cons.mpr ⟨(show SE G 53 71 (.inl (i_al 0 72)) from s_aload_n (j := 0) (by decide +kernel)),
  List.forall_mem_cons.mpr ⟨(show SE G 53 72 (.inl (i_get [7] 6 75)) from s_get (idx := 22) (kk := 6) hK (by decide +kernel) (inW 423 (by decide +kernel) (by decide +kernel)) fo_M_many),
  List.forall_mem_cons.mpr ⟨(show SE G 53 75 (.inl (i_il 4 77)) from s_iload (j := 4) (by decide +kernel)),
  List.forall_mem_cons.mpr ⟨(show SE G 53 77 (.inl (i_dup2 78)) from s_dup2 (by decide +kernel)),
  List.forall_mem_cons.mpr ⟨(show SE G 53 78 (.inl (i_ld [20, 30] 79)) from s_iald hK (by decide +kernel)),
  List.forall_mem_cons.mpr ⟨(show SE G 53 79 (.inl (i_c 1 80)) from s_iconst (e := 1) (by decide +kernel) (by decide)),
  List.forall_mem_cons.mpr ⟨(show SE G 53 80 (.inl (i_bin (fun a b => a + b) 81)) from s_iadd (by decide +kernel)),
  List.forall_mem_cons.mpr ⟨(show SE G 53 81 (.inl (i_ist 82)) from s_iast hK (by decide +kernel)),
  List.forall_mem_cons.mpr ⟨(show SE G 53 82 (.inl (i_al 0 83)) from s_aload_n (j := 0) (by decide +kernel)),
  List.forall_mem_cons.mpr ⟨(show SE G 53 83 (.inl (i_get [7] 9 86)) from s_get (idx := 31) (kk := 9) hK (by decide +kernel) (inW 426 (by decide +kernel) (by decide +kernel)) fo_M_keys),
  List.forall_mem_cons.mpr ⟨(show SE G 53 86 (.inl (i_c 4 87)) from s_iconst (e := 4) (by decide +kernel) (by decide)),
  List.forall_mem_cons.mpr ⟨(show SE G 53 87 (.inl (i_il 4 89)) from s_iload (j := 4) (by decide +kernel)),
  List.forall_mem_cons.mpr ⟨(show SE G 53 89 (.inl (i_bin (fun a b => a * b) 90)) from s_imul (by decide +kernel)),
  List.forall_mem_cons.mpr ⟨(show SE G 53 90 (.inl (i_il 5 92)) from s_iload (j := 5) (by decide +kernel)),
  List.forall_mem_cons.mpr ⟨(show SE G 53 92 (.inl (i_bin (fun a b => a + b) 93)) from s_iadd (by decide +kernel)),
  List.forall_mem_cons.mpr ⟨(show SE G 53 93 (.inl (i_al 0 94)) from s_aload_n (j := 0) (by decide +kernel)),
  List.forall_mem_cons.mpr ⟨(show SE G 53 94 (.inl (i_get [7] 1 97)) from s_get (idx := 13) (kk := 1) hK (by decide +kernel) (inW 418 (by decide +kernel) (by decide +kernel)) fo_M_varHas),
  List.forall_mem_cons.mpr ⟨(show SE G 53 97 (.inl (i_il 2 98)) from s_iload_n (j := 2) (by decide +kernel)),
  List.forall_mem_cons.mpr ⟨(show SE G 53 98 (.inl (i_ld [20, 30] 99)) from s_iald hK (by decide +kernel)),
  List.forall_mem_cons.mpr ⟨(show SE G 53 99 (.inl (i_ist 100)) from s_iast hK (by decide +kernel)),
  List.forall_mem_cons.mpr ⟨(show SE G 53 100 (.inl (i_al 0 101)) from s_aload_n (j := 0) (by decide +kernel)),
  fun _ h => absurd h List.not_mem_nil⟩⟩⟩⟩⟩⟩⟩⟩⟩⟩⟩⟩⟩⟩⟩⟩⟩⟩⟩⟩⟩⟩⟩⟩⟩⟩⟩⟩⟩⟩
set_option maxRecDepth 20000 in
theorem ok_l_53_2 (hK : K0 G) : ∀ q ∈ l_53_2, SE G 53 q.1 q.2 :=
  List.forall_mem_cons.mpr ⟨(show SE G 53 101 (.inl (i_get [7] 7 104)) from s_get (idx := 25) (kk := 7) hK (by decide +kernel) (inW 424 (by decide +kernel) (by decide +kernel)) fo_M_is),
  List.forall_mem_cons.mpr ⟨(show SE G 53 104 (.inl (i_c 4 105)) from s_iconst (e := 4) (by decide +kernel) (by decide)),
  List.forall_mem_cons.mpr ⟨(show SE G 53 105 (.inl (i_il 4 107)) from s_iload (j := 4) (by decide +kernel)),
  List.forall_mem_cons.mpr ⟨(show SE G 53 107 (.inl (i_bin (fun a b => a * b) 108)) from s_imul (by decide +kernel)),
  List.forall_mem_cons.mpr ⟨(show SE G 53 108 (.inl (i_il 5 110)) from s_iload (j := 5) (by decide +kernel)),
  List.forall_mem_cons.mpr ⟨(show SE G 53 110 (.inl (i_bin (fun a b => a + b) 111)) from s_iadd (by decide +kernel)),
  List.forall_mem_cons.mpr ⟨(show SE G 53 111 (.inl (i_al 0 112)) from s_aload_n (j := 0) (by decide +kernel)),
  List.forall_mem_cons.mpr ⟨(show SE G 53 112 (.inl (i_get [7] 0 115)) from s_get (idx := 7) (kk := 0) hK (by decide +kernel) (inW 417 (by decide +kernel) (by decide +kernel)) fo_M_varIs),
  List.forall_mem_cons.mpr ⟨(show SE G 53 115 (.inl (i_il 3 116)) from s_iload_n (j := 3) (by decide +kernel)),
  List.forall_mem_cons.mpr ⟨(show SE G 53 116 (.inl (i_ld [20, 30] 117)) from s_iald hK (by decide +kernel)),
  List.forall_mem_cons.mpr ⟨(show SE G 53 117 (.inl (i_ist 118)) from s_iast hK (by decide +kernel)),
  List.forall_mem_cons.mpr ⟨(show SE G 53 118 (.inl (i_al 0 119)) from s_aload_n (j := 0) (by decide +kernel)),
  List.forall_mem_cons.mpr ⟨(show SE G 53 119 (.inl (i_get [7] 8 122)) from s_get (idx := 28) (kk := 8) hK (by decide +kernel) (inW 425 (by decide +kernel) (by decide +kernel)) fo_M_has),
  List.forall_mem_cons.mpr ⟨(show SE G 53 122 (.inl (i_c 4 123)) from s_iconst (e := 4) (by decide +kernel) (by decide)),
  List.forall_mem_cons.mpr ⟨(show SE G 53 123 (.inl (i_il 4 125)) from s_iload (j := 4) (by decide +kernel)),
  List.forall_mem_cons.mpr ⟨(show SE G 53 125 (.inl (i_bin (fun a b => a * b) 126)) from s_imul (by decide +kernel)),
  List.forall_mem_cons.mpr ⟨(show SE G 53 126 (.inl (i_il 5 128)) from s_iload (j := 5) (by decide +kernel)),
  List.forall_mem_cons.mpr ⟨(show SE G 53 128 (.inl (i_bin (fun a b => a + b) 129)) from s_iadd (by decide +kernel)),
  List.forall_mem_cons.mpr ⟨(show SE G 53 129 (.inl (i_al 0 130)) from s_aload_n (j := 0) (by decide +kernel)),
  List.forall_mem_cons.mpr ⟨(show SE G 53 130 (.inl (i_get [7] 1 133)) from s_get (idx := 13) (kk := 1) hK (by decide +kernel) (inW 418 (by decide +kernel) (by decide +kernel)) fo_M_varHas),
  List.forall_mem_cons.mpr ⟨(show SE G 53 133 (.inl (i_il 3 134)) from s_iload_n (j := 3) (by decide +kernel)),
  List.forall_mem_cons.mpr ⟨(show SE G 53 134 (.inl (i_ld [20, 30] 135)) from s_iald hK (by decide +kernel)),
  List.forall_mem_cons.mpr ⟨(show SE G 53 135 (.inl (i_ist 136)) from s_iast hK (by decide +kernel)),
  List.forall_mem_cons.mpr ⟨(show SE G 53 136 (.inl (i_c 1 137)) from s_iconst (e := 1) (by decide +kernel) (by decide)),
  List.forall_mem_cons.mpr ⟨(show SE G 53 137 (.inr (.inr 1)) from ⟨(by decide +kernel), rfl⟩),
  fun _ h => absurd h List.not_mem_nil⟩⟩⟩⟩⟩⟩⟩⟩⟩⟩⟩⟩⟩⟩⟩⟩⟩⟩⟩⟩⟩⟩⟩⟩⟩
theorem ok_l_53 (hK : K0 G) : ∀ q ∈ l_53, SE G 53 q.1 q.2 := by
  show ∀ q ∈ l_53_0 ++ (l_53_1 ++ (l_53_2)), SE G 53 q.1 q.2
  exact List.forall_mem_append.mpr ⟨ok_l_53_0 hK, List.forall_mem_append.mpr ⟨ok_l_53_1 hK, ok_l_53_2 hK⟩⟩
set_option maxRecDepth 20000 in
theorem ok_l_54_0 (hK : K0 G) : ∀ q ∈ l_54_0, SE G 54 q.1 q.2 :=
  List.forall_mem_cons.mpr ⟨(show SE G 54 0 (.inl (i_al 0 1)) from s_aload_n (j := 0) (by decide +kernel)),
  List.forall_mem_cons.mpr ⟨(show SE G 54 1 (.inl (i_il 2 2)) from s_iload_n (j := 2) (by decide +kernel)),
  List.forall_mem_cons.mpr ⟨(show SE G 54 2 (.inl (i_c 4 3)) from s_iconst (e := 4) (by decide +kernel) (by decide)),
  List.forall_mem_cons.mpr ⟨(show SE G 54 3 (.inr (.inl (false, 3, [(7, 40)], 6))) from ⟨c_virt (idx := 88) (n := 2) hK (by decide +kernel) (List.forall_mem_cons.mpr ⟨⟨ko_40, inW 567 (by decide +kernel) (by decide +kernel), inW 569 (by decide +kernel) (by decide +kernel), 6, _, rfl, by decide, rfl, inW 28 (by decide +kernel) (by decide +kernel)⟩, fun _ h => absurd h List.not_mem_nil⟩), (List.forall_mem_cons.mpr ⟨⟨mo_40, by decide⟩, fun _ h => absurd h List.not_mem_nil⟩)⟩),
  List.forall_mem_cons.mpr ⟨(show SE G 54 6 (.inl (i_is 4 8)) from s_istore (j := 4) (by decide +kernel) (by decide)),
  List.forall_mem_cons.mpr ⟨(show SE G 54 8 (.inl (i_il 4 10)) from s_iload (j := 4) (by decide +kernel)),
  List.forall_mem_cons.mpr ⟨(show SE G 54 10 (.inl (i_z 2 28 13)) from s_if_lt (tg := 28) (off := 18) (by decide +kernel) (by decide)),
  List.forall_mem_cons.mpr ⟨(show SE G 54 13 (.inl (i_al 0 14)) from s_aload_n (j := 0) (by decide +kernel)),
  List.forall_mem_cons.mpr ⟨(show SE G 54 14 (.inl (i_il 3 15)) from s_iload_n (j := 3) (by decide +kernel)),
  List.forall_mem_cons.mpr ⟨(show SE G 54 15 (.inr (.inl (false, 2, [(7, 39)], 18))) from ⟨c_virt (idx := 62) (n := 1) hK (by decide +kernel) (List.forall_mem_cons.mpr ⟨⟨ko_39, inW 555 (by decide +kernel) (by decide +kernel), inW 557 (by decide +kernel) (by decide +kernel), 6, _, rfl, by decide, rfl, inW 27 (by decide +kernel) (by decide +kernel)⟩, fun _ h => absurd h List.not_mem_nil⟩), (List.forall_mem_cons.mpr ⟨⟨mo_39, by decide⟩, fun _ h => absurd h List.not_mem_nil⟩)⟩),
  List.forall_mem_cons.mpr ⟨(show SE G 54 18 (.inl (i_z 2 28 21)) from s_if_lt (tg := 28) (off := 10) (by decide +kernel) (by decide)),
  List.forall_mem_cons.mpr ⟨(show SE G 54 21 (.inl (i_il 1 22)) from s_iload_n (j := 1) (by decide +kernel)),
  List.forall_mem_cons.mpr ⟨(show SE G 54 22 (.inr (.inl (true, 1, [(0, 37)], 25))) from ⟨c_static (idx := 54) (n := 1) (k1 := 37) (by decide +kernel) ko_37 (inW 478 (by decide +kernel) (by decide +kernel)) (inW 479 (by decide +kernel) (by decide +kernel)), (List.forall_mem_cons.mpr ⟨⟨mo_37, by decide⟩, fun _ h => absurd h List.not_mem_nil⟩)⟩),
  List.forall_mem_cons.mpr ⟨(show SE G 54 25 (.inl (i_z 1 30 28)) from s_if_ne (tg := 30) (off := 5) (by decide +kernel) (by decide)),
  List.forall_mem_cons.mpr ⟨(show SE G 54 28 (.inl (i_c 0 29)) from s_iconst (e := 0) (by decide +kernel) (by decide)),
  List.forall_mem_cons.mpr ⟨(show SE G 54 29 (.inr (.inr 1)) from ⟨(by decide +kernel), rfl⟩),
  List.forall_mem_cons.mpr ⟨(show SE G 54 30 (.inl (i_al 0 31)) from s_aload_n (j := 0) (by decide +kernel)),
  List.forall_mem_cons.mpr ⟨(show SE G 54 31 (.inl (i_il 4 33)) from s_iload (j := 4) (by decide +kernel)),
  List.forall_mem_cons.mpr ⟨(show SE G 54 33 (.inl (i_al 0 34)) from s_aload_n (j := 0) (by decide +kernel)),
  List.forall_mem_cons.mpr ⟨(show SE G 54 34 (.inl (i_get [7] 1 37)) from s_get (idx := 13) (kk := 1) hK (by decide +kernel) (inW 418 (by decide +kernel) (by decide +kernel)) fo_M_varHas),
  List.forall_mem_cons.mpr ⟨(show SE G 54 37 (.inl (i_il 3 38)) from s_iload_n (j := 3) (by decide +kernel)),
  List.forall_mem_cons.mpr ⟨(show SE G 54 38 (.inl (i_ld [20, 30] 39)) from s_iald hK (by decide +kernel)),
  List.forall_mem_cons.mpr ⟨(show SE G 54 39 (.inr (.inl (false, 3, [(7, 52)], 42))) from ⟨c_virt (idx := 92) (n := 2) hK (by decide +kernel) (List.forall_mem_cons.mpr ⟨⟨ko_52, inW 579 (by decide +kernel) (by decide +kernel), inW 581 (by decide +kernel) (by decide +kernel), 6, _, rfl, by decide, rfl, inW 29 (by decide +kernel) (by decide +kernel)⟩, fun _ h => absurd h List.not_mem_nil⟩), (List.forall_mem_cons.mpr ⟨⟨mo_52, by decide⟩, fun _ h => absurd h List.not_mem_nil⟩)⟩),
  List.forall_mem_cons.mpr ⟨(show SE G 54 42 (.inl (i_is 5 44)) from s_istore (j := 5) (by decide +kernel) (by decide)),
  List.forall_mem_cons.mpr ⟨(show SE G 54 44 (.inl (i_il 5 46)) from s_iload (j := 5) (by decide +kernel)),
  List.forall_mem_cons.mpr ⟨(show SE G 54 46 (.inl (i_z 3 59 49)) from s_if_ge (tg := 59) (off := 13) (by decide +kernel) (by decide)),
  List.forall_mem_cons.mpr ⟨(show SE G 54 49 (.inl (i_al 0 50)) from s_aload_n (j := 0) (by decide +kernel)),
  List.forall_mem_cons.mpr ⟨(show SE G 54 50 (.inl (i_il 1 51)) from s_iload_n (j := 1) (by decide +kernel)),
  List.forall_mem_cons.mpr ⟨(show SE G 54 51 (.inl (i_c 0 52)) from s_iconst (e := 0) (by decide +kernel) (by decide)),
  List.forall_mem_cons.mpr ⟨(show SE G 54 52 (.inl (i_c 0 53)) from s_iconst (e := 0) (by decide +kernel) (by decide)),
  fun _ h => absurd h List.not_mem_nil⟩⟩⟩⟩⟩⟩⟩⟩⟩⟩⟩⟩⟩⟩⟩⟩⟩⟩⟩⟩⟩⟩⟩⟩⟩⟩⟩⟩⟩⟩
set_option maxRecDepth 20000 in
theorem ok_l_54_1 (hK : K0 G) : ∀ q ∈ l_54_1, SE G 54 q.1 q.2 :=
  List.forall_mem_cons.mpr ⟨(show SE G 54 53 (.inr (.inl (false, 4, [(7, 41)], 56))) from ⟨c_virt (idx := 67) (n := 3) hK (by decide +kernel) (List.forall_mem_cons.mpr ⟨⟨ko_41, inW 483 (by decide +kernel) (by decide +kernel), inW 485 (by decide +kernel) (by decide +kernel), 6, _, rfl, by decide, rfl, inW 13 (by decide +kernel) (by decide +kernel)⟩, fun _ h => absurd h List.not_mem_nil⟩), (List.forall_mem_cons.mpr ⟨⟨mo_41, by decide⟩, fun _ h => absurd h List.not_mem_nil⟩)⟩),
  List.forall_mem_cons.mpr ⟨(show SE G 54 56 (.inl (i_go 88)) from s_goto (tg := 88) (off := 32) (by decide +kernel) (by decide)),
  List.forall_mem_cons.mpr ⟨(show SE G 54 59 (.inl (i_al 0 60)) from s_aload_n (j := 0) (by decide +kernel)),
  List.forall_mem_cons.mpr ⟨(show SE G 54 60 (.inl (i_il 1 61)) from s_iload_n (j := 1) (by decide +kernel)),
  List.forall_mem_cons.mpr ⟨(show SE G 54 61 (.inl (i_al 0 62)) from s_aload_n (j := 0) (by decide +kernel)),
  List.forall_mem_cons.mpr ⟨(show SE G 54 62 (.inl (i_get [7] 7 65)) from s_get (idx := 25) (kk := 7) hK (by decide +kernel) (inW 424 (by decide +kernel) (by decide +kernel)) fo_M_is),
  List.forall_mem_cons.mpr ⟨(show SE G 54 65 (.inl (i_c 4 66)) from s_iconst (e := 4) (by decide +kernel) (by decide)),
  List.forall_mem_cons.mpr ⟨(show SE G 54 66 (.inl (i_il 4 68)) from s_iload (j := 4) (by decide +kernel)),
  List.forall_mem_cons.mpr ⟨(show SE G 54 68 (.inl (i_bin (fun a b => a * b) 69)) from s_imul (by decide +kernel)),
  List.forall_mem_cons.mpr ⟨(show SE G 54 69 (.inl (i_il 5 71)) from s_iload (j := 5) (by decide +kernel)),
  List.forall_mem_cons.mpr ⟨(show SE G 54 71 (.inl (i_bin (fun a b => a + b) 72)) from s_iadd (by decide +kernel)),
  List.forall_mem_cons.mpr ⟨(show SE G 54 72 (.inl (i_ld [20, 30] 73)) from s_iald hK (by decide +kernel)),
  List.forall_mem_cons.mpr ⟨(show SE G 54 73 (.inl (i_al 0 74)) from s_aload_n (j := 0) (by decide +kernel)),
  List.forall_mem_cons.mpr ⟨(show SE G 54 74 (.inl (i_get [7] 8 77)) from s_get (idx := 28) (kk := 8) hK (by decide +kernel) (inW 425 (by decide +kernel) (by decide +kernel)) fo_M_has),
  List.forall_mem_cons.mpr ⟨(show SE G 54 77 (.inl (i_c 4 78)) from s_iconst (e := 4) (by decide +kernel) (by decide)),
  List.forall_mem_cons.mpr ⟨(show SE G 54 78 (.inl (i_il 4 80)) from s_iload (j := 4) (by decide +kernel)),
  List.forall_mem_cons.mpr ⟨(show SE G 54 80 (.inl (i_bin (fun a b => a * b) 81)) from s_imul (by decide +kernel)),
  List.forall_mem_cons.mpr ⟨(show SE G 54 81 (.inl (i_il 5 83)) from s_iload (j := 5) (by decide +kernel)),
  List.forall_mem_cons.mpr ⟨(show SE G 54 83 (.inl (i_bin (fun a b => a + b) 84)) from s_iadd (by decide +kernel)),
  List.forall_mem_cons.mpr ⟨(show SE G 54 84 (.inl (i_ld [20, 30] 85)) from s_iald hK (by decide +kernel)),
  List.forall_mem_cons.mpr ⟨(show SE G 54 85 (.inr (.inl (false, 4, [(7, 41)], 88))) from ⟨c_virt (idx := 67) (n := 3) hK (by decide +kernel) (List.forall_mem_cons.mpr ⟨⟨ko_41, inW 483 (by decide +kernel) (by decide +kernel), inW 485 (by decide +kernel) (by decide +kernel), 6, _, rfl, by decide, rfl, inW 13 (by decide +kernel) (by decide +kernel)⟩, fun _ h => absurd h List.not_mem_nil⟩), (List.forall_mem_cons.mpr ⟨⟨mo_41, by decide⟩, fun _ h => absurd h List.not_mem_nil⟩)⟩),
  List.forall_mem_cons.mpr ⟨(show SE G 54 88 (.inl (i_c 1 89)) from s_iconst (e := 1) (by decide +kernel) (by decide)),
  List.forall_mem_cons.mpr ⟨(show SE G 54 89 (.inr (.inr 1)) from ⟨(by decide +kernel), rfl⟩),
  fun _ h => absurd h List.not_mem_nil⟩⟩⟩⟩⟩⟩⟩⟩⟩⟩⟩⟩⟩⟩⟩⟩⟩⟩⟩⟩⟩⟩⟩
theorem ok_l_54 (hK : K0 G) : ∀ q ∈ l_54, SE G 54 q.1 q.2 := by
  show ∀ q ∈ l_54_0 ++ (l_54_1), SE G 54 q.1 q.2
  exact List.forall_mem_append.mpr ⟨ok_l_54_0 hK, ok_l_54_1 hK⟩
end OK3
end
section
/-! each method's instructions are sound (by program) -/
section OK4
variable {G : MG}
set_option maxRecDepth 20000 in
theorem ok_l_55_0 (hK : K0 G) : ∀ q ∈ l_55_0, SE G 55 q.1 q.2 :=
  List.forall_mem_cons.mpr ⟨(show SE G 55 0 (.inl (i_al 0 1)) from s_aload_n (j := 0) (by decide +kernel)),
  List.forall_mem_cons.mpr ⟨(show SE G 55 1 (.inl (i_il 1 2)) from s_iload_n (j := 1) (by decide +kernel)),
  List.forall_mem_cons.mpr ⟨(show SE G 55 2 (.inr (.inl (false, 2, [(7, 39)], 5))) from ⟨c_virt (idx := 62) (n := 1) hK (by decide +kernel) (List.forall_mem_cons.mpr ⟨⟨ko_39, inW 555 (by decide +kernel) (by decide +kernel), inW 557 (by decide +kernel) (by decide +kernel), 6, _, rfl, by decide, rfl, inW 27 (by decide +kernel) (by decide +kernel)⟩, fun _ h => absurd h List.not_mem_nil⟩), (List.forall_mem_cons.mpr ⟨⟨mo_39, by decide⟩, fun _ h => absurd h List.not_mem_nil⟩)⟩),
  List.forall_mem_cons.mpr ⟨(show SE G 55 5 (.inl (i_is 3 6)) from s_istore_n (j := 3) (by decide +kernel) (by decide)),
  List.forall_mem_cons.mpr ⟨(show SE G 55 6 (.inl (i_il 3 7)) from s_iload_n (j := 3) (by decide +kernel)),
  List.forall_mem_cons.mpr ⟨(show SE G 55 7 (.inl (i_z 2 34 10)) from s_if_lt (tg := 34) (off := 27) (by decide +kernel) (by decide)),
  List.forall_mem_cons.mpr ⟨(show SE G 55 10 (.inl (i_il 2 11)) from s_iload_n (j := 2) (by decide +kernel)),
  List.forall_mem_cons.mpr ⟨(show SE G 55 11 (.inl (i_z 2 34 14)) from s_if_lt (tg := 34) (off := 23) (by decide +kernel) (by decide)),
  List.forall_mem_cons.mpr ⟨(show SE G 55 14 (.inl (i_il 2 15)) from s_iload_n (j := 2) (by decide +kernel)),
  List.forall_mem_cons.mpr ⟨(show SE G 55 15 (.inl (i_c 99 17)) from s_bipush (e := 99) (by decide +kernel) (by decide +kernel) (by decide)),
  List.forall_mem_cons.mpr ⟨(show SE G 55 17 (.inl (i_cmp 4 34 20)) from s_icmp_gt (tg := 34) (off := 17) (by decide +kernel) (by decide)),
  List.forall_mem_cons.mpr ⟨(show SE G 55 20 (.inl (i_al 0 21)) from s_aload_n (j := 0) (by decide +kernel)),
  List.forall_mem_cons.mpr ⟨(show SE G 55 21 (.inl (i_get [7] 11 24)) from s_get (idx := 95) (kk := 11) hK (by decide +kernel) (inW 428 (by decide +kernel) (by decide +kernel)) fo_M_registered),
  List.forall_mem_cons.mpr ⟨(show SE G 55 24 (.inl (i_al 0 25)) from s_aload_n (j := 0) (by decide +kernel)),
  List.forall_mem_cons.mpr ⟨(show SE G 55 25 (.inl (i_get [7] 14 28)) from s_get (idx := 98) (kk := 14) hK (by decide +kernel) (inW 431 (by decide +kernel) (by decide +kernel)) fo_M_waits),
  List.forall_mem_cons.mpr ⟨(show SE G 55 28 (.inl (i_bin (fun a b => a + b) 29)) from s_iadd (by decide +kernel)),
  List.forall_mem_cons.mpr ⟨(show SE G 55 29 (.inl (i_c 8 31)) from s_bipush (e := 8) (by decide +kernel) (by decide +kernel) (by decide)),
  List.forall_mem_cons.mpr ⟨(show SE G 55 31 (.inl (i_cmp 2 36 34)) from s_icmp_lt (tg := 36) (off := 5) (by decide +kernel) (by decide)),
  List.forall_mem_cons.mpr ⟨(show SE G 55 34 (.inl (i_c 0 35)) from s_iconst (e := 0) (by decide +kernel) (by decide)),
  List.forall_mem_cons.mpr ⟨(show SE G 55 35 (.inr (.inr 1)) from ⟨(by decide +kernel), rfl⟩),
  List.forall_mem_cons.mpr ⟨(show SE G 55 36 (.inl (i_c 0 37)) from s_iconst (e := 0) (by decide +kernel) (by decide)),
  List.forall_mem_cons.mpr ⟨(show SE G 55 37 (.inl (i_is 4 39)) from s_istore (j := 4) (by decide +kernel) (by decide)),
  List.forall_mem_cons.mpr ⟨(show SE G 55 39 (.inl (i_il 4 41)) from s_iload (j := 4) (by decide +kernel)),
  List.forall_mem_cons.mpr ⟨(show SE G 55 41 (.inl (i_al 0 42)) from s_aload_n (j := 0) (by decide +kernel)),
  List.forall_mem_cons.mpr ⟨(show SE G 55 42 (.inl (i_get [7] 11 45)) from s_get (idx := 95) (kk := 11) hK (by decide +kernel) (inW 428 (by decide +kernel) (by decide +kernel)) fo_M_registered),
  List.forall_mem_cons.mpr ⟨(show SE G 55 45 (.inl (i_cmp 3 72 48)) from s_icmp_ge (tg := 72) (off := 27) (by decide +kernel) (by decide)),
  List.forall_mem_cons.mpr ⟨(show SE G 55 48 (.inl (i_al 0 49)) from s_aload_n (j := 0) (by decide +kernel)),
  List.forall_mem_cons.mpr ⟨(show SE G 55 49 (.inl (i_get [7] 12 52)) from s_get (idx := 38) (kk := 12) hK (by decide +kernel) (inW 429 (by decide +kernel) (by decide +kernel)) fo_M_regName),
  List.forall_mem_cons.mpr ⟨(show SE G 55 52 (.inl (i_il 4 54)) from s_iload (j := 4) (by decide +kernel)),
  List.forall_mem_cons.mpr ⟨(show SE G 55 54 (.inl (i_ld [20, 30] 55)) from s_iald hK (by decide +kernel)),
  fun _ h => absurd h List.not_mem_nil⟩⟩⟩⟩⟩⟩⟩⟩⟩⟩⟩⟩⟩⟩⟩⟩⟩⟩⟩⟩⟩⟩⟩⟩⟩⟩⟩⟩⟩⟩
set_option maxRecDepth 20000 in
theorem ok_l_55_1 (hK : K0 G) : ∀ q ∈ l_55_1, SE G 55 q.1 q.2 :=
  List.forall_mem_cons.mpr ⟨(show SE G 55 55 (.inl (i_al 0 56)) from s_aload_n (j := 0) (by decide +kernel)),
  List.forall_mem_cons.mpr ⟨(show SE G 55 56 (.inl (i_get [7] 4 59)) from s_get (idx := 16) (kk := 4) hK (by decide +kernel) (inW 421 (by decide +kernel) (by decide +kernel)) fo_M_name),
  List.forall_mem_cons.mpr ⟨(show SE G 55 59 (.inl (i_il 3 60)) from s_iload_n (j := 3) (by decide +kernel)),
  List.forall_mem_cons.mpr ⟨(show SE G 55 60 (.inl (i_ld [20, 30] 61)) from s_iald hK (by decide +kernel)),
  List.forall_mem_cons.mpr ⟨(show SE G 55 61 (.inl (i_cmp 1 66 64)) from s_icmp_ne (tg := 66) (off := 5) (by decide +kernel) (by decide)),
  List.forall_mem_cons.mpr ⟨(show SE G 55 64 (.inl (i_c 0 65)) from s_iconst (e := 0) (by decide +kernel) (by decide)),
  List.forall_mem_cons.mpr ⟨(show SE G 55 65 (.inr (.inr 1)) from ⟨(by decide +kernel), rfl⟩),
  List.forall_mem_cons.mpr ⟨(show SE G 55 66 (.inl (i_ii 4 1 69)) from s_iinc (j := 4) (n := 1) (by decide +kernel) (by decide)),
  List.forall_mem_cons.mpr ⟨(show SE G 55 69 (.inl (i_go 39)) from s_goto (tg := 39) (off := -30) (by decide +kernel) (by decide)),
  List.forall_mem_cons.mpr ⟨(show SE G 55 72 (.inl (i_c 0 73)) from s_iconst (e := 0) (by decide +kernel) (by decide)),
  List.forall_mem_cons.mpr ⟨(show SE G 55 73 (.inl (i_is 4 75)) from s_istore (j := 4) (by decide +kernel) (by decide)),
  List.forall_mem_cons.mpr ⟨(show SE G 55 75 (.inl (i_il 4 77)) from s_iload (j := 4) (by decide +kernel)),
  List.forall_mem_cons.mpr ⟨(show SE G 55 77 (.inl (i_al 0 78)) from s_aload_n (j := 0) (by decide +kernel)),
  List.forall_mem_cons.mpr ⟨(show SE G 55 78 (.inl (i_get [7] 14 81)) from s_get (idx := 98) (kk := 14) hK (by decide +kernel) (inW 431 (by decide +kernel) (by decide +kernel)) fo_M_waits),
  List.forall_mem_cons.mpr ⟨(show SE G 55 81 (.inl (i_cmp 3 108 84)) from s_icmp_ge (tg := 108) (off := 27) (by decide +kernel) (by decide)),
  List.forall_mem_cons.mpr ⟨(show SE G 55 84 (.inl (i_al 0 85)) from s_aload_n (j := 0) (by decide +kernel)),
  List.forall_mem_cons.mpr ⟨(show SE G 55 85 (.inl (i_get [7] 15 88)) from s_get (idx := 44) (kk := 15) hK (by decide +kernel) (inW 432 (by decide +kernel) (by decide +kernel)) fo_M_waitName),
  List.forall_mem_cons.mpr ⟨(show SE G 55 88 (.inl (i_il 4 90)) from s_iload (j := 4) (by decide +kernel)),
  List.forall_mem_cons.mpr ⟨(show SE G 55 90 (.inl (i_ld [20, 30] 91)) from s_iald hK (by decide +kernel)),
  List.forall_mem_cons.mpr ⟨(show SE G 55 91 (.inl (i_al 0 92)) from s_aload_n (j := 0) (by decide +kernel)),
  List.forall_mem_cons.mpr ⟨(show SE G 55 92 (.inl (i_get [7] 4 95)) from s_get (idx := 16) (kk := 4) hK (by decide +kernel) (inW 421 (by decide +kernel) (by decide +kernel)) fo_M_name),
  List.forall_mem_cons.mpr ⟨(show SE G 55 95 (.inl (i_il 3 96)) from s_iload_n (j := 3) (by decide +kernel)),
  List.forall_mem_cons.mpr ⟨(show SE G 55 96 (.inl (i_ld [20, 30] 97)) from s_iald hK (by decide +kernel)),
  List.forall_mem_cons.mpr ⟨(show SE G 55 97 (.inl (i_cmp 1 102 100)) from s_icmp_ne (tg := 102) (off := 5) (by decide +kernel) (by decide)),
  List.forall_mem_cons.mpr ⟨(show SE G 55 100 (.inl (i_c 0 101)) from s_iconst (e := 0) (by decide +kernel) (by decide)),
  List.forall_mem_cons.mpr ⟨(show SE G 55 101 (.inr (.inr 1)) from ⟨(by decide +kernel), rfl⟩),
  List.forall_mem_cons.mpr ⟨(show SE G 55 102 (.inl (i_ii 4 1 105)) from s_iinc (j := 4) (n := 1) (by decide +kernel) (by decide)),
  List.forall_mem_cons.mpr ⟨(show SE G 55 105 (.inl (i_go 75)) from s_goto (tg := 75) (off := -30) (by decide +kernel) (by decide)),
  List.forall_mem_cons.mpr ⟨(show SE G 55 108 (.inl (i_al 0 109)) from s_aload_n (j := 0) (by decide +kernel)),
  List.forall_mem_cons.mpr ⟨(show SE G 55 109 (.inl (i_get [7] 12 112)) from s_get (idx := 38) (kk := 12) hK (by decide +kernel) (inW 429 (by decide +kernel) (by decide +kernel)) fo_M_regName),
  fun _ h => absurd h List.not_mem_nil⟩⟩⟩⟩⟩⟩⟩⟩⟩⟩⟩⟩⟩⟩⟩⟩⟩⟩⟩⟩⟩⟩⟩⟩⟩⟩⟩⟩⟩⟩
set_option maxRecDepth 20000 in
theorem ok_l_55_2 (hK : K0 G) : ∀ q ∈ l_55_2, SE G 55 q.1 q.2 :=
  List.forall_mem_cons.mpr ⟨(show SE G 55 112 (.inl (i_al 0 113)) from s_aload_n (j := 0) (by decide +kernel)),
  List.forall_mem_cons.mpr ⟨(show SE G 55 113 (.inl (i_get [7] 11 116)) from s_get (idx := 95) (kk := 11) hK (by decide +kernel) (inW 428 (by decide +kernel) (by decide +kernel)) fo_M_registered),
  List.forall_mem_cons.mpr ⟨(show SE G 55 116 (.inl (i_al 0 117)) from s_aload_n (j := 0) (by decide +kernel)),
  List.forall_mem_cons.mpr ⟨(show SE G 55 117 (.inl (i_get [7] 4 120)) from s_get (idx := 16) (kk := 4) hK (by decide +kernel) (inW 421 (by decide +kernel) (by decide +kernel)) fo_M_name),
  List.forall_mem_cons.mpr ⟨(show SE G 55 120 (.inl (i_il 3 121)) from s_iload_n (j := 3) (by decide +kernel)),
  List.forall_mem_cons.mpr ⟨(show SE G 55 121 (.inl (i_ld [20, 30] 122)) from s_iald hK (by decide +kernel)),
  List.forall_mem_cons.mpr ⟨(show SE G 55 122 (.inl (i_ist 123)) from s_iast hK (by decide +kernel)),
  List.forall_mem_cons.mpr ⟨(show SE G 55 123 (.inl (i_al 0 124)) from s_aload_n (j := 0) (by decide +kernel)),
  List.forall_mem_cons.mpr ⟨(show SE G 55 124 (.inl (i_get [7] 13 127)) from s_get (idx := 41) (kk := 13) hK (by decide +kernel) (inW 430 (by decide +kernel) (by decide +kernel)) fo_M_regTag),
  List.forall_mem_cons.mpr ⟨(show SE G 55 127 (.inl (i_al 0 128)) from s_aload_n (j := 0) (by decide +kernel)),
  List.forall_mem_cons.mpr ⟨(show SE G 55 128 (.inl (i_get [7] 11 131)) from s_get (idx := 95) (kk := 11) hK (by decide +kernel) (inW 428 (by decide +kernel) (by decide +kernel)) fo_M_registered),
  List.forall_mem_cons.mpr ⟨(show SE G 55 131 (.inl (i_il 2 132)) from s_iload_n (j := 2) (by decide +kernel)),
  List.forall_mem_cons.mpr ⟨(show SE G 55 132 (.inl (i_ist 133)) from s_iast hK (by decide +kernel)),
  List.forall_mem_cons.mpr ⟨(show SE G 55 133 (.inl (i_al 0 134)) from s_aload_n (j := 0) (by decide +kernel)),
  List.forall_mem_cons.mpr ⟨(show SE G 55 134 (.inl (i_dup 135)) from s_dup (by decide +kernel)),
  List.forall_mem_cons.mpr ⟨(show SE G 55 135 (.inl (i_get [7] 11 138)) from s_get (idx := 95) (kk := 11) hK (by decide +kernel) (inW 428 (by decide +kernel) (by decide +kernel)) fo_M_registered),
  List.forall_mem_cons.mpr ⟨(show SE G 55 138 (.inl (i_c 1 139)) from s_iconst (e := 1) (by decide +kernel) (by decide)),
  List.forall_mem_cons.mpr ⟨(show SE G 55 139 (.inl (i_bin (fun a b => a + b) 140)) from s_iadd (by decide +kernel)),
  List.forall_mem_cons.mpr ⟨(show SE G 55 140 (.inl (i_put [7] 11 0 143)) from s_put (idx := 95) (kk := 11) (ty := 0) hK (by decide +kernel) (inW 428 (by decide +kernel) (by decide +kernel)) fo_M_registered po_55_M_registered),
  List.forall_mem_cons.mpr ⟨(show SE G 55 143 (.inl (i_c 1 144)) from s_iconst (e := 1) (by decide +kernel) (by decide)),
  List.forall_mem_cons.mpr ⟨(show SE G 55 144 (.inr (.inr 1)) from ⟨(by decide +kernel), rfl⟩),
  fun _ h => absurd h List.not_mem_nil⟩⟩⟩⟩⟩⟩⟩⟩⟩⟩⟩⟩⟩⟩⟩⟩⟩⟩⟩⟩⟩
theorem ok_l_55 (hK : K0 G) : ∀ q ∈ l_55, SE G 55 q.1 q.2 := by
  show ∀ q ∈ l_55_0 ++ (l_55_1 ++ (l_55_2)), SE G 55 q.1 q.2
  exact List.forall_mem_append.mpr ⟨ok_l_55_0 hK, List.forall_mem_append.mpr ⟨ok_l_55_1 hK, ok_l_55_2 hK⟩⟩
set_option maxRecDepth 20000 in
theorem ok_l_56_0 (hK : K0 G) : ∀ q ∈ l_56_0, SE G 56 q.1 q.2 :=
  List.forall_mem_cons.mpr ⟨(show SE G 56 0 (.inl (i_il 1 1)) from s_iload_n (j := 1) (by decide +kernel)),
  List.forall_mem_cons.mpr ⟨(show SE G 56 1 (.inr (.inl (true, 1, [(0, 37)], 4))) from ⟨c_static (idx := 54) (n := 1) (k1 := 37) (by decide +kernel) ko_37 (inW 478 (by decide +kernel) (by decide +kernel)) (inW 479 (by decide +kernel) (by decide +kernel)), (List.forall_mem_cons.mpr ⟨⟨mo_37, by decide⟩, fun _ h => absurd h List.not_mem_nil⟩)⟩),
  List.forall_mem_cons.mpr ⟨(show SE G 56 4 (.inl (i_z 0 14 7)) from s_if_eq (tg := 14) (off := 10) (by decide +kernel) (by decide)),
  List.forall_mem_cons.mpr ⟨(show SE G 56 7 (.inl (i_al 0 8)) from s_aload_n (j := 0) (by decide +kernel)),
  List.forall_mem_cons.mpr ⟨(show SE G 56 8 (.inl (i_get [7] 14 11)) from s_get (idx := 98) (kk := 14) hK (by decide +kernel) (inW 431 (by decide +kernel) (by decide +kernel)) fo_M_waits),
  List.forall_mem_cons.mpr ⟨(show SE G 56 11 (.inl (i_z 1 16 14)) from s_if_ne (tg := 16) (off := 5) (by decide +kernel) (by decide)),
  List.forall_mem_cons.mpr ⟨(show SE G 56 14 (.inl (i_c (-1) 15)) from s_iconst (e := (-1)) (by decide +kernel) (by decide)),
  List.forall_mem_cons.mpr ⟨(show SE G 56 15 (.inr (.inr 0)) from ⟨(by decide +kernel), rfl⟩),
  List.forall_mem_cons.mpr ⟨(show SE G 56 16 (.inl (i_al 0 17)) from s_aload_n (j := 0) (by decide +kernel)),
  List.forall_mem_cons.mpr ⟨(show SE G 56 17 (.inl (i_get [7] 16 20)) from s_get (idx := 47) (kk := 16) hK (by decide +kernel) (inW 433 (by decide +kernel) (by decide +kernel)) fo_M_waitTag),
  List.forall_mem_cons.mpr ⟨(show SE G 56 20 (.inl (i_c 0 21)) from s_iconst (e := 0) (by decide +kernel) (by decide)),
  List.forall_mem_cons.mpr ⟨(show SE G 56 21 (.inl (i_ld [20, 30] 22)) from s_iald hK (by decide +kernel)),
  List.forall_mem_cons.mpr ⟨(show SE G 56 22 (.inl (i_is 2 23)) from s_istore_n (j := 2) (by decide +kernel) (by decide)),
  List.forall_mem_cons.mpr ⟨(show SE G 56 23 (.inl (i_al 0 24)) from s_aload_n (j := 0) (by decide +kernel)),
  List.forall_mem_cons.mpr ⟨(show SE G 56 24 (.inl (i_il 1 25)) from s_iload_n (j := 1) (by decide +kernel)),
  List.forall_mem_cons.mpr ⟨(show SE G 56 25 (.inl (i_c 9 27)) from s_bipush (e := 9) (by decide +kernel) (by decide +kernel) (by decide)),
  List.forall_mem_cons.mpr ⟨(show SE G 56 27 (.inl (i_al 0 28)) from s_aload_n (j := 0) (by decide +kernel)),
  List.forall_mem_cons.mpr ⟨(show SE G 56 28 (.inl (i_get [7] 15 31)) from s_get (idx := 44) (kk := 15) hK (by decide +kernel) (inW 432 (by decide +kernel) (by decide +kernel)) fo_M_waitName),
  List.forall_mem_cons.mpr ⟨(show SE G 56 31 (.inl (i_c 0 32)) from s_iconst (e := 0) (by decide +kernel) (by decide)),
  List.forall_mem_cons.mpr ⟨(show SE G 56 32 (.inl (i_ld [20, 30] 33)) from s_iald hK (by decide +kernel)),
  List.forall_mem_cons.mpr ⟨(show SE G 56 33 (.inr (.inl (false, 4, [(7, 41)], 36))) from ⟨c_virt (idx := 67) (n := 3) hK (by decide +kernel) (List.forall_mem_cons.mpr ⟨⟨ko_41, inW 483 (by decide +kernel) (by decide +kernel), inW 485 (by decide +kernel) (by decide +kernel), 6, _, rfl, by decide, rfl, inW 13 (by decide +kernel) (by decide +kernel)⟩, fun _ h => absurd h List.not_mem_nil⟩), (List.forall_mem_cons.mpr ⟨⟨mo_41, by decide⟩, fun _ h => absurd h List.not_mem_nil⟩)⟩),
  List.forall_mem_cons.mpr ⟨(show SE G 56 36 (.inl (i_al 0 37)) from s_aload_n (j := 0) (by decide +kernel)),
  List.forall_mem_cons.mpr ⟨(show SE G 56 37 (.inl (i_dup 38)) from s_dup (by decide +kernel)),
  List.forall_mem_cons.mpr ⟨(show SE G 56 38 (.inl (i_get [7] 14 41)) from s_get (idx := 98) (kk := 14) hK (by decide +kernel) (inW 431 (by decide +kernel) (by decide +kernel)) fo_M_waits),
  List.forall_mem_cons.mpr ⟨(show SE G 56 41 (.inl (i_c 1 42)) from s_iconst (e := 1) (by decide +kernel) (by decide)),
  List.forall_mem_cons.mpr ⟨(show SE G 56 42 (.inl (i_bin (fun a b => a - b) 43)) from s_isub (by decide +kernel)),
  List.forall_mem_cons.mpr ⟨(show SE G 56 43 (.inl (i_put [7] 14 0 46)) from s_put (idx := 98) (kk := 14) (ty := 0) hK (by decide +kernel) (inW 431 (by decide +kernel) (by decide +kernel)) fo_M_waits po_56_M_waits),
  List.forall_mem_cons.mpr ⟨(show SE G 56 46 (.inl (i_c 0 47)) from s_iconst (e := 0) (by decide +kernel) (by decide)),
  List.forall_mem_cons.mpr ⟨(show SE G 56 47 (.inl (i_is 3 48)) from s_istore_n (j := 3) (by decide +kernel) (by decide)),
  List.forall_mem_cons.mpr ⟨(show SE G 56 48 (.inl (i_il 3 49)) from s_iload_n (j := 3) (by decide +kernel)),
  fun _ h => absurd h List.not_mem_nil⟩⟩⟩⟩⟩⟩⟩⟩⟩⟩⟩⟩⟩⟩⟩⟩⟩⟩⟩⟩⟩⟩⟩⟩⟩⟩⟩⟩⟩⟩
set_option maxRecDepth 20000 in
theorem ok_l_56_1 (hK : K0 G) : ∀ q ∈ l_56_1, SE G 56 q.1 q.2 :=
  List.forall_mem_cons.mpr ⟨(show SE G 56 49 (.inl (i_al 0 50)) from s_aload_n (j := 0) (by decide +kernel)),
  List.forall_mem_cons.mpr ⟨(show SE G 56 50 (.inl (i_get [7] 14 53)) from s_get (idx := 98) (kk := 14) hK (by decide +kernel) (inW 431 (by decide +kernel) (by decide +kernel)) fo_M_waits),
  List.forall_mem_cons.mpr ⟨(show SE G 56 53 (.inl (i_cmp 3 90 56)) from s_icmp_ge (tg := 90) (off := 37) (by decide +kernel) (by decide)),
  List.forall_mem_cons.mpr ⟨(show SE G 56 56 (.inl (i_al 0 57)) from s_aload_n (j := 0) (by decide +kernel)),
  List.forall_mem_cons.mpr ⟨(show SE G 56 57 (.inl (i_get [7] 15 60)) from s_get (idx := 44) (kk := 15) hK (by decide +kernel) (inW 432 (by decide +kernel) (by decide +kernel)) fo_M_waitName),
  List.forall_mem_cons.mpr ⟨(show SE G 56 60 (.inl (i_il 3 61)) from s_iload_n (j := 3) (by decide +kernel)),
  List.forall_mem_cons.mpr ⟨(show SE G 56 61 (.inl (i_al 0 62)) from s_aload_n (j := 0) (by decide +kernel)),
  List.forall_mem_cons.mpr ⟨(show SE G 56 62 (.inl (i_get [7] 15 65)) from s_get (idx := 44) (kk := 15) hK (by decide +kernel) (inW 432 (by decide +kernel) (by decide +kernel)) fo_M_waitName),
  List.forall_mem_cons.mpr ⟨(show SE G 56 65 (.inl (i_il 3 66)) from s_iload_n (j := 3) (by decide +kernel)),
  List.forall_mem_cons.mpr ⟨(show SE G 56 66 (.inl (i_c 1 67)) from s_iconst (e := 1) (by decide +kernel) (by decide)),
  List.forall_mem_cons.mpr ⟨(show SE G 56 67 (.inl (i_bin (fun a b => a + b) 68)) from s_iadd (by decide +kernel)),
  List.forall_mem_cons.mpr ⟨(show SE G 56 68 (.inl (i_ld [20, 30] 69)) from s_iald hK (by decide +kernel)),
  List.forall_mem_cons.mpr ⟨(show SE G 56 69 (.inl (i_ist 70)) from s_iast hK (by decide +kernel)),
  List.forall_mem_cons.mpr ⟨(show SE G 56 70 (.inl (i_al 0 71)) from s_aload_n (j := 0) (by decide +kernel)),
  List.forall_mem_cons.mpr ⟨(show SE G 56 71 (.inl (i_get [7] 16 74)) from s_get (idx := 47) (kk := 16) hK (by decide +kernel) (inW 433 (by decide +kernel) (by decide +kernel)) fo_M_waitTag),
  List.forall_mem_cons.mpr ⟨(show SE G 56 74 (.inl (i_il 3 75)) from s_iload_n (j := 3) (by decide +kernel)),
  List.forall_mem_cons.mpr ⟨(show SE G 56 75 (.inl (i_al 0 76)) from s_aload_n (j := 0) (by decide +kernel)),
  List.forall_mem_cons.mpr ⟨(show SE G 56 76 (.inl (i_get [7] 16 79)) from s_get (idx := 47) (kk := 16) hK (by decide +kernel) (inW 433 (by decide +kernel) (by decide +kernel)) fo_M_waitTag),
  List.forall_mem_cons.mpr ⟨(show SE G 56 79 (.inl (i_il 3 80)) from s_iload_n (j := 3) (by decide +kernel)),
  List.forall_mem_cons.mpr ⟨(show SE G 56 80 (.inl (i_c 1 81)) from s_iconst (e := 1) (by decide +kernel) (by decide)),
  List.forall_mem_cons.mpr ⟨(show SE G 56 81 (.inl (i_bin (fun a b => a + b) 82)) from s_iadd (by decide +kernel)),
  List.forall_mem_cons.mpr ⟨(show SE G 56 82 (.inl (i_ld [20, 30] 83)) from s_iald hK (by decide +kernel)),
  List.forall_mem_cons.mpr ⟨(show SE G 56 83 (.inl (i_ist 84)) from s_iast hK (by decide +kernel)),
  List.forall_mem_cons.mpr ⟨(show SE G 56 84 (.inl (i_ii 3 1 87)) from s_iinc (j := 3) (n := 1) (by decide +kernel) (by decide)),
  List.forall_mem_cons.mpr ⟨(show SE G 56 87 (.inl (i_go 48)) from s_goto (tg := 48) (off := -39) (by decide +kernel) (by decide)),
  List.forall_mem_cons.mpr ⟨(show SE G 56 90 (.inl (i_il 2 91)) from s_iload_n (j := 2) (by decide +kernel)),
  List.forall_mem_cons.mpr ⟨(show SE G 56 91 (.inr (.inr 0)) from ⟨(by decide +kernel), rfl⟩),
  fun _ h => absurd h List.not_mem_nil⟩⟩⟩⟩⟩⟩⟩⟩⟩⟩⟩⟩⟩⟩⟩⟩⟩⟩⟩⟩⟩⟩⟩⟩⟩⟩⟩
theorem ok_l_56 (hK : K0 G) : ∀ q ∈ l_56, SE G 56 q.1 q.2 := by
  show ∀ q ∈ l_56_0 ++ (l_56_1), SE G 56 q.1 q.2
  exact List.forall_mem_append.mpr ⟨ok_l_56_0 hK, ok_l_56_1 hK⟩
set_option maxRecDepth 20000 in
theorem ok_l_57 (hK : K0 G) : ∀ q ∈ l_57, SE G 57 q.1 q.2 :=
  List.forall_mem_cons.mpr ⟨(show SE G 57 0 (.inl (i_al 0 1)) from s_aload_n (j := 0) (by decide +kernel)),
  List.forall_mem_cons.mpr ⟨(show SE G 57 1 (.inl (i_il 1 2)) from s_iload_n (j := 1) (by decide +kernel)),
  List.forall_mem_cons.mpr ⟨(show SE G 57 2 (.inr (.inl (false, 2, [(7, 38)], 5))) from ⟨c_virt (idx := 58) (n := 1) hK (by decide +kernel) (List.forall_mem_cons.mpr ⟨⟨ko_38, inW 519 (by decide +kernel) (by decide +kernel), inW 521 (by decide +kernel) (by decide +kernel), 6, _, rfl, by decide, rfl, inW 19 (by decide +kernel) (by decide +kernel)⟩, fun _ h => absurd h List.not_mem_nil⟩), (List.forall_mem_cons.mpr ⟨⟨mo_38, by decide⟩, fun _ h => absurd h List.not_mem_nil⟩)⟩),
  List.forall_mem_cons.mpr ⟨(show SE G 57 5 (.inl (i_is 2 6)) from s_istore_n (j := 2) (by decide +kernel) (by decide)),
  List.forall_mem_cons.mpr ⟨(show SE G 57 6 (.inl (i_il 2 7)) from s_iload_n (j := 2) (by decide +kernel)),
  List.forall_mem_cons.mpr ⟨(show SE G 57 7 (.inl (i_z 2 23 10)) from s_if_lt (tg := 23) (off := 16) (by decide +kernel) (by decide)),
  List.forall_mem_cons.mpr ⟨(show SE G 57 10 (.inl (i_al 0 11)) from s_aload_n (j := 0) (by decide +kernel)),
  List.forall_mem_cons.mpr ⟨(show SE G 57 11 (.inl (i_get [7] 10 14)) from s_get (idx := 34) (kk := 10) hK (by decide +kernel) (inW 427 (by decide +kernel) (by decide +kernel)) fo_M_mark),
  List.forall_mem_cons.mpr ⟨(show SE G 57 14 (.inl (i_il 2 15)) from s_iload_n (j := 2) (by decide +kernel)),
  List.forall_mem_cons.mpr ⟨(show SE G 57 15 (.inl (i_ld [21] 16)) from s_zald hK (by decide +kernel)),
  List.forall_mem_cons.mpr ⟨(show SE G 57 16 (.inl (i_z 0 23 19)) from s_if_eq (tg := 23) (off := 7) (by decide +kernel) (by decide)),
  List.forall_mem_cons.mpr ⟨(show SE G 57 19 (.inl (i_c 1 20)) from s_iconst (e := 1) (by decide +kernel) (by decide)),
  List.forall_mem_cons.mpr ⟨(show SE G 57 20 (.inl (i_go 24)) from s_goto (tg := 24) (off := 4) (by decide +kernel) (by decide)),
  List.forall_mem_cons.mpr ⟨(show SE G 57 23 (.inl (i_c 0 24)) from s_iconst (e := 0) (by decide +kernel) (by decide)),
  List.forall_mem_cons.mpr ⟨(show SE G 57 24 (.inr (.inr 1)) from ⟨(by decide +kernel), rfl⟩),
  fun _ h => absurd h List.not_mem_nil⟩⟩⟩⟩⟩⟩⟩⟩⟩⟩⟩⟩⟩⟩⟩
set_option maxRecDepth 20000 in
theorem ok_l_58 (hK : K0 G) : ∀ q ∈ l_58, SE G 58 q.1 q.2 :=
  List.forall_mem_cons.mpr ⟨(show SE G 58 0 (.inl (i_al 0 1)) from s_aload_n (j := 0) (by decide +kernel)),
  List.forall_mem_cons.mpr ⟨(show SE G 58 1 (.inl (i_il 1 2)) from s_iload_n (j := 1) (by decide +kernel)),
  List.forall_mem_cons.mpr ⟨(show SE G 58 2 (.inr (.inl (false, 2, [(7, 38)], 5))) from ⟨c_virt (idx := 58) (n := 1) hK (by decide +kernel) (List.forall_mem_cons.mpr ⟨⟨ko_38, inW 519 (by decide +kernel) (by decide +kernel), inW 521 (by decide +kernel) (by decide +kernel), 6, _, rfl, by decide, rfl, inW 19 (by decide +kernel) (by decide +kernel)⟩, fun _ h => absurd h List.not_mem_nil⟩), (List.forall_mem_cons.mpr ⟨⟨mo_38, by decide⟩, fun _ h => absurd h List.not_mem_nil⟩)⟩),
  List.forall_mem_cons.mpr ⟨(show SE G 58 5 (.inl (i_is 2 6)) from s_istore_n (j := 2) (by decide +kernel) (by decide)),
  List.forall_mem_cons.mpr ⟨(show SE G 58 6 (.inl (i_il 2 7)) from s_iload_n (j := 2) (by decide +kernel)),
  List.forall_mem_cons.mpr ⟨(show SE G 58 7 (.inl (i_z 2 19 10)) from s_if_lt (tg := 19) (off := 12) (by decide +kernel) (by decide)),
  List.forall_mem_cons.mpr ⟨(show SE G 58 10 (.inl (i_al 0 11)) from s_aload_n (j := 0) (by decide +kernel)),
  List.forall_mem_cons.mpr ⟨(show SE G 58 11 (.inl (i_get [7] 10 14)) from s_get (idx := 34) (kk := 10) hK (by decide +kernel) (inW 427 (by decide +kernel) (by decide +kernel)) fo_M_mark),
  List.forall_mem_cons.mpr ⟨(show SE G 58 14 (.inl (i_il 2 15)) from s_iload_n (j := 2) (by decide +kernel)),
  List.forall_mem_cons.mpr ⟨(show SE G 58 15 (.inl (i_ld [21] 16)) from s_zald hK (by decide +kernel)),
  List.forall_mem_cons.mpr ⟨(show SE G 58 16 (.inl (i_z 0 21 19)) from s_if_eq (tg := 21) (off := 5) (by decide +kernel) (by decide)),
  List.forall_mem_cons.mpr ⟨(show SE G 58 19 (.inl (i_c 0 20)) from s_iconst (e := 0) (by decide +kernel) (by decide)),
  List.forall_mem_cons.mpr ⟨(show SE G 58 20 (.inr (.inr 1)) from ⟨(by decide +kernel), rfl⟩),
  List.forall_mem_cons.mpr ⟨(show SE G 58 21 (.inl (i_al 0 22)) from s_aload_n (j := 0) (by decide +kernel)),
  List.forall_mem_cons.mpr ⟨(show SE G 58 22 (.inl (i_get [7] 10 25)) from s_get (idx := 34) (kk := 10) hK (by decide +kernel) (inW 427 (by decide +kernel) (by decide +kernel)) fo_M_mark),
  List.forall_mem_cons.mpr ⟨(show SE G 58 25 (.inl (i_il 2 26)) from s_iload_n (j := 2) (by decide +kernel)),
  List.forall_mem_cons.mpr ⟨(show SE G 58 26 (.inl (i_c 1 27)) from s_iconst (e := 1) (by decide +kernel) (by decide)),
  List.forall_mem_cons.mpr ⟨(show SE G 58 27 (.inl (i_zst 28)) from s_zast hK (by decide +kernel)),
  List.forall_mem_cons.mpr ⟨(show SE G 58 28 (.inl (i_c 1 29)) from s_iconst (e := 1) (by decide +kernel) (by decide)),
  List.forall_mem_cons.mpr ⟨(show SE G 58 29 (.inr (.inr 1)) from ⟨(by decide +kernel), rfl⟩),
  fun _ h => absurd h List.not_mem_nil⟩⟩⟩⟩⟩⟩⟩⟩⟩⟩⟩⟩⟩⟩⟩⟩⟩⟩⟩⟩
set_option maxRecDepth 20000 in
theorem ok_l_59 (hK : K0 G) : ∀ q ∈ l_59, SE G 59 q.1 q.2 :=
  List.forall_mem_cons.mpr ⟨(show SE G 59 0 (.inl (i_c 0 1)) from s_iconst (e := 0) (by decide +kernel) (by decide)),
  List.forall_mem_cons.mpr ⟨(show SE G 59 1 (.inl (i_is 1 2)) from s_istore_n (j := 1) (by decide +kernel) (by decide)),
  List.forall_mem_cons.mpr ⟨(show SE G 59 2 (.inl (i_il 1 3)) from s_iload_n (j := 1) (by decide +kernel)),
  List.forall_mem_cons.mpr ⟨(show SE G 59 3 (.inl (i_c 6 5)) from s_bipush (e := 6) (by decide +kernel) (by decide +kernel) (by decide)),
  List.forall_mem_cons.mpr ⟨(show SE G 59 5 (.inl (i_cmp 3 36 8)) from s_icmp_ge (tg := 36) (off := 31) (by decide +kernel) (by decide)),
  List.forall_mem_cons.mpr ⟨(show SE G 59 8 (.inl (i_al 0 9)) from s_aload_n (j := 0) (by decide +kernel)),
  List.forall_mem_cons.mpr ⟨(show SE G 59 9 (.inl (i_get [7] 0 12)) from s_get (idx := 7) (kk := 0) hK (by decide +kernel) (inW 417 (by decide +kernel) (by decide +kernel)) fo_M_varIs),
  List.forall_mem_cons.mpr ⟨(show SE G 59 12 (.inl (i_il 1 13)) from s_iload_n (j := 1) (by decide +kernel)),
  List.forall_mem_cons.mpr ⟨(show SE G 59 13 (.inl (i_ld [20, 30] 14)) from s_iald hK (by decide +kernel)),
  List.forall_mem_cons.mpr ⟨(show SE G 59 14 (.inl (i_c 9 16)) from s_bipush (e := 9) (by decide +kernel) (by decide +kernel) (by decide)),
  List.forall_mem_cons.mpr ⟨(show SE G 59 16 (.inl (i_cmp 1 30 19)) from s_icmp_ne (tg := 30) (off := 14) (by decide +kernel) (by decide)),
  List.forall_mem_cons.mpr ⟨(show SE G 59 19 (.inl (i_al 0 20)) from s_aload_n (j := 0) (by decide +kernel)),
  List.forall_mem_cons.mpr ⟨(show SE G 59 20 (.inl (i_al 0 21)) from s_aload_n (j := 0) (by decide +kernel)),
  List.forall_mem_cons.mpr ⟨(show SE G 59 21 (.inl (i_get [7] 1 24)) from s_get (idx := 13) (kk := 1) hK (by decide +kernel) (inW 418 (by decide +kernel) (by decide +kernel)) fo_M_varHas),
  List.forall_mem_cons.mpr ⟨(show SE G 59 24 (.inl (i_il 1 25)) from s_iload_n (j := 1) (by decide +kernel)),
  List.forall_mem_cons.mpr ⟨(show SE G 59 25 (.inl (i_ld [20, 30] 26)) from s_iald hK (by decide +kernel)),
  List.forall_mem_cons.mpr ⟨(show SE G 59 26 (.inr (.inl (false, 2, [(7, 58)], 29))) from ⟨c_virt (idx := 101) (n := 1) hK (by decide +kernel) (List.forall_mem_cons.mpr ⟨⟨ko_58, inW 515 (by decide +kernel) (by decide +kernel), inW 517 (by decide +kernel) (by decide +kernel), 6, _, rfl, by decide, rfl, inW 18 (by decide +kernel) (by decide +kernel)⟩, fun _ h => absurd h List.not_mem_nil⟩), (List.forall_mem_cons.mpr ⟨⟨mo_58, by decide⟩, fun _ h => absurd h List.not_mem_nil⟩)⟩),
  List.forall_mem_cons.mpr ⟨(show SE G 59 29 (.inl (i_pop 30)) from s_pop (by decide +kernel)),
  List.forall_mem_cons.mpr ⟨(show SE G 59 30 (.inl (i_ii 1 1 33)) from s_iinc (j := 1) (n := 1) (by decide +kernel) (by decide)),
  List.forall_mem_cons.mpr ⟨(show SE G 59 33 (.inl (i_go 2)) from s_goto (tg := 2) (off := -31) (by decide +kernel) (by decide)),
  List.forall_mem_cons.mpr ⟨(show SE G 59 36 (.inl (i_al 0 37)) from s_aload_n (j := 0) (by decide +kernel)),
  List.forall_mem_cons.mpr ⟨(show SE G 59 37 (.inr (.inl (false, 1, [(7, 60)], 40))) from ⟨c_virt (idx := 104) (n := 0) hK (by decide +kernel) (List.forall_mem_cons.mpr ⟨⟨ko_60, inW 523 (by decide +kernel) (by decide +kernel), inW 525 (by decide +kernel) (by decide +kernel), 6, _, rfl, by decide, rfl, inW 20 (by decide +kernel) (by decide +kernel)⟩, fun _ h => absurd h List.not_mem_nil⟩), (List.forall_mem_cons.mpr ⟨⟨mo_60, by decide⟩, fun _ h => absurd h List.not_mem_nil⟩)⟩),
  List.forall_mem_cons.mpr ⟨(show SE G 59 40 (.inr (.inr 3)) from ⟨(by decide +kernel), rfl⟩),
  fun _ h => absurd h List.not_mem_nil⟩⟩⟩⟩⟩⟩⟩⟩⟩⟩⟩⟩⟩⟩⟩⟩⟩⟩⟩⟩⟩⟩⟩
set_option maxRecDepth 20000 in
theorem ok_l_60 (hK : K0 G) : ∀ q ∈ l_60, SE G 60 q.1 q.2 :=
  List.forall_mem_cons.mpr ⟨(show SE G 60 0 (.inl (i_c 0 1)) from s_iconst (e := 0) (by decide +kernel) (by decide)),
  List.forall_mem_cons.mpr ⟨(show SE G 60 1 (.inl (i_is 1 2)) from s_istore_n (j := 1) (by decide +kernel) (by decide)),
  List.forall_mem_cons.mpr ⟨(show SE G 60 2 (.inl (i_il 1 3)) from s_iload_n (j := 1) (by decide +kernel)),
  List.forall_mem_cons.mpr ⟨(show SE G 60 3 (.inl (i_al 0 4)) from s_aload_n (j := 0) (by decide +kernel)),
  List.forall_mem_cons.mpr ⟨(show SE G 60 4 (.inl (i_get [7] 14 7)) from s_get (idx := 98) (kk := 14) hK (by decide +kernel) (inW 431 (by decide +kernel) (by decide +kernel)) fo_M_waits),
  List.forall_mem_cons.mpr ⟨(show SE G 60 7 (.inl (i_cmp 3 27 10)) from s_icmp_ge (tg := 27) (off := 20) (by decide +kernel) (by decide)),
  List.forall_mem_cons.mpr ⟨(show SE G 60 10 (.inl (i_al 0 11)) from s_aload_n (j := 0) (by decide +kernel)),
  List.forall_mem_cons.mpr ⟨(show SE G 60 11 (.inl (i_al 0 12)) from s_aload_n (j := 0) (by decide +kernel)),
  List.forall_mem_cons.mpr ⟨(show SE G 60 12 (.inl (i_get [7] 15 15)) from s_get (idx := 44) (kk := 15) hK (by decide +kernel) (inW 432 (by decide +kernel) (by decide +kernel)) fo_M_waitName),
  List.forall_mem_cons.mpr ⟨(show SE G 60 15 (.inl (i_il 1 16)) from s_iload_n (j := 1) (by decide +kernel)),
  List.forall_mem_cons.mpr ⟨(show SE G 60 16 (.inl (i_ld [20, 30] 17)) from s_iald hK (by decide +kernel)),
  List.forall_mem_cons.mpr ⟨(show SE G 60 17 (.inr (.inl (false, 2, [(7, 58)], 20))) from ⟨c_virt (idx := 101) (n := 1) hK (by decide +kernel) (List.forall_mem_cons.mpr ⟨⟨ko_58, inW 515 (by decide +kernel) (by decide +kernel), inW 517 (by decide +kernel) (by decide +kernel), 6, _, rfl, by decide, rfl, inW 18 (by decide +kernel) (by decide +kernel)⟩, fun _ h => absurd h List.not_mem_nil⟩), (List.forall_mem_cons.mpr ⟨⟨mo_58, by decide⟩, fun _ h => absurd h List.not_mem_nil⟩)⟩),
  List.forall_mem_cons.mpr ⟨(show SE G 60 20 (.inl (i_pop 21)) from s_pop (by decide +kernel)),
  List.forall_mem_cons.mpr ⟨(show SE G 60 21 (.inl (i_ii 1 1 24)) from s_iinc (j := 1) (n := 1) (by decide +kernel) (by decide)),
  List.forall_mem_cons.mpr ⟨(show SE G 60 24 (.inl (i_go 2)) from s_goto (tg := 2) (off := -22) (by decide +kernel) (by decide)),
  List.forall_mem_cons.mpr ⟨(show SE G 60 27 (.inr (.inr 3)) from ⟨(by decide +kernel), rfl⟩),
  fun _ h => absurd h List.not_mem_nil⟩⟩⟩⟩⟩⟩⟩⟩⟩⟩⟩⟩⟩⟩⟩⟩
set_option maxRecDepth 20000 in
theorem ok_l_61_0 (hK : K0 G) : ∀ q ∈ l_61_0, SE G 61 q.1 q.2 :=
  List.forall_mem_cons.mpr ⟨(show SE G 61 0 (.inl (i_c 0 1)) from s_iconst (e := 0) (by decide +kernel) (by decide)),
  List.forall_mem_cons.mpr ⟨(show SE G 61 1 (.inl (i_is 2 2)) from s_istore_n (j := 2) (by decide +kernel) (by decide)),
  List.forall_mem_cons.mpr ⟨(show SE G 61 2 (.inl (i_c 0 3)) from s_iconst (e := 0) (by decide +kernel) (by decide)),
  List.forall_mem_cons.mpr ⟨(show SE G 61 3 (.inl (i_is 3 4)) from s_istore_n (j := 3) (by decide +kernel) (by decide)),
  List.forall_mem_cons.mpr ⟨(show SE G 61 4 (.inl (i_il 3 5)) from s_iload_n (j := 3) (by decide +kernel)),
  List.forall_mem_cons.mpr ⟨(show SE G 61 5 (.inl (i_al 0 6)) from s_aload_n (j := 0) (by decide +kernel)),
  List.forall_mem_cons.mpr ⟨(show SE G 61 6 (.inl (i_get [7] 2 9)) from s_get (idx := 50) (kk := 2) hK (by decide +kernel) (inW 419 (by decide +kernel) (by decide +kernel)) fo_M_objects),
  List.forall_mem_cons.mpr ⟨(show SE G 61 9 (.inl (i_cmp 3 149 12)) from s_icmp_ge (tg := 149) (off := 140) (by decide +kernel) (by decide)),
  List.forall_mem_cons.mpr ⟨(show SE G 61 12 (.inl (i_c 0 13)) from s_iconst (e := 0) (by decide +kernel) (by decide)),
  List.forall_mem_cons.mpr ⟨(show SE G 61 13 (.inl (i_is 4 15)) from s_istore (j := 4) (by decide +kernel) (by decide)),
  List.forall_mem_cons.mpr ⟨(show SE G 61 15 (.inl (i_il 4 17)) from s_iload (j := 4) (by decide +kernel)),
  List.forall_mem_cons.mpr ⟨(show SE G 61 17 (.inl (i_al 0 18)) from s_aload_n (j := 0) (by decide +kernel)),
  List.forall_mem_cons.mpr ⟨(show SE G 61 18 (.inl (i_get [7] 6 21)) from s_get (idx := 22) (kk := 6) hK (by decide +kernel) (inW 423 (by decide +kernel) (by decide +kernel)) fo_M_many),
  List.forall_mem_cons.mpr ⟨(show SE G 61 21 (.inl (i_il 3 22)) from s_iload_n (j := 3) (by decide +kernel)),
  List.forall_mem_cons.mpr ⟨(show SE G 61 22 (.inl (i_ld [20, 30] 23)) from s_iald hK (by decide +kernel)),
  List.forall_mem_cons.mpr ⟨(show SE G 61 23 (.inl (i_cmp 3 143 26)) from s_icmp_ge (tg := 143) (off := 120) (by decide +kernel) (by decide)),
  List.forall_mem_cons.mpr ⟨(show SE G 61 26 (.inl (i_al 0 27)) from s_aload_n (j := 0) (by decide +kernel)),
  List.forall_mem_cons.mpr ⟨(show SE G 61 27 (.inl (i_get [7] 5 30)) from s_get (idx := 19) (kk := 5) hK (by decide +kernel) (inW 422 (by decide +kernel) (by decide +kernel)) fo_M_sort),
  List.forall_mem_cons.mpr ⟨(show SE G 61 30 (.inl (i_il 3 31)) from s_iload_n (j := 3) (by decide +kernel)),
  List.forall_mem_cons.mpr ⟨(show SE G 61 31 (.inl (i_ld [20, 30] 32)) from s_iald hK (by decide +kernel)),
  List.forall_mem_cons.mpr ⟨(show SE G 61 32 (.inl (i_c 2 33)) from s_iconst (e := 2) (by decide +kernel) (by decide)),
  List.forall_mem_cons.mpr ⟨(show SE G 61 33 (.inl (i_cmp 0 68 36)) from s_icmp_eq (tg := 68) (off := 35) (by decide +kernel) (by decide)),
  List.forall_mem_cons.mpr ⟨(show SE G 61 36 (.inl (i_al 0 37)) from s_aload_n (j := 0) (by decide +kernel)),
  List.forall_mem_cons.mpr ⟨(show SE G 61 37 (.inl (i_get [7] 5 40)) from s_get (idx := 19) (kk := 5) hK (by decide +kernel) (inW 422 (by decide +kernel) (by decide +kernel)) fo_M_sort),
  List.forall_mem_cons.mpr ⟨(show SE G 61 40 (.inl (i_il 3 41)) from s_iload_n (j := 3) (by decide +kernel)),
  List.forall_mem_cons.mpr ⟨(show SE G 61 41 (.inl (i_ld [20, 30] 42)) from s_iald hK (by decide +kernel)),
  List.forall_mem_cons.mpr ⟨(show SE G 61 42 (.inl (i_c 4 43)) from s_iconst (e := 4) (by decide +kernel) (by decide)),
  List.forall_mem_cons.mpr ⟨(show SE G 61 43 (.inl (i_cmp 1 72 46)) from s_icmp_ne (tg := 72) (off := 29) (by decide +kernel) (by decide)),
  List.forall_mem_cons.mpr ⟨(show SE G 61 46 (.inl (i_il 1 47)) from s_iload_n (j := 1) (by decide +kernel)),
  List.forall_mem_cons.mpr ⟨(show SE G 61 47 (.inl (i_z 1 68 50)) from s_if_ne (tg := 68) (off := 21) (by decide +kernel) (by decide)),
  fun _ h => absurd h List.not_mem_nil⟩⟩⟩⟩⟩⟩⟩⟩⟩⟩⟩⟩⟩⟩⟩⟩⟩⟩⟩⟩⟩⟩⟩⟩⟩⟩⟩⟩⟩⟩
set_option maxRecDepth 20000 in
theorem ok_l_61_1 (hK : K0 G) : ∀ q ∈ l_61_1, SE G 61 q.1 q.2 :=
  List.forall_mem_cons.mpr ⟨(show SE G 61 50 (.inl (i_al 0 51)) from s_aload_n (j := 0) (by decide +kernel)),
  List.forall_mem_cons.mpr ⟨(show SE G 61 51 (.inl (i_al 0 52)) from s_aload_n (j := 0) (by decide +kernel)),
  List.forall_mem_cons.mpr ⟨(show SE G 61 52 (.inl (i_get [7] 9 55)) from s_get (idx := 31) (kk := 9) hK (by decide +kernel) (inW 426 (by decide +kernel) (by decide +kernel)) fo_M_keys),
  List.forall_mem_cons.mpr ⟨(show SE G 61 55 (.inl (i_c 4 56)) from s_iconst (e := 4) (by decide +kernel) (by decide)),
  List.forall_mem_cons.mpr ⟨(show SE G 61 56 (.inl (i_il 3 57)) from s_iload_n (j := 3) (by decide +kernel)),
  List.forall_mem_cons.mpr ⟨(show SE G 61 57 (.inl (i_bin (fun a b => a * b) 58)) from s_imul (by decide +kernel)),
  List.forall_mem_cons.mpr ⟨(show SE G 61 58 (.inl (i_il 4 60)) from s_iload (j := 4) (by decide +kernel)),
  List.forall_mem_cons.mpr ⟨(show SE G 61 60 (.inl (i_bin (fun a b => a + b) 61)) from s_iadd (by decide +kernel)),
  List.forall_mem_cons.mpr ⟨(show SE G 61 61 (.inl (i_ld [20, 30] 62)) from s_iald hK (by decide +kernel)),
  List.forall_mem_cons.mpr ⟨(show SE G 61 62 (.inr (.inl (false, 2, [(7, 57)], 65))) from ⟨c_virt (idx := 107) (n := 1) hK (by decide +kernel) (List.forall_mem_cons.mpr ⟨⟨ko_57, inW 535 (by decide +kernel) (by decide +kernel), inW 537 (by decide +kernel) (by decide +kernel), 6, _, rfl, by decide, rfl, inW 23 (by decide +kernel) (by decide +kernel)⟩, fun _ h => absurd h List.not_mem_nil⟩), (List.forall_mem_cons.mpr ⟨⟨mo_57, by decide⟩, fun _ h => absurd h List.not_mem_nil⟩)⟩),
  List.forall_mem_cons.mpr ⟨(show SE G 61 65 (.inl (i_z 0 72 68)) from s_if_eq (tg := 72) (off := 7) (by decide +kernel) (by decide)),
  List.forall_mem_cons.mpr ⟨(show SE G 61 68 (.inl (i_c 1 69)) from s_iconst (e := 1) (by decide +kernel) (by decide)),
  List.forall_mem_cons.mpr ⟨(show SE G 61 69 (.inl (i_go 73)) from s_goto (tg := 73) (off := 4) (by decide +kernel) (by decide)),
  List.forall_mem_cons.mpr ⟨(show SE G 61 72 (.inl (i_c 0 73)) from s_iconst (e := 0) (by decide +kernel) (by decide)),
  List.forall_mem_cons.mpr ⟨(show SE G 61 73 (.inl (i_is 5 75)) from s_istore (j := 5) (by decide +kernel) (by decide)),
  List.forall_mem_cons.mpr ⟨(show SE G 61 75 (.inl (i_al 0 76)) from s_aload_n (j := 0) (by decide +kernel)),
  List.forall_mem_cons.mpr ⟨(show SE G 61 76 (.inl (i_get [7] 10 79)) from s_get (idx := 34) (kk := 10) hK (by decide +kernel) (inW 427 (by decide +kernel) (by decide +kernel)) fo_M_mark),
  List.forall_mem_cons.mpr ⟨(show SE G 61 79 (.inl (i_il 3 80)) from s_iload_n (j := 3) (by decide +kernel)),
  List.forall_mem_cons.mpr ⟨(show SE G 61 80 (.inl (i_ld [21] 81)) from s_zald hK (by decide +kernel)),
  List.forall_mem_cons.mpr ⟨(show SE G 61 81 (.inl (i_z 0 137 84)) from s_if_eq (tg := 137) (off := 56) (by decide +kernel) (by decide)),
  List.forall_mem_cons.mpr ⟨(show SE G 61 84 (.inl (i_il 5 86)) from s_iload (j := 5) (by decide +kernel)),
  List.forall_mem_cons.mpr ⟨(show SE G 61 86 (.inl (i_z 0 137 89)) from s_if_eq (tg := 137) (off := 51) (by decide +kernel) (by decide)),
  List.forall_mem_cons.mpr ⟨(show SE G 61 89 (.inl (i_al 0 90)) from s_aload_n (j := 0) (by decide +kernel)),
  List.forall_mem_cons.mpr ⟨(show SE G 61 90 (.inl (i_get [7] 7 93)) from s_get (idx := 25) (kk := 7) hK (by decide +kernel) (inW 424 (by decide +kernel) (by decide +kernel)) fo_M_is),
  List.forall_mem_cons.mpr ⟨(show SE G 61 93 (.inl (i_c 4 94)) from s_iconst (e := 4) (by decide +kernel) (by decide)),
  List.forall_mem_cons.mpr ⟨(show SE G 61 94 (.inl (i_il 3 95)) from s_iload_n (j := 3) (by decide +kernel)),
  List.forall_mem_cons.mpr ⟨(show SE G 61 95 (.inl (i_bin (fun a b => a * b) 96)) from s_imul (by decide +kernel)),
  List.forall_mem_cons.mpr ⟨(show SE G 61 96 (.inl (i_il 4 98)) from s_iload (j := 4) (by decide +kernel)),
  List.forall_mem_cons.mpr ⟨(show SE G 61 98 (.inl (i_bin (fun a b => a + b) 99)) from s_iadd (by decide +kernel)),
  List.forall_mem_cons.mpr ⟨(show SE G 61 99 (.inl (i_ld [20, 30] 100)) from s_iald hK (by decide +kernel)),
  fun _ h => absurd h List.not_mem_nil⟩⟩⟩⟩⟩⟩⟩⟩⟩⟩⟩⟩⟩⟩⟩⟩⟩⟩⟩⟩⟩⟩⟩⟩⟩⟩⟩⟩⟩⟩
set_option maxRecDepth 20000 in
theorem ok_l_61_2 (hK : K0 G) : ∀ q ∈ l_61_2, SE G 61 q.1 q.2 :=
  List.forall_mem_cons.mpr ⟨(show SE G 61 100 (.inl (i_c 9 102)) from s_bipush (e := 9) (by decide +kernel) (by decide +kernel) (by decide)),
  List.forall_mem_cons.mpr ⟨(show SE G 61 102 (.inl (i_cmp 1 137 105)) from s_icmp_ne (tg := 137) (off := 35) (by decide +kernel) (by decide)),
  List.forall_mem_cons.mpr ⟨(show SE G 61 105 (.inl (i_al 0 106)) from s_aload_n (j := 0) (by decide +kernel)),
  List.forall_mem_cons.mpr ⟨(show SE G 61 106 (.inl (i_al 0 107)) from s_aload_n (j := 0) (by decide +kernel)),
  List.forall_mem_cons.mpr ⟨(show SE G 61 107 (.inl (i_get [7] 8 110)) from s_get (idx := 28) (kk := 8) hK (by decide +kernel) (inW 425 (by decide +kernel) (by decide +kernel)) fo_M_has),
  List.forall_mem_cons.mpr ⟨(show SE G 61 110 (.inl (i_c 4 111)) from s_iconst (e := 4) (by decide +kernel) (by decide)),
  List.forall_mem_cons.mpr ⟨(show SE G 61 111 (.inl (i_il 3 112)) from s_iload_n (j := 3) (by decide +kernel)),
  List.forall_mem_cons.mpr ⟨(show SE G 61 112 (.inl (i_bin (fun a b => a * b) 113)) from s_imul (by decide +kernel)),
  List.forall_mem_cons.mpr ⟨(show SE G 61 113 (.inl (i_il 4 115)) from s_iload (j := 4) (by decide +kernel)),
  List.forall_mem_cons.mpr ⟨(show SE G 61 115 (.inl (i_bin (fun a b => a + b) 116)) from s_iadd (by decide +kernel)),
  List.forall_mem_cons.mpr ⟨(show SE G 61 116 (.inl (i_ld [20, 30] 117)) from s_iald hK (by decide +kernel)),
  List.forall_mem_cons.mpr ⟨(show SE G 61 117 (.inr (.inl (false, 2, [(7, 58)], 120))) from ⟨c_virt (idx := 101) (n := 1) hK (by decide +kernel) (List.forall_mem_cons.mpr ⟨⟨ko_58, inW 515 (by decide +kernel) (by decide +kernel), inW 517 (by decide +kernel) (by decide +kernel), 6, _, rfl, by decide, rfl, inW 18 (by decide +kernel) (by decide +kernel)⟩, fun _ h => absurd h List.not_mem_nil⟩), (List.forall_mem_cons.mpr ⟨⟨mo_58, by decide⟩, fun _ h => absurd h List.not_mem_nil⟩)⟩),
  List.forall_mem_cons.mpr ⟨(show SE G 61 120 (.inl (i_is 6 122)) from s_istore (j := 6) (by decide +kernel) (by decide)),
  List.forall_mem_cons.mpr ⟨(show SE G 61 122 (.inl (i_il 2 123)) from s_iload_n (j := 2) (by decide +kernel)),
  List.forall_mem_cons.mpr ⟨(show SE G 61 123 (.inl (i_z 1 131 126)) from s_if_ne (tg := 131) (off := 8) (by decide +kernel) (by decide)),
  List.forall_mem_cons.mpr ⟨(show SE G 61 126 (.inl (i_il 6 128)) from s_iload (j := 6) (by decide +kernel)),
  List.forall_mem_cons.mpr ⟨(show SE G 61 128 (.inl (i_z 0 135 131)) from s_if_eq (tg := 135) (off := 7) (by decide +kernel) (by decide)),
  List.forall_mem_cons.mpr ⟨(show SE G 61 131 (.inl (i_c 1 132)) from s_iconst (e := 1) (by decide +kernel) (by decide)),
  List.forall_mem_cons.mpr ⟨(show SE G 61 132 (.inl (i_go 136)) from s_goto (tg := 136) (off := 4) (by decide +kernel) (by decide)),
  List.forall_mem_cons.mpr ⟨(show SE G 61 135 (.inl (i_c 0 136)) from s_iconst (e := 0) (by decide +kernel) (by decide)),
  List.forall_mem_cons.mpr ⟨(show SE G 61 136 (.inl (i_is 2 137)) from s_istore_n (j := 2) (by decide +kernel) (by decide)),
  List.forall_mem_cons.mpr ⟨(show SE G 61 137 (.inl (i_ii 4 1 140)) from s_iinc (j := 4) (n := 1) (by decide +kernel) (by decide)),
  List.forall_mem_cons.mpr ⟨(show SE G 61 140 (.inl (i_go 15)) from s_goto (tg := 15) (off := -125) (by decide +kernel) (by decide)),
  List.forall_mem_cons.mpr ⟨(show SE G 61 143 (.inl (i_ii 3 1 146)) from s_iinc (j := 3) (n := 1) (by decide +kernel) (by decide)),
  List.forall_mem_cons.mpr ⟨(show SE G 61 146 (.inl (i_go 4)) from s_goto (tg := 4) (off := -142) (by decide +kernel) (by decide)),
  List.forall_mem_cons.mpr ⟨(show SE G 61 149 (.inl (i_il 2 150)) from s_iload_n (j := 2) (by decide +kernel)),
  List.forall_mem_cons.mpr ⟨(show SE G 61 150 (.inr (.inr 1)) from ⟨(by decide +kernel), rfl⟩),
  fun _ h => absurd h List.not_mem_nil⟩⟩⟩⟩⟩⟩⟩⟩⟩⟩⟩⟩⟩⟩⟩⟩⟩⟩⟩⟩⟩⟩⟩⟩⟩⟩⟩
theorem ok_l_61 (hK : K0 G) : ∀ q ∈ l_61, SE G 61 q.1 q.2 := by
  show ∀ q ∈ l_61_0 ++ (l_61_1 ++ (l_61_2)), SE G 61 q.1 q.2
  exact List.forall_mem_append.mpr ⟨ok_l_61_0 hK, List.forall_mem_append.mpr ⟨ok_l_61_1 hK, ok_l_61_2 hK⟩⟩
set_option maxRecDepth 20000 in
theorem ok_l_62 (hK : K0 G) : ∀ q ∈ l_62, SE G 62 q.1 q.2 :=
  List.forall_mem_cons.mpr ⟨(show SE G 62 0 (.inl (i_c 0 1)) from s_iconst (e := 0) (by decide +kernel) (by decide)),
  List.forall_mem_cons.mpr ⟨(show SE G 62 1 (.inl (i_is 2 2)) from s_istore_n (j := 2) (by decide +kernel) (by decide)),
  List.forall_mem_cons.mpr ⟨(show SE G 62 2 (.inl (i_il 2 3)) from s_iload_n (j := 2) (by decide +kernel)),
  List.forall_mem_cons.mpr ⟨(show SE G 62 3 (.inl (i_c 21 5)) from s_bipush (e := 21) (by decide +kernel) (by decide +kernel) (by decide)),
  List.forall_mem_cons.mpr ⟨(show SE G 62 5 (.inl (i_cmp 3 23 8)) from s_icmp_ge (tg := 23) (off := 18) (by decide +kernel) (by decide)),
  List.forall_mem_cons.mpr ⟨(show SE G 62 8 (.inl (i_al 0 9)) from s_aload_n (j := 0) (by decide +kernel)),
  List.forall_mem_cons.mpr ⟨(show SE G 62 9 (.inl (i_il 1 10)) from s_iload_n (j := 1) (by decide +kernel)),
  List.forall_mem_cons.mpr ⟨(show SE G 62 10 (.inr (.inl (false, 2, [(7, 61)], 13))) from ⟨c_virt (idx := 110) (n := 1) hK (by decide +kernel) (List.forall_mem_cons.mpr ⟨⟨ko_61, inW 531 (by decide +kernel) (by decide +kernel), inW 533 (by decide +kernel) (by decide +kernel), 6, _, rfl, by decide, rfl, inW 22 (by decide +kernel) (by decide +kernel)⟩, fun _ h => absurd h List.not_mem_nil⟩), (List.forall_mem_cons.mpr ⟨⟨mo_61, by decide⟩, fun _ h => absurd h List.not_mem_nil⟩)⟩),
  List.forall_mem_cons.mpr ⟨(show SE G 62 13 (.inl (i_z 1 17 16)) from s_if_ne (tg := 17) (off := 4) (by decide +kernel) (by decide)),
  List.forall_mem_cons.mpr ⟨(show SE G 62 16 (.inr (.inr 3)) from ⟨(by decide +kernel), rfl⟩),
  List.forall_mem_cons.mpr ⟨(show SE G 62 17 (.inl (i_ii 2 1 20)) from s_iinc (j := 2) (n := 1) (by decide +kernel) (by decide)),
  List.forall_mem_cons.mpr ⟨(show SE G 62 20 (.inl (i_go 2)) from s_goto (tg := 2) (off := -18) (by decide +kernel) (by decide)),
  List.forall_mem_cons.mpr ⟨(show SE G 62 23 (.inr (.inr 3)) from ⟨(by decide +kernel), rfl⟩),
  fun _ h => absurd h List.not_mem_nil⟩⟩⟩⟩⟩⟩⟩⟩⟩⟩⟩⟩⟩
set_option maxRecDepth 20000 in
theorem ok_l_63_0 (hK : K0 G) : ∀ q ∈ l_63_0, SE G 63 q.1 q.2 :=
  List.forall_mem_cons.mpr ⟨(show SE G 63 0 (.inl (i_c 0 1)) from s_iconst (e := 0) (by decide +kernel) (by decide)),
  List.forall_mem_cons.mpr ⟨(show SE G 63 1 (.inl (i_is 1 2)) from s_istore_n (j := 1) (by decide +kernel) (by decide)),
  List.forall_mem_cons.mpr ⟨(show SE G 63 2 (.inl (i_il 1 3)) from s_iload_n (j := 1) (by decide +kernel)),
  List.forall_mem_cons.mpr ⟨(show SE G 63 3 (.inl (i_al 0 4)) from s_aload_n (j := 0) (by decide +kernel)),
  List.forall_mem_cons.mpr ⟨(show SE G 63 4 (.inl (i_get [7] 2 7)) from s_get (idx := 50) (kk := 2) hK (by decide +kernel) (inW 419 (by decide +kernel) (by decide +kernel)) fo_M_objects),
  List.forall_mem_cons.mpr ⟨(show SE G 63 7 (.inl (i_cmp 3 189 10)) from s_icmp_ge (tg := 189) (off := 182) (by decide +kernel) (by decide)),
  List.forall_mem_cons.mpr ⟨(show SE G 63 10 (.inl (i_al 0 11)) from s_aload_n (j := 0) (by decide +kernel)),
  List.forall_mem_cons.mpr ⟨(show SE G 63 11 (.inl (i_get [7] 5 14)) from s_get (idx := 19) (kk := 5) hK (by decide +kernel) (inW 422 (by decide +kernel) (by decide +kernel)) fo_M_sort),
  List.forall_mem_cons.mpr ⟨(show SE G 63 14 (.inl (i_il 1 15)) from s_iload_n (j := 1) (by decide +kernel)),
  List.forall_mem_cons.mpr ⟨(show SE G 63 15 (.inl (i_ld [20, 30] 16)) from s_iald hK (by decide +kernel)),
  List.forall_mem_cons.mpr ⟨(show SE G 63 16 (.inl (i_c 3 17)) from s_iconst (e := 3) (by decide +kernel) (by decide)),
  List.forall_mem_cons.mpr ⟨(show SE G 63 17 (.inl (i_cmp 1 66 20)) from s_icmp_ne (tg := 66) (off := 49) (by decide +kernel) (by decide)),
  List.forall_mem_cons.mpr ⟨(show SE G 63 20 (.inl (i_al 0 21)) from s_aload_n (j := 0) (by decide +kernel)),
  List.forall_mem_cons.mpr ⟨(show SE G 63 21 (.inl (i_get [7] 7 24)) from s_get (idx := 25) (kk := 7) hK (by decide +kernel) (inW 424 (by decide +kernel) (by decide +kernel)) fo_M_is),
  List.forall_mem_cons.mpr ⟨(show SE G 63 24 (.inl (i_c 4 25)) from s_iconst (e := 4) (by decide +kernel) (by decide)),
  List.forall_mem_cons.mpr ⟨(show SE G 63 25 (.inl (i_il 1 26)) from s_iload_n (j := 1) (by decide +kernel)),
  List.forall_mem_cons.mpr ⟨(show SE G 63 26 (.inl (i_bin (fun a b => a * b) 27)) from s_imul (by decide +kernel)),
  List.forall_mem_cons.mpr ⟨(show SE G 63 27 (.inl (i_ld [20, 30] 28)) from s_iald hK (by decide +kernel)),
  List.forall_mem_cons.mpr ⟨(show SE G 63 28 (.inl (i_c 9 30)) from s_bipush (e := 9) (by decide +kernel) (by decide +kernel) (by decide)),
  List.forall_mem_cons.mpr ⟨(show SE G 63 30 (.inl (i_cmp 1 66 33)) from s_icmp_ne (tg := 66) (off := 36) (by decide +kernel) (by decide)),
  List.forall_mem_cons.mpr ⟨(show SE G 63 33 (.inl (i_al 0 34)) from s_aload_n (j := 0) (by decide +kernel)),
  List.forall_mem_cons.mpr ⟨(show SE G 63 34 (.inl (i_al 0 35)) from s_aload_n (j := 0) (by decide +kernel)),
  List.forall_mem_cons.mpr ⟨(show SE G 63 35 (.inl (i_get [7] 8 38)) from s_get (idx := 28) (kk := 8) hK (by decide +kernel) (inW 425 (by decide +kernel) (by decide +kernel)) fo_M_has),
  List.forall_mem_cons.mpr ⟨(show SE G 63 38 (.inl (i_c 4 39)) from s_iconst (e := 4) (by decide +kernel) (by decide)),
  List.forall_mem_cons.mpr ⟨(show SE G 63 39 (.inl (i_il 1 40)) from s_iload_n (j := 1) (by decide +kernel)),
  List.forall_mem_cons.mpr ⟨(show SE G 63 40 (.inl (i_bin (fun a b => a * b) 41)) from s_imul (by decide +kernel)),
  List.forall_mem_cons.mpr ⟨(show SE G 63 41 (.inl (i_ld [20, 30] 42)) from s_iald hK (by decide +kernel)),
  List.forall_mem_cons.mpr ⟨(show SE G 63 42 (.inr (.inl (false, 2, [(7, 57)], 45))) from ⟨c_virt (idx := 107) (n := 1) hK (by decide +kernel) (List.forall_mem_cons.mpr ⟨⟨ko_57, inW 535 (by decide +kernel) (by decide +kernel), inW 537 (by decide +kernel) (by decide +kernel), 6, _, rfl, by decide, rfl, inW 23 (by decide +kernel) (by decide +kernel)⟩, fun _ h => absurd h List.not_mem_nil⟩), (List.forall_mem_cons.mpr ⟨⟨mo_57, by decide⟩, fun _ h => absurd h List.not_mem_nil⟩)⟩),
  List.forall_mem_cons.mpr ⟨(show SE G 63 45 (.inl (i_z 1 66 48)) from s_if_ne (tg := 66) (off := 21) (by decide +kernel) (by decide)),
  List.forall_mem_cons.mpr ⟨(show SE G 63 48 (.inl (i_al 0 49)) from s_aload_n (j := 0) (by decide +kernel)),
  fun _ h => absurd h List.not_mem_nil⟩⟩⟩⟩⟩⟩⟩⟩⟩⟩⟩⟩⟩⟩⟩⟩⟩⟩⟩⟩⟩⟩⟩⟩⟩⟩⟩⟩⟩⟩
set_option maxRecDepth 20000 in
theorem ok_l_63_1 (hK : K0 G) : ∀ q ∈ l_63_1, SE G 63 q.1 q.2 :=
  List.forall_mem_cons.mpr ⟨(show SE G 63 49 (.inl (i_get [7] 7 52)) from s_get (idx := 25) (kk := 7) hK (by decide +kernel) (inW 424 (by decide +kernel) (by decide +kernel)) fo_M_is),
  List.forall_mem_cons.mpr ⟨(show SE G 63 52 (.inl (i_c 4 53)) from s_iconst (e := 4) (by decide +kernel) (by decide)),
  List.forall_mem_cons.mpr ⟨(show SE G 63 53 (.inl (i_il 1 54)) from s_iload_n (j := 1) (by decide +kernel)),
  List.forall_mem_cons.mpr ⟨(show SE G 63 54 (.inl (i_bin (fun a b => a * b) 55)) from s_imul (by decide +kernel)),
  List.forall_mem_cons.mpr ⟨(show SE G 63 55 (.inl (i_c 0 56)) from s_iconst (e := 0) (by decide +kernel) (by decide)),
  List.forall_mem_cons.mpr ⟨(show SE G 63 56 (.inl (i_ist 57)) from s_iast hK (by decide +kernel)),
  List.forall_mem_cons.mpr ⟨(show SE G 63 57 (.inl (i_al 0 58)) from s_aload_n (j := 0) (by decide +kernel)),
  List.forall_mem_cons.mpr ⟨(show SE G 63 58 (.inl (i_get [7] 8 61)) from s_get (idx := 28) (kk := 8) hK (by decide +kernel) (inW 425 (by decide +kernel) (by decide +kernel)) fo_M_has),
  List.forall_mem_cons.mpr ⟨(show SE G 63 61 (.inl (i_c 4 62)) from s_iconst (e := 4) (by decide +kernel) (by decide)),
  List.forall_mem_cons.mpr ⟨(show SE G 63 62 (.inl (i_il 1 63)) from s_iload_n (j := 1) (by decide +kernel)),
  List.forall_mem_cons.mpr ⟨(show SE G 63 63 (.inl (i_bin (fun a b => a * b) 64)) from s_imul (by decide +kernel)),
  List.forall_mem_cons.mpr ⟨(show SE G 63 64 (.inl (i_c 0 65)) from s_iconst (e := 0) (by decide +kernel) (by decide)),
  List.forall_mem_cons.mpr ⟨(show SE G 63 65 (.inl (i_ist 66)) from s_iast hK (by decide +kernel)),
  List.forall_mem_cons.mpr ⟨(show SE G 63 66 (.inl (i_al 0 67)) from s_aload_n (j := 0) (by decide +kernel)),
  List.forall_mem_cons.mpr ⟨(show SE G 63 67 (.inl (i_get [7] 5 70)) from s_get (idx := 19) (kk := 5) hK (by decide +kernel) (inW 422 (by decide +kernel) (by decide +kernel)) fo_M_sort),
  List.forall_mem_cons.mpr ⟨(show SE G 63 70 (.inl (i_il 1 71)) from s_iload_n (j := 1) (by decide +kernel)),
  List.forall_mem_cons.mpr ⟨(show SE G 63 71 (.inl (i_ld [20, 30] 72)) from s_iald hK (by decide +kernel)),
  List.forall_mem_cons.mpr ⟨(show SE G 63 72 (.inl (i_c 4 73)) from s_iconst (e := 4) (by decide +kernel) (by decide)),
  List.forall_mem_cons.mpr ⟨(show SE G 63 73 (.inl (i_cmp 1 183 76)) from s_icmp_ne (tg := 183) (off := 110) (by decide +kernel) (by decide)),
  List.forall_mem_cons.mpr ⟨(show SE G 63 76 (.inl (i_c 0 77)) from s_iconst (e := 0) (by decide +kernel) (by decide)),
  List.forall_mem_cons.mpr ⟨(show SE G 63 77 (.inl (i_is 2 78)) from s_istore_n (j := 2) (by decide +kernel) (by decide)),
  List.forall_mem_cons.mpr ⟨(show SE G 63 78 (.inl (i_c 0 79)) from s_iconst (e := 0) (by decide +kernel) (by decide)),
  List.forall_mem_cons.mpr ⟨(show SE G 63 79 (.inl (i_is 3 80)) from s_istore_n (j := 3) (by decide +kernel) (by decide)),
  List.forall_mem_cons.mpr ⟨(show SE G 63 80 (.inl (i_il 3 81)) from s_iload_n (j := 3) (by decide +kernel)),
  List.forall_mem_cons.mpr ⟨(show SE G 63 81 (.inl (i_al 0 82)) from s_aload_n (j := 0) (by decide +kernel)),
  List.forall_mem_cons.mpr ⟨(show SE G 63 82 (.inl (i_get [7] 6 85)) from s_get (idx := 22) (kk := 6) hK (by decide +kernel) (inW 423 (by decide +kernel) (by decide +kernel)) fo_M_many),
  List.forall_mem_cons.mpr ⟨(show SE G 63 85 (.inl (i_il 1 86)) from s_iload_n (j := 1) (by decide +kernel)),
  List.forall_mem_cons.mpr ⟨(show SE G 63 86 (.inl (i_ld [20, 30] 87)) from s_iald hK (by decide +kernel)),
  List.forall_mem_cons.mpr ⟨(show SE G 63 87 (.inl (i_cmp 3 176 90)) from s_icmp_ge (tg := 176) (off := 89) (by decide +kernel) (by decide)),
  List.forall_mem_cons.mpr ⟨(show SE G 63 90 (.inl (i_al 0 91)) from s_aload_n (j := 0) (by decide +kernel)),
  fun _ h => absurd h List.not_mem_nil⟩⟩⟩⟩⟩⟩⟩⟩⟩⟩⟩⟩⟩⟩⟩⟩⟩⟩⟩⟩⟩⟩⟩⟩⟩⟩⟩⟩⟩⟩
set_option maxRecDepth 20000 in
theorem ok_l_63_2 (hK : K0 G) : ∀ q ∈ l_63_2, SE G 63 q.1 q.2 :=
  List.forall_mem_cons.mpr ⟨(show SE G 63 91 (.inl (i_al 0 92)) from s_aload_n (j := 0) (by decide +kernel)),
  List.forall_mem_cons.mpr ⟨(show SE G 63 92 (.inl (i_get [7] 9 95)) from s_get (idx := 31) (kk := 9) hK (by decide +kernel) (inW 426 (by decide +kernel) (by decide +kernel)) fo_M_keys),
  List.forall_mem_cons.mpr ⟨(show SE G 63 95 (.inl (i_c 4 96)) from s_iconst (e := 4) (by decide +kernel) (by decide)),
  List.forall_mem_cons.mpr ⟨(show SE G 63 96 (.inl (i_il 1 97)) from s_iload_n (j := 1) (by decide +kernel)),
  List.forall_mem_cons.mpr ⟨(show SE G 63 97 (.inl (i_bin (fun a b => a * b) 98)) from s_imul (by decide +kernel)),
  List.forall_mem_cons.mpr ⟨(show SE G 63 98 (.inl (i_il 3 99)) from s_iload_n (j := 3) (by decide +kernel)),
  List.forall_mem_cons.mpr ⟨(show SE G 63 99 (.inl (i_bin (fun a b => a + b) 100)) from s_iadd (by decide +kernel)),
  List.forall_mem_cons.mpr ⟨(show SE G 63 100 (.inl (i_ld [20, 30] 101)) from s_iald hK (by decide +kernel)),
  List.forall_mem_cons.mpr ⟨(show SE G 63 101 (.inr (.inl (false, 2, [(7, 57)], 104))) from ⟨c_virt (idx := 107) (n := 1) hK (by decide +kernel) (List.forall_mem_cons.mpr ⟨⟨ko_57, inW 535 (by decide +kernel) (by decide +kernel), inW 537 (by decide +kernel) (by decide +kernel), 6, _, rfl, by decide, rfl, inW 23 (by decide +kernel) (by decide +kernel)⟩, fun _ h => absurd h List.not_mem_nil⟩), (List.forall_mem_cons.mpr ⟨⟨mo_57, by decide⟩, fun _ h => absurd h List.not_mem_nil⟩)⟩),
  List.forall_mem_cons.mpr ⟨(show SE G 63 104 (.inl (i_z 0 170 107)) from s_if_eq (tg := 170) (off := 66) (by decide +kernel) (by decide)),
  List.forall_mem_cons.mpr ⟨(show SE G 63 107 (.inl (i_al 0 108)) from s_aload_n (j := 0) (by decide +kernel)),
  List.forall_mem_cons.mpr ⟨(show SE G 63 108 (.inl (i_get [7] 9 111)) from s_get (idx := 31) (kk := 9) hK (by decide +kernel) (inW 426 (by decide +kernel) (by decide +kernel)) fo_M_keys),
  List.forall_mem_cons.mpr ⟨(show SE G 63 111 (.inl (i_c 4 112)) from s_iconst (e := 4) (by decide +kernel) (by decide)),
  List.forall_mem_cons.mpr ⟨(show SE G 63 112 (.inl (i_il 1 113)) from s_iload_n (j := 1) (by decide +kernel)),
  List.forall_mem_cons.mpr ⟨(show SE G 63 113 (.inl (i_bin (fun a b => a * b) 114)) from s_imul (by decide +kernel)),
  List.forall_mem_cons.mpr ⟨(show SE G 63 114 (.inl (i_il 2 115)) from s_iload_n (j := 2) (by decide +kernel)),
  List.forall_mem_cons.mpr ⟨(show SE G 63 115 (.inl (i_bin (fun a b => a + b) 116)) from s_iadd (by decide +kernel)),
  List.forall_mem_cons.mpr ⟨(show SE G 63 116 (.inl (i_al 0 117)) from s_aload_n (j := 0) (by decide +kernel)),
  List.forall_mem_cons.mpr ⟨(show SE G 63 117 (.inl (i_get [7] 9 120)) from s_get (idx := 31) (kk := 9) hK (by decide +kernel) (inW 426 (by decide +kernel) (by decide +kernel)) fo_M_keys),
  List.forall_mem_cons.mpr ⟨(show SE G 63 120 (.inl (i_c 4 121)) from s_iconst (e := 4) (by decide +kernel) (by decide)),
  List.forall_mem_cons.mpr ⟨(show SE G 63 121 (.inl (i_il 1 122)) from s_iload_n (j := 1) (by decide +kernel)),
  List.forall_mem_cons.mpr ⟨(show SE G 63 122 (.inl (i_bin (fun a b => a * b) 123)) from s_imul (by decide +kernel)),
  List.forall_mem_cons.mpr ⟨(show SE G 63 123 (.inl (i_il 3 124)) from s_iload_n (j := 3) (by decide +kernel)),
  List.forall_mem_cons.mpr ⟨(show SE G 63 124 (.inl (i_bin (fun a b => a + b) 125)) from s_iadd (by decide +kernel)),
  List.forall_mem_cons.mpr ⟨(show SE G 63 125 (.inl (i_ld [20, 30] 126)) from s_iald hK (by decide +kernel)),
  List.forall_mem_cons.mpr ⟨(show SE G 63 126 (.inl (i_ist 127)) from s_iast hK (by decide +kernel)),
  List.forall_mem_cons.mpr ⟨(show SE G 63 127 (.inl (i_al 0 128)) from s_aload_n (j := 0) (by decide +kernel)),
  List.forall_mem_cons.mpr ⟨(show SE G 63 128 (.inl (i_get [7] 7 131)) from s_get (idx := 25) (kk := 7) hK (by decide +kernel) (inW 424 (by decide +kernel) (by decide +kernel)) fo_M_is),
  List.forall_mem_cons.mpr ⟨(show SE G 63 131 (.inl (i_c 4 132)) from s_iconst (e := 4) (by decide +kernel) (by decide)),
  List.forall_mem_cons.mpr ⟨(show SE G 63 132 (.inl (i_il 1 133)) from s_iload_n (j := 1) (by decide +kernel)),
  fun _ h => absurd h List.not_mem_nil⟩⟩⟩⟩⟩⟩⟩⟩⟩⟩⟩⟩⟩⟩⟩⟩⟩⟩⟩⟩⟩⟩⟩⟩⟩⟩⟩⟩⟩⟩
set_option maxRecDepth 20000 in
theorem ok_l_63_3 (hK : K0 G) : ∀ q ∈ l_63_3, SE G 63 q.1 q.2 :=
  List.forall_mem_cons.mpr ⟨(show SE G 63 133 (.inl (i_bin (fun a b => a * b) 134)) from s_imul (by decide +kernel)),
  List.forall_mem_cons.mpr ⟨(show SE G 63 134 (.inl (i_il 2 135)) from s_iload_n (j := 2) (by decide +kernel)),
  List.forall_mem_cons.mpr ⟨(show SE G 63 135 (.inl (i_bin (fun a b => a + b) 136)) from s_iadd (by decide +kernel)),
  List.forall_mem_cons.mpr ⟨(show SE G 63 136 (.inl (i_al 0 137)) from s_aload_n (j := 0) (by decide +kernel)),
  List.forall_mem_cons.mpr ⟨(show SE G 63 137 (.inl (i_get [7] 7 140)) from s_get (idx := 25) (kk := 7) hK (by decide +kernel) (inW 424 (by decide +kernel) (by decide +kernel)) fo_M_is),
  List.forall_mem_cons.mpr ⟨(show SE G 63 140 (.inl (i_c 4 141)) from s_iconst (e := 4) (by decide +kernel) (by decide)),
  List.forall_mem_cons.mpr ⟨(show SE G 63 141 (.inl (i_il 1 142)) from s_iload_n (j := 1) (by decide +kernel)),
  List.forall_mem_cons.mpr ⟨(show SE G 63 142 (.inl (i_bin (fun a b => a * b) 143)) from s_imul (by decide +kernel)),
  List.forall_mem_cons.mpr ⟨(show SE G 63 143 (.inl (i_il 3 144)) from s_iload_n (j := 3) (by decide +kernel)),
  List.forall_mem_cons.mpr ⟨(show SE G 63 144 (.inl (i_bin (fun a b => a + b) 145)) from s_iadd (by decide +kernel)),
  List.forall_mem_cons.mpr ⟨(show SE G 63 145 (.inl (i_ld [20, 30] 146)) from s_iald hK (by decide +kernel)),
  List.forall_mem_cons.mpr ⟨(show SE G 63 146 (.inl (i_ist 147)) from s_iast hK (by decide +kernel)),
  List.forall_mem_cons.mpr ⟨(show SE G 63 147 (.inl (i_al 0 148)) from s_aload_n (j := 0) (by decide +kernel)),
  List.forall_mem_cons.mpr ⟨(show SE G 63 148 (.inl (i_get [7] 8 151)) from s_get (idx := 28) (kk := 8) hK (by decide +kernel) (inW 425 (by decide +kernel) (by decide +kernel)) fo_M_has),
  List.forall_mem_cons.mpr ⟨(show SE G 63 151 (.inl (i_c 4 152)) from s_iconst (e := 4) (by decide +kernel) (by decide)),
  List.forall_mem_cons.mpr ⟨(show SE G 63 152 (.inl (i_il 1 153)) from s_iload_n (j := 1) (by decide +kernel)),
  List.forall_mem_cons.mpr ⟨(show SE G 63 153 (.inl (i_bin (fun a b => a * b) 154)) from s_imul (by decide +kernel)),
  List.forall_mem_cons.mpr ⟨(show SE G 63 154 (.inl (i_il 2 155)) from s_iload_n (j := 2) (by decide +kernel)),
  List.forall_mem_cons.mpr ⟨(show SE G 63 155 (.inl (i_bin (fun a b => a + b) 156)) from s_iadd (by decide +kernel)),
  List.forall_mem_cons.mpr ⟨(show SE G 63 156 (.inl (i_al 0 157)) from s_aload_n (j := 0) (by decide +kernel)),
  List.forall_mem_cons.mpr ⟨(show SE G 63 157 (.inl (i_get [7] 8 160)) from s_get (idx := 28) (kk := 8) hK (by decide +kernel) (inW 425 (by decide +kernel) (by decide +kernel)) fo_M_has),
  List.forall_mem_cons.mpr ⟨(show SE G 63 160 (.inl (i_c 4 161)) from s_iconst (e := 4) (by decide +kernel) (by decide)),
  List.forall_mem_cons.mpr ⟨(show SE G 63 161 (.inl (i_il 1 162)) from s_iload_n (j := 1) (by decide +kernel)),
  List.forall_mem_cons.mpr ⟨(show SE G 63 162 (.inl (i_bin (fun a b => a * b) 163)) from s_imul (by decide +kernel)),
  List.forall_mem_cons.mpr ⟨(show SE G 63 163 (.inl (i_il 3 164)) from s_iload_n (j := 3) (by decide +kernel)),
  List.forall_mem_cons.mpr ⟨(show SE G 63 164 (.inl (i_bin (fun a b => a + b) 165)) from s_iadd (by decide +kernel)),
  List.forall_mem_cons.mpr ⟨(show SE G 63 165 (.inl (i_ld [20, 30] 166)) from s_iald hK (by decide +kernel)),
  List.forall_mem_cons.mpr ⟨(show SE G 63 166 (.inl (i_ist 167)) from s_iast hK (by decide +kernel)),
  List.forall_mem_cons.mpr ⟨(show SE G 63 167 (.inl (i_ii 2 1 170)) from s_iinc (j := 2) (n := 1) (by decide +kernel) (by decide)),
  List.forall_mem_cons.mpr ⟨(show SE G 63 170 (.inl (i_ii 3 1 173)) from s_iinc (j := 3) (n := 1) (by decide +kernel) (by decide)),
  fun _ h => absurd h List.not_mem_nil⟩⟩⟩⟩⟩⟩⟩⟩⟩⟩⟩⟩⟩⟩⟩⟩⟩⟩⟩⟩⟩⟩⟩⟩⟩⟩⟩⟩⟩⟩
set_option maxRecDepth 20000 in
theorem ok_l_63_4 (hK : K0 G) : ∀ q ∈ l_63_4, SE G 63 q.1 q.2 :=
  List.forall_mem_cons.mpr ⟨(show SE G 63 173 (.inl (i_go 80)) from s_goto (tg := 80) (off := -93) (by decide +kernel) (by decide)),
  List.forall_mem_cons.mpr ⟨(show SE G 63 176 (.inl (i_al 0 177)) from s_aload_n (j := 0) (by decide +kernel)),
  List.forall_mem_cons.mpr ⟨(show SE G 63 177 (.inl (i_get [7] 6 180)) from s_get (idx := 22) (kk := 6) hK (by decide +kernel) (inW 423 (by decide +kernel) (by decide +kernel)) fo_M_many),
  List.forall_mem_cons.mpr ⟨(show SE G 63 180 (.inl (i_il 1 181)) from s_iload_n (j := 1) (by decide +kernel)),
  List.forall_mem_cons.mpr ⟨(show SE G 63 181 (.inl (i_il 2 182)) from s_iload_n (j := 2) (by decide +kernel)),
  List.forall_mem_cons.mpr ⟨(show SE G 63 182 (.inl (i_ist 183)) from s_iast hK (by decide +kernel)),
  List.forall_mem_cons.mpr ⟨(show SE G 63 183 (.inl (i_ii 1 1 186)) from s_iinc (j := 1) (n := 1) (by decide +kernel) (by decide)),
  List.forall_mem_cons.mpr ⟨(show SE G 63 186 (.inl (i_go 2)) from s_goto (tg := 2) (off := -184) (by decide +kernel) (by decide)),
  List.forall_mem_cons.mpr ⟨(show SE G 63 189 (.inr (.inr 3)) from ⟨(by decide +kernel), rfl⟩),
  fun _ h => absurd h List.not_mem_nil⟩⟩⟩⟩⟩⟩⟩⟩⟩
theorem ok_l_63 (hK : K0 G) : ∀ q ∈ l_63, SE G 63 q.1 q.2 := by
  show ∀ q ∈ l_63_0 ++ (l_63_1 ++ (l_63_2 ++ (l_63_3 ++ (l_63_4)))), SE G 63 q.1 q.2
  exact List.forall_mem_append.mpr ⟨ok_l_63_0 hK, List.forall_mem_append.mpr ⟨ok_l_63_1 hK, List.forall_mem_append.mpr ⟨ok_l_63_2 hK, List.forall_mem_append.mpr ⟨ok_l_63_3 hK, ok_l_63_4 hK⟩⟩⟩⟩
set_option maxRecDepth 20000 in
theorem ok_l_64_0 (hK : K0 G) : ∀ q ∈ l_64_0, SE G 64 q.1 q.2 :=
  List.forall_mem_cons.mpr ⟨(show SE G 64 0 (.inl (i_c 0 1)) from s_iconst (e := 0) (by decide +kernel) (by decide)),
  List.forall_mem_cons.mpr ⟨(show SE G 64 1 (.inl (i_is 1 2)) from s_istore_n (j := 1) (by decide +kernel) (by decide)),
  List.forall_mem_cons.mpr ⟨(show SE G 64 2 (.inl (i_c 0 3)) from s_iconst (e := 0) (by decide +kernel) (by decide)),
  List.forall_mem_cons.mpr ⟨(show SE G 64 3 (.inl (i_is 2 4)) from s_istore_n (j := 2) (by decide +kernel) (by decide)),
  List.forall_mem_cons.mpr ⟨(show SE G 64 4 (.inl (i_il 2 5)) from s_iload_n (j := 2) (by decide +kernel)),
  List.forall_mem_cons.mpr ⟨(show SE G 64 5 (.inl (i_al 0 6)) from s_aload_n (j := 0) (by decide +kernel)),
  List.forall_mem_cons.mpr ⟨(show SE G 64 6 (.inl (i_get [7] 11 9)) from s_get (idx := 95) (kk := 11) hK (by decide +kernel) (inW 428 (by decide +kernel) (by decide +kernel)) fo_M_registered),
  List.forall_mem_cons.mpr ⟨(show SE G 64 9 (.inl (i_cmp 3 101 12)) from s_icmp_ge (tg := 101) (off := 92) (by decide +kernel) (by decide)),
  List.forall_mem_cons.mpr ⟨(show SE G 64 12 (.inl (i_al 0 13)) from s_aload_n (j := 0) (by decide +kernel)),
  List.forall_mem_cons.mpr ⟨(show SE G 64 13 (.inl (i_al 0 14)) from s_aload_n (j := 0) (by decide +kernel)),
  List.forall_mem_cons.mpr ⟨(show SE G 64 14 (.inl (i_get [7] 12 17)) from s_get (idx := 38) (kk := 12) hK (by decide +kernel) (inW 429 (by decide +kernel) (by decide +kernel)) fo_M_regName),
  List.forall_mem_cons.mpr ⟨(show SE G 64 17 (.inl (i_il 2 18)) from s_iload_n (j := 2) (by decide +kernel)),
  List.forall_mem_cons.mpr ⟨(show SE G 64 18 (.inl (i_ld [20, 30] 19)) from s_iald hK (by decide +kernel)),
  List.forall_mem_cons.mpr ⟨(show SE G 64 19 (.inr (.inl (false, 2, [(7, 57)], 22))) from ⟨c_virt (idx := 107) (n := 1) hK (by decide +kernel) (List.forall_mem_cons.mpr ⟨⟨ko_57, inW 535 (by decide +kernel) (by decide +kernel), inW 537 (by decide +kernel) (by decide +kernel), 6, _, rfl, by decide, rfl, inW 23 (by decide +kernel) (by decide +kernel)⟩, fun _ h => absurd h List.not_mem_nil⟩), (List.forall_mem_cons.mpr ⟨⟨mo_57, by decide⟩, fun _ h => absurd h List.not_mem_nil⟩)⟩),
  List.forall_mem_cons.mpr ⟨(show SE G 64 22 (.inl (i_z 0 55 25)) from s_if_eq (tg := 55) (off := 33) (by decide +kernel) (by decide)),
  List.forall_mem_cons.mpr ⟨(show SE G 64 25 (.inl (i_al 0 26)) from s_aload_n (j := 0) (by decide +kernel)),
  List.forall_mem_cons.mpr ⟨(show SE G 64 26 (.inl (i_get [7] 12 29)) from s_get (idx := 38) (kk := 12) hK (by decide +kernel) (inW 429 (by decide +kernel) (by decide +kernel)) fo_M_regName),
  List.forall_mem_cons.mpr ⟨(show SE G 64 29 (.inl (i_il 1 30)) from s_iload_n (j := 1) (by decide +kernel)),
  List.forall_mem_cons.mpr ⟨(show SE G 64 30 (.inl (i_al 0 31)) from s_aload_n (j := 0) (by decide +kernel)),
  List.forall_mem_cons.mpr ⟨(show SE G 64 31 (.inl (i_get [7] 12 34)) from s_get (idx := 38) (kk := 12) hK (by decide +kernel) (inW 429 (by decide +kernel) (by decide +kernel)) fo_M_regName),
  List.forall_mem_cons.mpr ⟨(show SE G 64 34 (.inl (i_il 2 35)) from s_iload_n (j := 2) (by decide +kernel)),
  List.forall_mem_cons.mpr ⟨(show SE G 64 35 (.inl (i_ld [20, 30] 36)) from s_iald hK (by decide +kernel)),
  List.forall_mem_cons.mpr ⟨(show SE G 64 36 (.inl (i_ist 37)) from s_iast hK (by decide +kernel)),
  List.forall_mem_cons.mpr ⟨(show SE G 64 37 (.inl (i_al 0 38)) from s_aload_n (j := 0) (by decide +kernel)),
  List.forall_mem_cons.mpr ⟨(show SE G 64 38 (.inl (i_get [7] 13 41)) from s_get (idx := 41) (kk := 13) hK (by decide +kernel) (inW 430 (by decide +kernel) (by decide +kernel)) fo_M_regTag),
  List.forall_mem_cons.mpr ⟨(show SE G 64 41 (.inl (i_il 1 42)) from s_iload_n (j := 1) (by decide +kernel)),
  List.forall_mem_cons.mpr ⟨(show SE G 64 42 (.inl (i_al 0 43)) from s_aload_n (j := 0) (by decide +kernel)),
  List.forall_mem_cons.mpr ⟨(show SE G 64 43 (.inl (i_get [7] 13 46)) from s_get (idx := 41) (kk := 13) hK (by decide +kernel) (inW 430 (by decide +kernel) (by decide +kernel)) fo_M_regTag),
  List.forall_mem_cons.mpr ⟨(show SE G 64 46 (.inl (i_il 2 47)) from s_iload_n (j := 2) (by decide +kernel)),
  List.forall_mem_cons.mpr ⟨(show SE G 64 47 (.inl (i_ld [20, 30] 48)) from s_iald hK (by decide +kernel)),
  fun _ h => absurd h List.not_mem_nil⟩⟩⟩⟩⟩⟩⟩⟩⟩⟩⟩⟩⟩⟩⟩⟩⟩⟩⟩⟩⟩⟩⟩⟩⟩⟩⟩⟩⟩⟩
set_option maxRecDepth 20000 in
theorem ok_l_64_1 (hK : K0 G) : ∀ q ∈ l_64_1, SE G 64 q.1 q.2 :=
  List.forall_mem_cons.mpr ⟨(show SE G 64 48 (.inl (i_ist 49)) from s_iast hK (by decide +kernel)),
  List.forall_mem_cons.mpr ⟨(show SE G 64 49 (.inl (i_ii 1 1 52)) from s_iinc (j := 1) (n := 1) (by decide +kernel) (by decide)),
  List.forall_mem_cons.mpr ⟨(show SE G 64 52 (.inl (i_go 95)) from s_goto (tg := 95) (off := 43) (by decide +kernel) (by decide)),
  List.forall_mem_cons.mpr ⟨(show SE G 64 55 (.inl (i_al 0 56)) from s_aload_n (j := 0) (by decide +kernel)),
  List.forall_mem_cons.mpr ⟨(show SE G 64 56 (.inl (i_get [7] 15 59)) from s_get (idx := 44) (kk := 15) hK (by decide +kernel) (inW 432 (by decide +kernel) (by decide +kernel)) fo_M_waitName),
  List.forall_mem_cons.mpr ⟨(show SE G 64 59 (.inl (i_al 0 60)) from s_aload_n (j := 0) (by decide +kernel)),
  List.forall_mem_cons.mpr ⟨(show SE G 64 60 (.inl (i_get [7] 14 63)) from s_get (idx := 98) (kk := 14) hK (by decide +kernel) (inW 431 (by decide +kernel) (by decide +kernel)) fo_M_waits),
  List.forall_mem_cons.mpr ⟨(show SE G 64 63 (.inl (i_al 0 64)) from s_aload_n (j := 0) (by decide +kernel)),
  List.forall_mem_cons.mpr ⟨(show SE G 64 64 (.inl (i_get [7] 12 67)) from s_get (idx := 38) (kk := 12) hK (by decide +kernel) (inW 429 (by decide +kernel) (by decide +kernel)) fo_M_regName),
  List.forall_mem_cons.mpr ⟨(show SE G 64 67 (.inl (i_il 2 68)) from s_iload_n (j := 2) (by decide +kernel)),
  List.forall_mem_cons.mpr ⟨(show SE G 64 68 (.inl (i_ld [20, 30] 69)) from s_iald hK (by decide +kernel)),
  List.forall_mem_cons.mpr ⟨(show SE G 64 69 (.inl (i_ist 70)) from s_iast hK (by decide +kernel)),
  List.forall_mem_cons.mpr ⟨(show SE G 64 70 (.inl (i_al 0 71)) from s_aload_n (j := 0) (by decide +kernel)),
  List.forall_mem_cons.mpr ⟨(show SE G 64 71 (.inl (i_get [7] 16 74)) from s_get (idx := 47) (kk := 16) hK (by decide +kernel) (inW 433 (by decide +kernel) (by decide +kernel)) fo_M_waitTag),
  List.forall_mem_cons.mpr ⟨(show SE G 64 74 (.inl (i_al 0 75)) from s_aload_n (j := 0) (by decide +kernel)),
  List.forall_mem_cons.mpr ⟨(show SE G 64 75 (.inl (i_get [7] 14 78)) from s_get (idx := 98) (kk := 14) hK (by decide +kernel) (inW 431 (by decide +kernel) (by decide +kernel)) fo_M_waits),
  List.forall_mem_cons.mpr ⟨(show SE G 64 78 (.inl (i_al 0 79)) from s_aload_n (j := 0) (by decide +kernel)),
  List.forall_mem_cons.mpr ⟨(show SE G 64 79 (.inl (i_get [7] 13 82)) from s_get (idx := 41) (kk := 13) hK (by decide +kernel) (inW 430 (by decide +kernel) (by decide +kernel)) fo_M_regTag),
  List.forall_mem_cons.mpr ⟨(show SE G 64 82 (.inl (i_il 2 83)) from s_iload_n (j := 2) (by decide +kernel)),
  List.forall_mem_cons.mpr ⟨(show SE G 64 83 (.inl (i_ld [20, 30] 84)) from s_iald hK (by decide +kernel)),
  List.forall_mem_cons.mpr ⟨(show SE G 64 84 (.inl (i_ist 85)) from s_iast hK (by decide +kernel)),
  List.forall_mem_cons.mpr ⟨(show SE G 64 85 (.inl (i_al 0 86)) from s_aload_n (j := 0) (by decide +kernel)),
  List.forall_mem_cons.mpr ⟨(show SE G 64 86 (.inl (i_dup 87)) from s_dup (by decide +kernel)),
  List.forall_mem_cons.mpr ⟨(show SE G 64 87 (.inl (i_get [7] 14 90)) from s_get (idx := 98) (kk := 14) hK (by decide +kernel) (inW 431 (by decide +kernel) (by decide +kernel)) fo_M_waits),
  List.forall_mem_cons.mpr ⟨(show SE G 64 90 (.inl (i_c 1 91)) from s_iconst (e := 1) (by decide +kernel) (by decide)),
  List.forall_mem_cons.mpr ⟨(show SE G 64 91 (.inl (i_bin (fun a b => a + b) 92)) from s_iadd (by decide +kernel)),
  List.forall_mem_cons.mpr ⟨(show SE G 64 92 (.inl (i_put [7] 14 0 95)) from s_put (idx := 98) (kk := 14) (ty := 0) hK (by decide +kernel) (inW 431 (by decide +kernel) (by decide +kernel)) fo_M_waits po_64_M_waits),
  List.forall_mem_cons.mpr ⟨(show SE G 64 95 (.inl (i_ii 2 1 98)) from s_iinc (j := 2) (n := 1) (by decide +kernel) (by decide)),
  List.forall_mem_cons.mpr ⟨(show SE G 64 98 (.inl (i_go 4)) from s_goto (tg := 4) (off := -94) (by decide +kernel) (by decide)),
  List.forall_mem_cons.mpr ⟨(show SE G 64 101 (.inl (i_al 0 102)) from s_aload_n (j := 0) (by decide +kernel)),
  fun _ h => absurd h List.not_mem_nil⟩⟩⟩⟩⟩⟩⟩⟩⟩⟩⟩⟩⟩⟩⟩⟩⟩⟩⟩⟩⟩⟩⟩⟩⟩⟩⟩⟩⟩⟩
set_option maxRecDepth 20000 in
theorem ok_l_64_2 (hK : K0 G) : ∀ q ∈ l_64_2, SE G 64 q.1 q.2 :=
  List.forall_mem_cons.mpr ⟨(show SE G 64 102 (.inl (i_il 1 103)) from s_iload_n (j := 1) (by decide +kernel)),
  List.forall_mem_cons.mpr ⟨(show SE G 64 103 (.inl (i_put [7] 11 0 106)) from s_put (idx := 95) (kk := 11) (ty := 0) hK (by decide +kernel) (inW 428 (by decide +kernel) (by decide +kernel)) fo_M_registered po_64_M_registered),
  List.forall_mem_cons.mpr ⟨(show SE G 64 106 (.inr (.inr 3)) from ⟨(by decide +kernel), rfl⟩),
  fun _ h => absurd h List.not_mem_nil⟩⟩⟩
theorem ok_l_64 (hK : K0 G) : ∀ q ∈ l_64, SE G 64 q.1 q.2 := by
  show ∀ q ∈ l_64_0 ++ (l_64_1 ++ (l_64_2)), SE G 64 q.1 q.2
  exact List.forall_mem_append.mpr ⟨ok_l_64_0 hK, List.forall_mem_append.mpr ⟨ok_l_64_1 hK, ok_l_64_2 hK⟩⟩
end OK4
end
section
/-! each method's instructions are sound (by program) -/
section OK5
variable {G : MG}
set_option maxRecDepth 20000 in
theorem ok_l_65_0 (hK : K0 G) : ∀ q ∈ l_65_0, SE G 65 q.1 q.2 :=
  List.forall_mem_cons.mpr ⟨(show SE G 65 0 (.inl (i_c 0 1)) from s_iconst (e := 0) (by decide +kernel) (by decide)),
  List.forall_mem_cons.mpr ⟨(show SE G 65 1 (.inl (i_is 1 2)) from s_istore_n (j := 1) (by decide +kernel) (by decide)),
  List.forall_mem_cons.mpr ⟨(show SE G 65 2 (.inl (i_c 0 3)) from s_iconst (e := 0) (by decide +kernel) (by decide)),
  List.forall_mem_cons.mpr ⟨(show SE G 65 3 (.inl (i_is 2 4)) from s_istore_n (j := 2) (by decide +kernel) (by decide)),
  List.forall_mem_cons.mpr ⟨(show SE G 65 4 (.inl (i_il 2 5)) from s_iload_n (j := 2) (by decide +kernel)),
  List.forall_mem_cons.mpr ⟨(show SE G 65 5 (.inl (i_al 0 6)) from s_aload_n (j := 0) (by decide +kernel)),
  List.forall_mem_cons.mpr ⟨(show SE G 65 6 (.inl (i_get [7] 2 9)) from s_get (idx := 50) (kk := 2) hK (by decide +kernel) (inW 419 (by decide +kernel) (by decide +kernel)) fo_M_objects),
  List.forall_mem_cons.mpr ⟨(show SE G 65 9 (.inl (i_cmp 3 139 12)) from s_icmp_ge (tg := 139) (off := 130) (by decide +kernel) (by decide)),
  List.forall_mem_cons.mpr ⟨(show SE G 65 12 (.inl (i_al 0 13)) from s_aload_n (j := 0) (by decide +kernel)),
  List.forall_mem_cons.mpr ⟨(show SE G 65 13 (.inl (i_get [7] 10 16)) from s_get (idx := 34) (kk := 10) hK (by decide +kernel) (inW 427 (by decide +kernel) (by decide +kernel)) fo_M_mark),
  List.forall_mem_cons.mpr ⟨(show SE G 65 16 (.inl (i_il 2 17)) from s_iload_n (j := 2) (by decide +kernel)),
  List.forall_mem_cons.mpr ⟨(show SE G 65 17 (.inl (i_ld [21] 18)) from s_zald hK (by decide +kernel)),
  List.forall_mem_cons.mpr ⟨(show SE G 65 18 (.inl (i_z 0 133 21)) from s_if_eq (tg := 133) (off := 115) (by decide +kernel) (by decide)),
  List.forall_mem_cons.mpr ⟨(show SE G 65 21 (.inl (i_al 0 22)) from s_aload_n (j := 0) (by decide +kernel)),
  List.forall_mem_cons.mpr ⟨(show SE G 65 22 (.inl (i_get [7] 4 25)) from s_get (idx := 16) (kk := 4) hK (by decide +kernel) (inW 421 (by decide +kernel) (by decide +kernel)) fo_M_name),
  List.forall_mem_cons.mpr ⟨(show SE G 65 25 (.inl (i_il 1 26)) from s_iload_n (j := 1) (by decide +kernel)),
  List.forall_mem_cons.mpr ⟨(show SE G 65 26 (.inl (i_al 0 27)) from s_aload_n (j := 0) (by decide +kernel)),
  List.forall_mem_cons.mpr ⟨(show SE G 65 27 (.inl (i_get [7] 4 30)) from s_get (idx := 16) (kk := 4) hK (by decide +kernel) (inW 421 (by decide +kernel) (by decide +kernel)) fo_M_name),
  List.forall_mem_cons.mpr ⟨(show SE G 65 30 (.inl (i_il 2 31)) from s_iload_n (j := 2) (by decide +kernel)),
  List.forall_mem_cons.mpr ⟨(show SE G 65 31 (.inl (i_ld [20, 30] 32)) from s_iald hK (by decide +kernel)),
  List.forall_mem_cons.mpr ⟨(show SE G 65 32 (.inl (i_ist 33)) from s_iast hK (by decide +kernel)),
  List.forall_mem_cons.mpr ⟨(show SE G 65 33 (.inl (i_al 0 34)) from s_aload_n (j := 0) (by decide +kernel)),
  List.forall_mem_cons.mpr ⟨(show SE G 65 34 (.inl (i_get [7] 5 37)) from s_get (idx := 19) (kk := 5) hK (by decide +kernel) (inW 422 (by decide +kernel) (by decide +kernel)) fo_M_sort),
  List.forall_mem_cons.mpr ⟨(show SE G 65 37 (.inl (i_il 1 38)) from s_iload_n (j := 1) (by decide +kernel)),
  List.forall_mem_cons.mpr ⟨(show SE G 65 38 (.inl (i_al 0 39)) from s_aload_n (j := 0) (by decide +kernel)),
  List.forall_mem_cons.mpr ⟨(show SE G 65 39 (.inl (i_get [7] 5 42)) from s_get (idx := 19) (kk := 5) hK (by decide +kernel) (inW 422 (by decide +kernel) (by decide +kernel)) fo_M_sort),
  List.forall_mem_cons.mpr ⟨(show SE G 65 42 (.inl (i_il 2 43)) from s_iload_n (j := 2) (by decide +kernel)),
  List.forall_mem_cons.mpr ⟨(show SE G 65 43 (.inl (i_ld [20, 30] 44)) from s_iald hK (by decide +kernel)),
  List.forall_mem_cons.mpr ⟨(show SE G 65 44 (.inl (i_ist 45)) from s_iast hK (by decide +kernel)),
  List.forall_mem_cons.mpr ⟨(show SE G 65 45 (.inl (i_al 0 46)) from s_aload_n (j := 0) (by decide +kernel)),
  fun _ h => absurd h List.not_mem_nil⟩⟩⟩⟩⟩⟩⟩⟩⟩⟩⟩⟩⟩⟩⟩⟩⟩⟩⟩⟩⟩⟩⟩⟩⟩⟩⟩⟩⟩⟩
set_option maxRecDepth 20000 in
theorem ok_l_65_1 (hK : K0 G) : ∀ q ∈ l_65_1, SE G 65 q.1 q.2 :=
  List.forall_mem_cons.mpr ⟨(show SE G 65 46 (.inl (i_get [7] 6 49)) from s_get (idx := 22) (kk := 6) hK (by decide +kernel) (inW 423 (by decide +kernel) (by decide +kernel)) fo_M_many),
  List.forall_mem_cons.mpr ⟨(show SE G 65 49 (.inl (i_il 1 50)) from s_iload_n (j := 1) (by decide +kernel)),
  List.forall_mem_cons.mpr ⟨(show SE G 65 50 (.inl (i_al 0 51)) from s_aload_n (j := 0) (by decide +kernel)),
  List.forall_mem_cons.mpr ⟨(show SE G 65 51 (.inl (i_get [7] 6 54)) from s_get (idx := 22) (kk := 6) hK (by decide +kernel) (inW 423 (by decide +kernel) (by decide +kernel)) fo_M_many),
  List.forall_mem_cons.mpr ⟨(show SE G 65 54 (.inl (i_il 2 55)) from s_iload_n (j := 2) (by decide +kernel)),
  List.forall_mem_cons.mpr ⟨(show SE G 65 55 (.inl (i_ld [20, 30] 56)) from s_iald hK (by decide +kernel)),
  List.forall_mem_cons.mpr ⟨(show SE G 65 56 (.inl (i_ist 57)) from s_iast hK (by decide +kernel)),
  List.forall_mem_cons.mpr ⟨(show SE G 65 57 (.inl (i_c 0 58)) from s_iconst (e := 0) (by decide +kernel) (by decide)),
  List.forall_mem_cons.mpr ⟨(show SE G 65 58 (.inl (i_is 3 59)) from s_istore_n (j := 3) (by decide +kernel) (by decide)),
  List.forall_mem_cons.mpr ⟨(show SE G 65 59 (.inl (i_il 3 60)) from s_iload_n (j := 3) (by decide +kernel)),
  List.forall_mem_cons.mpr ⟨(show SE G 65 60 (.inl (i_c 4 61)) from s_iconst (e := 4) (by decide +kernel) (by decide)),
  List.forall_mem_cons.mpr ⟨(show SE G 65 61 (.inl (i_cmp 3 130 64)) from s_icmp_ge (tg := 130) (off := 69) (by decide +kernel) (by decide)),
  List.forall_mem_cons.mpr ⟨(show SE G 65 64 (.inl (i_al 0 65)) from s_aload_n (j := 0) (by decide +kernel)),
  List.forall_mem_cons.mpr ⟨(show SE G 65 65 (.inl (i_get [7] 7 68)) from s_get (idx := 25) (kk := 7) hK (by decide +kernel) (inW 424 (by decide +kernel) (by decide +kernel)) fo_M_is),
  List.forall_mem_cons.mpr ⟨(show SE G 65 68 (.inl (i_c 4 69)) from s_iconst (e := 4) (by decide +kernel) (by decide)),
  List.forall_mem_cons.mpr ⟨(show SE G 65 69 (.inl (i_il 1 70)) from s_iload_n (j := 1) (by decide +kernel)),
  List.forall_mem_cons.mpr ⟨(show SE G 65 70 (.inl (i_bin (fun a b => a * b) 71)) from s_imul (by decide +kernel)),
  List.forall_mem_cons.mpr ⟨(show SE G 65 71 (.inl (i_il 3 72)) from s_iload_n (j := 3) (by decide +kernel)),
  List.forall_mem_cons.mpr ⟨(show SE G 65 72 (.inl (i_bin (fun a b => a + b) 73)) from s_iadd (by decide +kernel)),
  List.forall_mem_cons.mpr ⟨(show SE G 65 73 (.inl (i_al 0 74)) from s_aload_n (j := 0) (by decide +kernel)),
  List.forall_mem_cons.mpr ⟨(show SE G 65 74 (.inl (i_get [7] 7 77)) from s_get (idx := 25) (kk := 7) hK (by decide +kernel) (inW 424 (by decide +kernel) (by decide +kernel)) fo_M_is),
  List.forall_mem_cons.mpr ⟨(show SE G 65 77 (.inl (i_c 4 78)) from s_iconst (e := 4) (by decide +kernel) (by decide)),
  List.forall_mem_cons.mpr ⟨(show SE G 65 78 (.inl (i_il 2 79)) from s_iload_n (j := 2) (by decide +kernel)),
  List.forall_mem_cons.mpr ⟨(show SE G 65 79 (.inl (i_bin (fun a b => a * b) 80)) from s_imul (by decide +kernel)),
  List.forall_mem_cons.mpr ⟨(show SE G 65 80 (.inl (i_il 3 81)) from s_iload_n (j := 3) (by decide +kernel)),
  List.forall_mem_cons.mpr ⟨(show SE G 65 81 (.inl (i_bin (fun a b => a + b) 82)) from s_iadd (by decide +kernel)),
  List.forall_mem_cons.mpr ⟨(show SE G 65 82 (.inl (i_ld [20, 30] 83)) from s_iald hK (by decide +kernel)),
  List.forall_mem_cons.mpr ⟨(show SE G 65 83 (.inl (i_ist 84)) from s_iast hK (by decide +kernel)),
  List.forall_mem_cons.mpr ⟨(show SE G 65 84 (.inl (i_al 0 85)) from s_aload_n (j := 0) (by decide +kernel)),
  List.forall_mem_cons.mpr ⟨(show SE G 65 85 (.inl (i_get [7] 8 88)) from s_get (idx := 28) (kk := 8) hK (by decide +kernel) (inW 425 (by decide +kernel) (by decide +kernel)) fo_M_has),
  fun _ h => absurd h List.not_mem_nil⟩⟩⟩⟩⟩⟩⟩⟩⟩⟩⟩⟩⟩⟩⟩⟩⟩⟩⟩⟩⟩⟩⟩⟩⟩⟩⟩⟩⟩⟩
set_option maxRecDepth 20000 in
theorem ok_l_65_2 (hK : K0 G) : ∀ q ∈ l_65_2, SE G 65 q.1 q.2 :=
  List.forall_mem_cons.mpr ⟨(show SE G 65 88 (.inl (i_c 4 89)) from s_iconst (e := 4) (by decide +kernel) (by decide)),
  List.forall_mem_cons.mpr ⟨(show SE G 65 89 (.inl (i_il 1 90)) from s_iload_n (j := 1) (by decide +kernel)),
  List.forall_mem_cons.mpr ⟨(show SE G 65 90 (.inl (i_bin (fun a b => a * b) 91)) from s_imul (by decide +kernel)),
  List.forall_mem_cons.mpr ⟨(show SE G 65 91 (.inl (i_il 3 92)) from s_iload_n (j := 3) (by decide +kernel)),
  List.forall_mem_cons.mpr ⟨(show SE G 65 92 (.inl (i_bin (fun a b => a + b) 93)) from s_iadd (by decide +kernel)),
  List.forall_mem_cons.mpr ⟨(show SE G 65 93 (.inl (i_al 0 94)) from s_aload_n (j := 0) (by decide +kernel)),
  List.forall_mem_cons.mpr ⟨(show SE G 65 94 (.inl (i_get [7] 8 97)) from s_get (idx := 28) (kk := 8) hK (by decide +kernel) (inW 425 (by decide +kernel) (by decide +kernel)) fo_M_has),
  List.forall_mem_cons.mpr ⟨(show SE G 65 97 (.inl (i_c 4 98)) from s_iconst (e := 4) (by decide +kernel) (by decide)),
  List.forall_mem_cons.mpr ⟨(show SE G 65 98 (.inl (i_il 2 99)) from s_iload_n (j := 2) (by decide +kernel)),
  List.forall_mem_cons.mpr ⟨(show SE G 65 99 (.inl (i_bin (fun a b => a * b) 100)) from s_imul (by decide +kernel)),
  List.forall_mem_cons.mpr ⟨(show SE G 65 100 (.inl (i_il 3 101)) from s_iload_n (j := 3) (by decide +kernel)),
  List.forall_mem_cons.mpr ⟨(show SE G 65 101 (.inl (i_bin (fun a b => a + b) 102)) from s_iadd (by decide +kernel)),
  List.forall_mem_cons.mpr ⟨(show SE G 65 102 (.inl (i_ld [20, 30] 103)) from s_iald hK (by decide +kernel)),
  List.forall_mem_cons.mpr ⟨(show SE G 65 103 (.inl (i_ist 104)) from s_iast hK (by decide +kernel)),
  List.forall_mem_cons.mpr ⟨(show SE G 65 104 (.inl (i_al 0 105)) from s_aload_n (j := 0) (by decide +kernel)),
  List.forall_mem_cons.mpr ⟨(show SE G 65 105 (.inl (i_get [7] 9 108)) from s_get (idx := 31) (kk := 9) hK (by decide +kernel) (inW 426 (by decide +kernel) (by decide +kernel)) fo_M_keys),
  List.forall_mem_cons.mpr ⟨(show SE G 65 108 (.inl (i_c 4 109)) from s_iconst (e := 4) (by decide +kernel) (by decide)),
  List.forall_mem_cons.mpr ⟨(show SE G 65 109 (.inl (i_il 1 110)) from s_iload_n (j := 1) (by decide +kernel)),
  List.forall_mem_cons.mpr ⟨(show SE G 65 110 (.inl (i_bin (fun a b => a * b) 111)) from s_imul (by decide +kernel)),
  List.forall_mem_cons.mpr ⟨(show SE G 65 111 (.inl (i_il 3 112)) from s_iload_n (j := 3) (by decide +kernel)),
  List.forall_mem_cons.mpr ⟨(show SE G 65 112 (.inl (i_bin (fun a b => a + b) 113)) from s_iadd (by decide +kernel)),
  List.forall_mem_cons.mpr ⟨(show SE G 65 113 (.inl (i_al 0 114)) from s_aload_n (j := 0) (by decide +kernel)),
  List.forall_mem_cons.mpr ⟨(show SE G 65 114 (.inl (i_get [7] 9 117)) from s_get (idx := 31) (kk := 9) hK (by decide +kernel) (inW 426 (by decide +kernel) (by decide +kernel)) fo_M_keys),
  List.forall_mem_cons.mpr ⟨(show SE G 65 117 (.inl (i_c 4 118)) from s_iconst (e := 4) (by decide +kernel) (by decide)),
  List.forall_mem_cons.mpr ⟨(show SE G 65 118 (.inl (i_il 2 119)) from s_iload_n (j := 2) (by decide +kernel)),
  List.forall_mem_cons.mpr ⟨(show SE G 65 119 (.inl (i_bin (fun a b => a * b) 120)) from s_imul (by decide +kernel)),
  List.forall_mem_cons.mpr ⟨(show SE G 65 120 (.inl (i_il 3 121)) from s_iload_n (j := 3) (by decide +kernel)),
  List.forall_mem_cons.mpr ⟨(show SE G 65 121 (.inl (i_bin (fun a b => a + b) 122)) from s_iadd (by decide +kernel)),
  List.forall_mem_cons.mpr ⟨(show SE G 65 122 (.inl (i_ld [20, 30] 123)) from s_iald hK (by decide +kernel)),
  List.forall_mem_cons.mpr ⟨(show SE G 65 123 (.inl (i_ist 124)) from s_iast hK (by decide +kernel)),
  fun _ h => absurd h List.not_mem_nil⟩⟩⟩⟩⟩⟩⟩⟩⟩⟩⟩⟩⟩⟩⟩⟩⟩⟩⟩⟩⟩⟩⟩⟩⟩⟩⟩⟩⟩⟩
set_option maxRecDepth 20000 in
theorem ok_l_65_3 (hK : K0 G) : ∀ q ∈ l_65_3, SE G 65 q.1 q.2 :=
  List.forall_mem_cons.mpr ⟨(show SE G 65 124 (.inl (i_ii 3 1 127)) from s_iinc (j := 3) (n := 1) (by decide +kernel) (by decide)),
  List.forall_mem_cons.mpr ⟨(show SE G 65 127 (.inl (i_go 59)) from s_goto (tg := 59) (off := -68) (by decide +kernel) (by decide)),
  List.forall_mem_cons.mpr ⟨(show SE G 65 130 (.inl (i_ii 1 1 133)) from s_iinc (j := 1) (n := 1) (by decide +kernel) (by decide)),
  List.forall_mem_cons.mpr ⟨(show SE G 65 133 (.inl (i_ii 2 1 136)) from s_iinc (j := 2) (n := 1) (by decide +kernel) (by decide)),
  List.forall_mem_cons.mpr ⟨(show SE G 65 136 (.inl (i_go 4)) from s_goto (tg := 4) (off := -132) (by decide +kernel) (by decide)),
  List.forall_mem_cons.mpr ⟨(show SE G 65 139 (.inl (i_al 0 140)) from s_aload_n (j := 0) (by decide +kernel)),
  List.forall_mem_cons.mpr ⟨(show SE G 65 140 (.inl (i_get [7] 2 143)) from s_get (idx := 50) (kk := 2) hK (by decide +kernel) (inW 419 (by decide +kernel) (by decide +kernel)) fo_M_objects),
  List.forall_mem_cons.mpr ⟨(show SE G 65 143 (.inl (i_il 1 144)) from s_iload_n (j := 1) (by decide +kernel)),
  List.forall_mem_cons.mpr ⟨(show SE G 65 144 (.inl (i_bin (fun a b => a - b) 145)) from s_isub (by decide +kernel)),
  List.forall_mem_cons.mpr ⟨(show SE G 65 145 (.inl (i_is 2 146)) from s_istore_n (j := 2) (by decide +kernel) (by decide)),
  List.forall_mem_cons.mpr ⟨(show SE G 65 146 (.inl (i_al 0 147)) from s_aload_n (j := 0) (by decide +kernel)),
  List.forall_mem_cons.mpr ⟨(show SE G 65 147 (.inl (i_il 1 148)) from s_iload_n (j := 1) (by decide +kernel)),
  List.forall_mem_cons.mpr ⟨(show SE G 65 148 (.inl (i_put [7] 2 0 151)) from s_put (idx := 50) (kk := 2) (ty := 0) hK (by decide +kernel) (inW 419 (by decide +kernel) (by decide +kernel)) fo_M_objects po_65_M_objects),
  List.forall_mem_cons.mpr ⟨(show SE G 65 151 (.inl (i_il 2 152)) from s_iload_n (j := 2) (by decide +kernel)),
  List.forall_mem_cons.mpr ⟨(show SE G 65 152 (.inr (.inr 0)) from ⟨(by decide +kernel), rfl⟩),
  fun _ h => absurd h List.not_mem_nil⟩⟩⟩⟩⟩⟩⟩⟩⟩⟩⟩⟩⟩⟩⟩
theorem ok_l_65 (hK : K0 G) : ∀ q ∈ l_65, SE G 65 q.1 q.2 := by
  show ∀ q ∈ l_65_0 ++ (l_65_1 ++ (l_65_2 ++ (l_65_3))), SE G 65 q.1 q.2
  exact List.forall_mem_append.mpr ⟨ok_l_65_0 hK, List.forall_mem_append.mpr ⟨ok_l_65_1 hK, List.forall_mem_append.mpr ⟨ok_l_65_2 hK, ok_l_65_3 hK⟩⟩⟩
set_option maxRecDepth 20000 in
theorem ok_l_66_0 (hK : K0 G) : ∀ q ∈ l_66_0, SE G 66 q.1 q.2 :=
  List.forall_mem_cons.mpr ⟨(show SE G 66 0 (.inl (i_al 0 1)) from s_aload_n (j := 0) (by decide +kernel)),
  List.forall_mem_cons.mpr ⟨(show SE G 66 1 (.inl (i_dup 2)) from s_dup (by decide +kernel)),
  List.forall_mem_cons.mpr ⟨(show SE G 66 2 (.inl (i_get [7] 17 5)) from s_get (idx := 114) (kk := 17) hK (by decide +kernel) (inW 434 (by decide +kernel) (by decide +kernel)) fo_M_runs),
  List.forall_mem_cons.mpr ⟨(show SE G 66 5 (.inl (i_c 1 6)) from s_iconst (e := 1) (by decide +kernel) (by decide)),
  List.forall_mem_cons.mpr ⟨(show SE G 66 6 (.inl (i_bin (fun a b => a + b) 7)) from s_iadd (by decide +kernel)),
  List.forall_mem_cons.mpr ⟨(show SE G 66 7 (.inl (i_put [7] 17 0 10)) from s_put (idx := 114) (kk := 17) (ty := 0) hK (by decide +kernel) (inW 434 (by decide +kernel) (by decide +kernel)) fo_M_runs po_66_M_runs),
  List.forall_mem_cons.mpr ⟨(show SE G 66 10 (.inl (i_c 0 11)) from s_iconst (e := 0) (by decide +kernel) (by decide)),
  List.forall_mem_cons.mpr ⟨(show SE G 66 11 (.inl (i_is 1 12)) from s_istore_n (j := 1) (by decide +kernel) (by decide)),
  List.forall_mem_cons.mpr ⟨(show SE G 66 12 (.inl (i_il 1 13)) from s_iload_n (j := 1) (by decide +kernel)),
  List.forall_mem_cons.mpr ⟨(show SE G 66 13 (.inl (i_al 0 14)) from s_aload_n (j := 0) (by decide +kernel)),
  List.forall_mem_cons.mpr ⟨(show SE G 66 14 (.inl (i_get [7] 2 17)) from s_get (idx := 50) (kk := 2) hK (by decide +kernel) (inW 419 (by decide +kernel) (by decide +kernel)) fo_M_objects),
  List.forall_mem_cons.mpr ⟨(show SE G 66 17 (.inl (i_cmp 3 33 20)) from s_icmp_ge (tg := 33) (off := 16) (by decide +kernel) (by decide)),
  List.forall_mem_cons.mpr ⟨(show SE G 66 20 (.inl (i_al 0 21)) from s_aload_n (j := 0) (by decide +kernel)),
  List.forall_mem_cons.mpr ⟨(show SE G 66 21 (.inl (i_get [7] 10 24)) from s_get (idx := 34) (kk := 10) hK (by decide +kernel) (inW 427 (by decide +kernel) (by decide +kernel)) fo_M_mark),
  List.forall_mem_cons.mpr ⟨(show SE G 66 24 (.inl (i_il 1 25)) from s_iload_n (j := 1) (by decide +kernel)),
  List.forall_mem_cons.mpr ⟨(show SE G 66 25 (.inl (i_c 0 26)) from s_iconst (e := 0) (by decide +kernel) (by decide)),
  List.forall_mem_cons.mpr ⟨(show SE G 66 26 (.inl (i_zst 27)) from s_zast hK (by decide +kernel)),
  List.forall_mem_cons.mpr ⟨(show SE G 66 27 (.inl (i_ii 1 1 30)) from s_iinc (j := 1) (n := 1) (by decide +kernel) (by decide)),
  List.forall_mem_cons.mpr ⟨(show SE G 66 30 (.inl (i_go 12)) from s_goto (tg := 12) (off := -18) (by decide +kernel) (by decide)),
  List.forall_mem_cons.mpr ⟨(show SE G 66 33 (.inl (i_al 0 34)) from s_aload_n (j := 0) (by decide +kernel)),
  List.forall_mem_cons.mpr ⟨(show SE G 66 34 (.inr (.inl (false, 1, [(7, 59)], 37))) from ⟨c_virt (idx := 117) (n := 0) hK (by decide +kernel) (List.forall_mem_cons.mpr ⟨⟨ko_59, inW 511 (by decide +kernel) (by decide +kernel), inW 513 (by decide +kernel) (by decide +kernel), 6, _, rfl, by decide, rfl, inW 17 (by decide +kernel) (by decide +kernel)⟩, fun _ h => absurd h List.not_mem_nil⟩), (List.forall_mem_cons.mpr ⟨⟨mo_59, by decide⟩, fun _ h => absurd h List.not_mem_nil⟩)⟩),
  List.forall_mem_cons.mpr ⟨(show SE G 66 37 (.inl (i_al 0 38)) from s_aload_n (j := 0) (by decide +kernel)),
  List.forall_mem_cons.mpr ⟨(show SE G 66 38 (.inl (i_c 0 39)) from s_iconst (e := 0) (by decide +kernel) (by decide)),
  List.forall_mem_cons.mpr ⟨(show SE G 66 39 (.inr (.inl (false, 2, [(7, 62)], 42))) from ⟨c_virt (idx := 120) (n := 1) hK (by decide +kernel) (List.forall_mem_cons.mpr ⟨⟨ko_62, inW 527 (by decide +kernel) (by decide +kernel), inW 529 (by decide +kernel) (by decide +kernel), 6, _, rfl, by decide, rfl, inW 21 (by decide +kernel) (by decide +kernel)⟩, fun _ h => absurd h List.not_mem_nil⟩), (List.forall_mem_cons.mpr ⟨⟨mo_62, by decide⟩, fun _ h => absurd h List.not_mem_nil⟩)⟩),
  List.forall_mem_cons.mpr ⟨(show SE G 66 42 (.inl (i_al 0 43)) from s_aload_n (j := 0) (by decide +kernel)),
  List.forall_mem_cons.mpr ⟨(show SE G 66 43 (.inr (.inl (false, 1, [(7, 63)], 46))) from ⟨c_virt (idx := 124) (n := 0) hK (by decide +kernel) (List.forall_mem_cons.mpr ⟨⟨ko_63, inW 539 (by decide +kernel) (by decide +kernel), inW 541 (by decide +kernel) (by decide +kernel), 6, _, rfl, by decide, rfl, inW 24 (by decide +kernel) (by decide +kernel)⟩, fun _ h => absurd h List.not_mem_nil⟩), (List.forall_mem_cons.mpr ⟨⟨mo_63, by decide⟩, fun _ h => absurd h List.not_mem_nil⟩)⟩),
  List.forall_mem_cons.mpr ⟨(show SE G 66 46 (.inl (i_al 0 47)) from s_aload_n (j := 0) (by decide +kernel)),
  List.forall_mem_cons.mpr ⟨(show SE G 66 47 (.inr (.inl (false, 1, [(7, 64)], 50))) from ⟨c_virt (idx := 127) (n := 0) hK (by decide +kernel) (List.forall_mem_cons.mpr ⟨⟨ko_64, inW 543 (by decide +kernel) (by decide +kernel), inW 545 (by decide +kernel) (by decide +kernel), 6, _, rfl, by decide, rfl, inW 25 (by decide +kernel) (by decide +kernel)⟩, fun _ h => absurd h List.not_mem_nil⟩), (List.forall_mem_cons.mpr ⟨⟨mo_64, by decide⟩, fun _ h => absurd h List.not_mem_nil⟩)⟩),
  List.forall_mem_cons.mpr ⟨(show SE G 66 50 (.inl (i_al 0 51)) from s_aload_n (j := 0) (by decide +kernel)),
  List.forall_mem_cons.mpr ⟨(show SE G 66 51 (.inr (.inl (false, 1, [(7, 60)], 54))) from ⟨c_virt (idx := 104) (n := 0) hK (by decide +kernel) (List.forall_mem_cons.mpr ⟨⟨ko_60, inW 523 (by decide +kernel) (by decide +kernel), inW 525 (by decide +kernel) (by decide +kernel), 6, _, rfl, by decide, rfl, inW 20 (by decide +kernel) (by decide +kernel)⟩, fun _ h => absurd h List.not_mem_nil⟩), (List.forall_mem_cons.mpr ⟨⟨mo_60, by decide⟩, fun _ h => absurd h List.not_mem_nil⟩)⟩),
  fun _ h => absurd h List.not_mem_nil⟩⟩⟩⟩⟩⟩⟩⟩⟩⟩⟩⟩⟩⟩⟩⟩⟩⟩⟩⟩⟩⟩⟩⟩⟩⟩⟩⟩⟩⟩
set_option maxRecDepth 20000 in
theorem ok_l_66_1 (hK : K0 G) : ∀ q ∈ l_66_1, SE G 66 q.1 q.2 :=
  List.forall_mem_cons.mpr ⟨(show SE G 66 54 (.inl (i_al 0 55)) from s_aload_n (j := 0) (by decide +kernel)),
  List.forall_mem_cons.mpr ⟨(show SE G 66 55 (.inl (i_c 1 56)) from s_iconst (e := 1) (by decide +kernel) (by decide)),
  List.forall_mem_cons.mpr ⟨(show SE G 66 56 (.inr (.inl (false, 2, [(7, 62)], 59))) from ⟨c_virt (idx := 120) (n := 1) hK (by decide +kernel) (List.forall_mem_cons.mpr ⟨⟨ko_62, inW 527 (by decide +kernel) (by decide +kernel), inW 529 (by decide +kernel) (by decide +kernel), 6, _, rfl, by decide, rfl, inW 21 (by decide +kernel) (by decide +kernel)⟩, fun _ h => absurd h List.not_mem_nil⟩), (List.forall_mem_cons.mpr ⟨⟨mo_62, by decide⟩, fun _ h => absurd h List.not_mem_nil⟩)⟩),
  List.forall_mem_cons.mpr ⟨(show SE G 66 59 (.inl (i_al 0 60)) from s_aload_n (j := 0) (by decide +kernel)),
  List.forall_mem_cons.mpr ⟨(show SE G 66 60 (.inr (.inl (false, 1, [(7, 65)], 63))) from ⟨c_virt (idx := 130) (n := 0) hK (by decide +kernel) (List.forall_mem_cons.mpr ⟨⟨ko_65, inW 547 (by decide +kernel) (by decide +kernel), inW 549 (by decide +kernel) (by decide +kernel), 6, _, rfl, by decide, rfl, inW 26 (by decide +kernel) (by decide +kernel)⟩, fun _ h => absurd h List.not_mem_nil⟩), (List.forall_mem_cons.mpr ⟨⟨mo_65, by decide⟩, fun _ h => absurd h List.not_mem_nil⟩)⟩),
  List.forall_mem_cons.mpr ⟨(show SE G 66 63 (.inr (.inr 0)) from ⟨(by decide +kernel), rfl⟩),
  fun _ h => absurd h List.not_mem_nil⟩⟩⟩⟩⟩⟩
theorem ok_l_66 (hK : K0 G) : ∀ q ∈ l_66, SE G 66 q.1 q.2 := by
  show ∀ q ∈ l_66_0 ++ (l_66_1), SE G 66 q.1 q.2
  exact List.forall_mem_append.mpr ⟨ok_l_66_0 hK, ok_l_66_1 hK⟩
set_option maxRecDepth 20000 in
theorem ok_l_67 (hK : K0 G) : ∀ q ∈ l_67, SE G 67 q.1 q.2 :=
  List.forall_mem_cons.mpr ⟨(show SE G 67 0 (.inl (i_il 1 1)) from s_iload_n (j := 1) (by decide +kernel)),
  List.forall_mem_cons.mpr ⟨(show SE G 67 1 (.inr (.inl (true, 1, [(0, 37)], 4))) from ⟨c_static (idx := 54) (n := 1) (k1 := 37) (by decide +kernel) ko_37 (inW 478 (by decide +kernel) (by decide +kernel)) (inW 479 (by decide +kernel) (by decide +kernel)), (List.forall_mem_cons.mpr ⟨⟨mo_37, by decide⟩, fun _ h => absurd h List.not_mem_nil⟩)⟩),
  List.forall_mem_cons.mpr ⟨(show SE G 67 4 (.inl (i_z 1 9 7)) from s_if_ne (tg := 9) (off := 5) (by decide +kernel) (by decide)),
  List.forall_mem_cons.mpr ⟨(show SE G 67 7 (.inl (i_c (-1) 8)) from s_iconst (e := (-1)) (by decide +kernel) (by decide)),
  List.forall_mem_cons.mpr ⟨(show SE G 67 8 (.inr (.inr 0)) from ⟨(by decide +kernel), rfl⟩),
  List.forall_mem_cons.mpr ⟨(show SE G 67 9 (.inl (i_al 0 10)) from s_aload_n (j := 0) (by decide +kernel)),
  List.forall_mem_cons.mpr ⟨(show SE G 67 10 (.inl (i_il 1 11)) from s_iload_n (j := 1) (by decide +kernel)),
  List.forall_mem_cons.mpr ⟨(show SE G 67 11 (.inr (.inl (false, 2, [(7, 39)], 14))) from ⟨c_virt (idx := 62) (n := 1) hK (by decide +kernel) (List.forall_mem_cons.mpr ⟨⟨ko_39, inW 555 (by decide +kernel) (by decide +kernel), inW 557 (by decide +kernel) (by decide +kernel), 6, _, rfl, by decide, rfl, inW 27 (by decide +kernel) (by decide +kernel)⟩, fun _ h => absurd h List.not_mem_nil⟩), (List.forall_mem_cons.mpr ⟨⟨mo_39, by decide⟩, fun _ h => absurd h List.not_mem_nil⟩)⟩),
  List.forall_mem_cons.mpr ⟨(show SE G 67 14 (.inl (i_is 2 15)) from s_istore_n (j := 2) (by decide +kernel) (by decide)),
  List.forall_mem_cons.mpr ⟨(show SE G 67 15 (.inl (i_il 2 16)) from s_iload_n (j := 2) (by decide +kernel)),
  List.forall_mem_cons.mpr ⟨(show SE G 67 16 (.inl (i_z 2 28 19)) from s_if_lt (tg := 28) (off := 12) (by decide +kernel) (by decide)),
  List.forall_mem_cons.mpr ⟨(show SE G 67 19 (.inl (i_al 0 20)) from s_aload_n (j := 0) (by decide +kernel)),
  List.forall_mem_cons.mpr ⟨(show SE G 67 20 (.inl (i_get [7] 5 23)) from s_get (idx := 19) (kk := 5) hK (by decide +kernel) (inW 422 (by decide +kernel) (by decide +kernel)) fo_M_sort),
  List.forall_mem_cons.mpr ⟨(show SE G 67 23 (.inl (i_il 2 24)) from s_iload_n (j := 2) (by decide +kernel)),
  List.forall_mem_cons.mpr ⟨(show SE G 67 24 (.inl (i_ld [20, 30] 25)) from s_iald hK (by decide +kernel)),
  List.forall_mem_cons.mpr ⟨(show SE G 67 25 (.inl (i_go 34)) from s_goto (tg := 34) (off := 9) (by decide +kernel) (by decide)),
  List.forall_mem_cons.mpr ⟨(show SE G 67 28 (.inl (i_al 0 29)) from s_aload_n (j := 0) (by decide +kernel)),
  List.forall_mem_cons.mpr ⟨(show SE G 67 29 (.inl (i_get [7] 0 32)) from s_get (idx := 7) (kk := 0) hK (by decide +kernel) (inW 417 (by decide +kernel) (by decide +kernel)) fo_M_varIs),
  List.forall_mem_cons.mpr ⟨(show SE G 67 32 (.inl (i_il 1 33)) from s_iload_n (j := 1) (by decide +kernel)),
  List.forall_mem_cons.mpr ⟨(show SE G 67 33 (.inl (i_ld [20, 30] 34)) from s_iald hK (by decide +kernel)),
  List.forall_mem_cons.mpr ⟨(show SE G 67 34 (.inr (.inr 0)) from ⟨(by decide +kernel), rfl⟩),
  fun _ h => absurd h List.not_mem_nil⟩⟩⟩⟩⟩⟩⟩⟩⟩⟩⟩⟩⟩⟩⟩⟩⟩⟩⟩⟩⟩
set_option maxRecDepth 20000 in
theorem ok_l_68 (hK : K0 G) : ∀ q ∈ l_68, SE G 68 q.1 q.2 :=
  List.forall_mem_cons.mpr ⟨(show SE G 68 0 (.inl (i_il 1 1)) from s_iload_n (j := 1) (by decide +kernel)),
  List.forall_mem_cons.mpr ⟨(show SE G 68 1 (.inr (.inl (true, 1, [(0, 37)], 4))) from ⟨c_static (idx := 54) (n := 1) (k1 := 37) (by decide +kernel) ko_37 (inW 478 (by decide +kernel) (by decide +kernel)) (inW 479 (by decide +kernel) (by decide +kernel)), (List.forall_mem_cons.mpr ⟨⟨mo_37, by decide⟩, fun _ h => absurd h List.not_mem_nil⟩)⟩),
  List.forall_mem_cons.mpr ⟨(show SE G 68 4 (.inl (i_z 0 26 7)) from s_if_eq (tg := 26) (off := 22) (by decide +kernel) (by decide)),
  List.forall_mem_cons.mpr ⟨(show SE G 68 7 (.inl (i_al 0 8)) from s_aload_n (j := 0) (by decide +kernel)),
  List.forall_mem_cons.mpr ⟨(show SE G 68 8 (.inl (i_get [7] 0 11)) from s_get (idx := 7) (kk := 0) hK (by decide +kernel) (inW 417 (by decide +kernel) (by decide +kernel)) fo_M_varIs),
  List.forall_mem_cons.mpr ⟨(show SE G 68 11 (.inl (i_il 1 12)) from s_iload_n (j := 1) (by decide +kernel)),
  List.forall_mem_cons.mpr ⟨(show SE G 68 12 (.inl (i_ld [20, 30] 13)) from s_iald hK (by decide +kernel)),
  List.forall_mem_cons.mpr ⟨(show SE G 68 13 (.inl (i_c 1 14)) from s_iconst (e := 1) (by decide +kernel) (by decide)),
  List.forall_mem_cons.mpr ⟨(show SE G 68 14 (.inl (i_cmp 1 26 17)) from s_icmp_ne (tg := 26) (off := 12) (by decide +kernel) (by decide)),
  List.forall_mem_cons.mpr ⟨(show SE G 68 17 (.inl (i_al 0 18)) from s_aload_n (j := 0) (by decide +kernel)),
  List.forall_mem_cons.mpr ⟨(show SE G 68 18 (.inl (i_get [7] 1 21)) from s_get (idx := 13) (kk := 1) hK (by decide +kernel) (inW 418 (by decide +kernel) (by decide +kernel)) fo_M_varHas),
  List.forall_mem_cons.mpr ⟨(show SE G 68 21 (.inl (i_il 1 22)) from s_iload_n (j := 1) (by decide +kernel)),
  List.forall_mem_cons.mpr ⟨(show SE G 68 22 (.inl (i_ld [20, 30] 23)) from s_iald hK (by decide +kernel)),
  List.forall_mem_cons.mpr ⟨(show SE G 68 23 (.inl (i_go 27)) from s_goto (tg := 27) (off := 4) (by decide +kernel) (by decide)),
  List.forall_mem_cons.mpr ⟨(show SE G 68 26 (.inl (i_c 0 27)) from s_iconst (e := 0) (by decide +kernel) (by decide)),
  List.forall_mem_cons.mpr ⟨(show SE G 68 27 (.inr (.inr 0)) from ⟨(by decide +kernel), rfl⟩),
  fun _ h => absurd h List.not_mem_nil⟩⟩⟩⟩⟩⟩⟩⟩⟩⟩⟩⟩⟩⟩⟩⟩
set_option maxRecDepth 20000 in
theorem ok_l_69 (hK : K0 G) : ∀ q ∈ l_69, SE G 69 q.1 q.2 :=
  List.forall_mem_cons.mpr ⟨(show SE G 69 0 (.inl (i_al 0 1)) from s_aload_n (j := 0) (by decide +kernel)),
  List.forall_mem_cons.mpr ⟨(show SE G 69 1 (.inl (i_il 1 2)) from s_iload_n (j := 1) (by decide +kernel)),
  List.forall_mem_cons.mpr ⟨(show SE G 69 2 (.inr (.inl (false, 2, [(7, 39)], 5))) from ⟨c_virt (idx := 62) (n := 1) hK (by decide +kernel) (List.forall_mem_cons.mpr ⟨⟨ko_39, inW 555 (by decide +kernel) (by decide +kernel), inW 557 (by decide +kernel) (by decide +kernel), 6, _, rfl, by decide, rfl, inW 27 (by decide +kernel) (by decide +kernel)⟩, fun _ h => absurd h List.not_mem_nil⟩), (List.forall_mem_cons.mpr ⟨⟨mo_39, by decide⟩, fun _ h => absurd h List.not_mem_nil⟩)⟩),
  List.forall_mem_cons.mpr ⟨(show SE G 69 5 (.inl (i_z 2 17 8)) from s_if_lt (tg := 17) (off := 12) (by decide +kernel) (by decide)),
  List.forall_mem_cons.mpr ⟨(show SE G 69 8 (.inl (i_al 0 9)) from s_aload_n (j := 0) (by decide +kernel)),
  List.forall_mem_cons.mpr ⟨(show SE G 69 9 (.inl (i_get [7] 1 12)) from s_get (idx := 13) (kk := 1) hK (by decide +kernel) (inW 418 (by decide +kernel) (by decide +kernel)) fo_M_varHas),
  List.forall_mem_cons.mpr ⟨(show SE G 69 12 (.inl (i_il 1 13)) from s_iload_n (j := 1) (by decide +kernel)),
  List.forall_mem_cons.mpr ⟨(show SE G 69 13 (.inl (i_ld [20, 30] 14)) from s_iald hK (by decide +kernel)),
  List.forall_mem_cons.mpr ⟨(show SE G 69 14 (.inl (i_go 18)) from s_goto (tg := 18) (off := 4) (by decide +kernel) (by decide)),
  List.forall_mem_cons.mpr ⟨(show SE G 69 17 (.inl (i_c 0 18)) from s_iconst (e := 0) (by decide +kernel) (by decide)),
  List.forall_mem_cons.mpr ⟨(show SE G 69 18 (.inr (.inr 0)) from ⟨(by decide +kernel), rfl⟩),
  fun _ h => absurd h List.not_mem_nil⟩⟩⟩⟩⟩⟩⟩⟩⟩⟩⟩
set_option maxRecDepth 20000 in
theorem ok_l_70 (hK : K0 G) : ∀ q ∈ l_70, SE G 70 q.1 q.2 :=
  List.forall_mem_cons.mpr ⟨(show SE G 70 0 (.inl (i_al 0 1)) from s_aload_n (j := 0) (by decide +kernel)),
  List.forall_mem_cons.mpr ⟨(show SE G 70 1 (.inl (i_il 1 2)) from s_iload_n (j := 1) (by decide +kernel)),
  List.forall_mem_cons.mpr ⟨(show SE G 70 2 (.inr (.inl (false, 2, [(7, 39)], 5))) from ⟨c_virt (idx := 62) (n := 1) hK (by decide +kernel) (List.forall_mem_cons.mpr ⟨⟨ko_39, inW 555 (by decide +kernel) (by decide +kernel), inW 557 (by decide +kernel) (by decide +kernel), 6, _, rfl, by decide, rfl, inW 27 (by decide +kernel) (by decide +kernel)⟩, fun _ h => absurd h List.not_mem_nil⟩), (List.forall_mem_cons.mpr ⟨⟨mo_39, by decide⟩, fun _ h => absurd h List.not_mem_nil⟩)⟩),
  List.forall_mem_cons.mpr ⟨(show SE G 70 5 (.inl (i_is 2 6)) from s_istore_n (j := 2) (by decide +kernel) (by decide)),
  List.forall_mem_cons.mpr ⟨(show SE G 70 6 (.inl (i_il 2 7)) from s_iload_n (j := 2) (by decide +kernel)),
  List.forall_mem_cons.mpr ⟨(show SE G 70 7 (.inl (i_z 3 14 10)) from s_if_ge (tg := 14) (off := 7) (by decide +kernel) (by decide)),
  List.forall_mem_cons.mpr ⟨(show SE G 70 10 (.inl (i_c (-1) 11)) from s_iconst (e := (-1)) (by decide +kernel) (by decide)),
  List.forall_mem_cons.mpr ⟨(show SE G 70 11 (.inl (i_go 19)) from s_goto (tg := 19) (off := 8) (by decide +kernel) (by decide)),
  List.forall_mem_cons.mpr ⟨(show SE G 70 14 (.inl (i_al 0 15)) from s_aload_n (j := 0) (by decide +kernel)),
  List.forall_mem_cons.mpr ⟨(show SE G 70 15 (.inl (i_il 2 16)) from s_iload_n (j := 2) (by decide +kernel)),
  List.forall_mem_cons.mpr ⟨(show SE G 70 16 (.inr (.inl (false, 2, [(7, 45)], 19))) from ⟨c_virt (idx := 74) (n := 1) hK (by decide +kernel) (List.forall_mem_cons.mpr ⟨⟨ko_45, inW 499 (by decide +kernel) (by decide +kernel), inW 501 (by decide +kernel) (by decide +kernel), 6, _, rfl, by decide, rfl, inW 15 (by decide +kernel) (by decide +kernel)⟩, fun _ h => absurd h List.not_mem_nil⟩), (List.forall_mem_cons.mpr ⟨⟨mo_45, by decide⟩, fun _ h => absurd h List.not_mem_nil⟩)⟩),
  List.forall_mem_cons.mpr ⟨(show SE G 70 19 (.inr (.inr 0)) from ⟨(by decide +kernel), rfl⟩),
  fun _ h => absurd h List.not_mem_nil⟩⟩⟩⟩⟩⟩⟩⟩⟩⟩⟩⟩
set_option maxRecDepth 20000 in
theorem ok_l_71_0 (hK : K0 G) : ∀ q ∈ l_71_0, SE G 71 q.1 q.2 :=
  List.forall_mem_cons.mpr ⟨(show SE G 71 0 (.inl (i_al 0 1)) from s_aload_n (j := 0) (by decide +kernel)),
  List.forall_mem_cons.mpr ⟨(show SE G 71 1 (.inl (i_il 1 2)) from s_iload_n (j := 1) (by decide +kernel)),
  List.forall_mem_cons.mpr ⟨(show SE G 71 2 (.inr (.inl (false, 2, [(7, 39)], 5))) from ⟨c_virt (idx := 62) (n := 1) hK (by decide +kernel) (List.forall_mem_cons.mpr ⟨⟨ko_39, inW 555 (by decide +kernel) (by decide +kernel), inW 557 (by decide +kernel) (by decide +kernel), 6, _, rfl, by decide, rfl, inW 27 (by decide +kernel) (by decide +kernel)⟩, fun _ h => absurd h List.not_mem_nil⟩), (List.forall_mem_cons.mpr ⟨⟨mo_39, by decide⟩, fun _ h => absurd h List.not_mem_nil⟩)⟩),
  List.forall_mem_cons.mpr ⟨(show SE G 71 5 (.inl (i_is 2 6)) from s_istore_n (j := 2) (by decide +kernel) (by decide)),
  List.forall_mem_cons.mpr ⟨(show SE G 71 6 (.inl (i_il 2 7)) from s_iload_n (j := 2) (by decide +kernel)),
  List.forall_mem_cons.mpr ⟨(show SE G 71 7 (.inl (i_z 3 12 10)) from s_if_ge (tg := 12) (off := 5) (by decide +kernel) (by decide)),
  List.forall_mem_cons.mpr ⟨(show SE G 71 10 (.inl (i_c (-1) 11)) from s_iconst (e := (-1)) (by decide +kernel) (by decide)),
  List.forall_mem_cons.mpr ⟨(show SE G 71 11 (.inr (.inr 0)) from ⟨(by decide +kernel), rfl⟩),
  List.forall_mem_cons.mpr ⟨(show SE G 71 12 (.inl (i_al 0 13)) from s_aload_n (j := 0) (by decide +kernel)),
  List.forall_mem_cons.mpr ⟨(show SE G 71 13 (.inl (i_get [7] 5 16)) from s_get (idx := 19) (kk := 5) hK (by decide +kernel) (inW 422 (by decide +kernel) (by decide +kernel)) fo_M_sort),
  List.forall_mem_cons.mpr ⟨(show SE G 71 16 (.inl (i_il 2 17)) from s_iload_n (j := 2) (by decide +kernel)),
  List.forall_mem_cons.mpr ⟨(show SE G 71 17 (.inl (i_ld [20, 30] 18)) from s_iald hK (by decide +kernel)),
  List.forall_mem_cons.mpr ⟨(show SE G 71 18 (.inl (i_c 3 19)) from s_iconst (e := 3) (by decide +kernel) (by decide)),
  List.forall_mem_cons.mpr ⟨(show SE G 71 19 (.inl (i_cmp 1 43 22)) from s_icmp_ne (tg := 43) (off := 24) (by decide +kernel) (by decide)),
  List.forall_mem_cons.mpr ⟨(show SE G 71 22 (.inl (i_al 0 23)) from s_aload_n (j := 0) (by decide +kernel)),
  List.forall_mem_cons.mpr ⟨(show SE G 71 23 (.inl (i_get [7] 7 26)) from s_get (idx := 25) (kk := 7) hK (by decide +kernel) (inW 424 (by decide +kernel) (by decide +kernel)) fo_M_is),
  List.forall_mem_cons.mpr ⟨(show SE G 71 26 (.inl (i_c 4 27)) from s_iconst (e := 4) (by decide +kernel) (by decide)),
  List.forall_mem_cons.mpr ⟨(show SE G 71 27 (.inl (i_il 2 28)) from s_iload_n (j := 2) (by decide +kernel)),
  List.forall_mem_cons.mpr ⟨(show SE G 71 28 (.inl (i_bin (fun a b => a * b) 29)) from s_imul (by decide +kernel)),
  List.forall_mem_cons.mpr ⟨(show SE G 71 29 (.inl (i_ld [20, 30] 30)) from s_iald hK (by decide +kernel)),
  List.forall_mem_cons.mpr ⟨(show SE G 71 30 (.inl (i_c 9 32)) from s_bipush (e := 9) (by decide +kernel) (by decide +kernel) (by decide)),
  List.forall_mem_cons.mpr ⟨(show SE G 71 32 (.inl (i_cmp 1 39 35)) from s_icmp_ne (tg := 39) (off := 7) (by decide +kernel) (by decide)),
  List.forall_mem_cons.mpr ⟨(show SE G 71 35 (.inl (i_c 1 36)) from s_iconst (e := 1) (by decide +kernel) (by decide)),
  List.forall_mem_cons.mpr ⟨(show SE G 71 36 (.inl (i_go 49)) from s_goto (tg := 49) (off := 13) (by decide +kernel) (by decide)),
  List.forall_mem_cons.mpr ⟨(show SE G 71 39 (.inl (i_c 0 40)) from s_iconst (e := 0) (by decide +kernel) (by decide)),
  List.forall_mem_cons.mpr ⟨(show SE G 71 40 (.inl (i_go 49)) from s_goto (tg := 49) (off := 9) (by decide +kernel) (by decide)),
  List.forall_mem_cons.mpr ⟨(show SE G 71 43 (.inl (i_al 0 44)) from s_aload_n (j := 0) (by decide +kernel)),
  List.forall_mem_cons.mpr ⟨(show SE G 71 44 (.inl (i_get [7] 6 47)) from s_get (idx := 22) (kk := 6) hK (by decide +kernel) (inW 423 (by decide +kernel) (by decide +kernel)) fo_M_many),
  List.forall_mem_cons.mpr ⟨(show SE G 71 47 (.inl (i_il 2 48)) from s_iload_n (j := 2) (by decide +kernel)),
  List.forall_mem_cons.mpr ⟨(show SE G 71 48 (.inl (i_ld [20, 30] 49)) from s_iald hK (by decide +kernel)),
  fun _ h => absurd h List.not_mem_nil⟩⟩⟩⟩⟩⟩⟩⟩⟩⟩⟩⟩⟩⟩⟩⟩⟩⟩⟩⟩⟩⟩⟩⟩⟩⟩⟩⟩⟩⟩
set_option maxRecDepth 20000 in
theorem ok_l_71_1 (hK : K0 G) : ∀ q ∈ l_71_1, SE G 71 q.1 q.2 :=
  List.forall_mem_cons.mpr ⟨(show SE G 71 49 (.inr (.inr 0)) from ⟨(by decide +kernel), rfl⟩),
  fun _ h => absurd h List.not_mem_nil⟩
theorem ok_l_71 (hK : K0 G) : ∀ q ∈ l_71, SE G 71 q.1 q.2 := by
  show ∀ q ∈ l_71_0 ++ (l_71_1), SE G 71 q.1 q.2
  exact List.forall_mem_append.mpr ⟨ok_l_71_0 hK, ok_l_71_1 hK⟩
set_option maxRecDepth 20000 in
theorem ok_l_72 (hK : K0 G) : ∀ q ∈ l_72, SE G 72 q.1 q.2 :=
  List.forall_mem_cons.mpr ⟨(show SE G 72 0 (.inl (i_al 0 1)) from s_aload_n (j := 0) (by decide +kernel)),
  List.forall_mem_cons.mpr ⟨(show SE G 72 1 (.inl (i_al 0 2)) from s_aload_n (j := 0) (by decide +kernel)),
  List.forall_mem_cons.mpr ⟨(show SE G 72 2 (.inl (i_get [7] 2 5)) from s_get (idx := 50) (kk := 2) hK (by decide +kernel) (inW 419 (by decide +kernel) (by decide +kernel)) fo_M_objects),
  List.forall_mem_cons.mpr ⟨(show SE G 72 5 (.inr (.inl (false, 2, [(7, 45)], 8))) from ⟨c_virt (idx := 74) (n := 1) hK (by decide +kernel) (List.forall_mem_cons.mpr ⟨⟨ko_45, inW 499 (by decide +kernel) (by decide +kernel), inW 501 (by decide +kernel) (by decide +kernel), 6, _, rfl, by decide, rfl, inW 15 (by decide +kernel) (by decide +kernel)⟩, fun _ h => absurd h List.not_mem_nil⟩), (List.forall_mem_cons.mpr ⟨⟨mo_45, by decide⟩, fun _ h => absurd h List.not_mem_nil⟩)⟩),
  List.forall_mem_cons.mpr ⟨(show SE G 72 8 (.inr (.inr 0)) from ⟨(by decide +kernel), rfl⟩),
  fun _ h => absurd h List.not_mem_nil⟩⟩⟩⟩⟩
set_option maxRecDepth 20000 in
theorem ok_l_73 (hK : K0 G) : ∀ q ∈ l_73, SE G 73 q.1 q.2 :=
  List.forall_mem_cons.mpr ⟨(show SE G 73 0 (.inl (i_al 0 1)) from s_aload_n (j := 0) (by decide +kernel)),
  List.forall_mem_cons.mpr ⟨(show SE G 73 1 (.inl (i_get [7] 14 4)) from s_get (idx := 98) (kk := 14) hK (by decide +kernel) (inW 431 (by decide +kernel) (by decide +kernel)) fo_M_waits),
  List.forall_mem_cons.mpr ⟨(show SE G 73 4 (.inr (.inr 0)) from ⟨(by decide +kernel), rfl⟩),
  fun _ h => absurd h List.not_mem_nil⟩⟩⟩
set_option maxRecDepth 20000 in
theorem ok_l_74 (hK : K0 G) : ∀ q ∈ l_74, SE G 74 q.1 q.2 :=
  List.forall_mem_cons.mpr ⟨(show SE G 74 0 (.inl (i_al 0 1)) from s_aload_n (j := 0) (by decide +kernel)),
  List.forall_mem_cons.mpr ⟨(show SE G 74 1 (.inl (i_get [7] 17 4)) from s_get (idx := 114) (kk := 17) hK (by decide +kernel) (inW 434 (by decide +kernel) (by decide +kernel)) fo_M_runs),
  List.forall_mem_cons.mpr ⟨(show SE G 74 4 (.inr (.inr 0)) from ⟨(by decide +kernel), rfl⟩),
  fun _ h => absurd h List.not_mem_nil⟩⟩⟩
set_option maxRecDepth 20000 in
theorem ok_l_75 (hK : K0 G) : ∀ q ∈ l_75, SE G 75 q.1 q.2 :=
  List.forall_mem_cons.mpr ⟨(show SE G 75 0 (.inl (i_al 0 1)) from s_aload_n (j := 0) (by decide +kernel)),
  List.forall_mem_cons.mpr ⟨(show SE G 75 1 (.inr (.inl (false, 1, [(2, 93), (3, 93), (4, 93), (5, 93)], 4))) from ⟨c_initN (idx := 3) (n := 0) (k1 := 93) (host := "ResurrectingHeap") (ts := [2, 3, 4, 5]) (by decide +kernel) ko_93 (inW 101 (by decide +kernel) (by decide +kernel)) (inW 102 (by decide +kernel) (by decide +kernel)) rfl rfl, (List.forall_mem_cons.mpr ⟨⟨mo_93, by decide⟩, List.forall_mem_cons.mpr ⟨⟨mo_93, by decide⟩, List.forall_mem_cons.mpr ⟨⟨mo_93, by decide⟩, List.forall_mem_cons.mpr ⟨⟨mo_93, by decide⟩, fun _ h => absurd h List.not_mem_nil⟩⟩⟩⟩)⟩),
  List.forall_mem_cons.mpr ⟨(show SE G 75 4 (.inl (i_al 0 5)) from s_aload_n (j := 0) (by decide +kernel)),
  List.forall_mem_cons.mpr ⟨(show SE G 75 5 (.inl (i_il 1 6)) from s_iload_n (j := 1) (by decide +kernel)),
  List.forall_mem_cons.mpr ⟨(show SE G 75 6 (.inl (i_put [2] 0 0 9)) from s_put (idx := 9) (kk := 0) (ty := 0) hK (by decide +kernel) (inW 105 (by decide +kernel) (by decide +kernel)) fo_N_amount po_75_N_amount),
  List.forall_mem_cons.mpr ⟨(show SE G 75 9 (.inr (.inr 3)) from ⟨(by decide +kernel), rfl⟩),
  fun _ h => absurd h List.not_mem_nil⟩⟩⟩⟩⟩⟩
set_option maxRecDepth 20000 in
theorem ok_l_76 (hK : K0 G) : ∀ q ∈ l_76, SE G 76 q.1 q.2 :=
  List.forall_mem_cons.mpr ⟨(show SE G 76 0 (.inl (i_c 1 1)) from s_iconst (e := 1) (by decide +kernel) (by decide)),
  List.forall_mem_cons.mpr ⟨(show SE G 76 1 (.inr (.inr 0)) from ⟨(by decide +kernel), rfl⟩),
  fun _ h => absurd h List.not_mem_nil⟩⟩
set_option maxRecDepth 20000 in
theorem ok_l_77 (hK : K0 G) : ∀ q ∈ l_77, SE G 77 q.1 q.2 :=
  List.forall_mem_cons.mpr ⟨(show SE G 77 0 (.inl (i_al 0 1)) from s_aload_n (j := 0) (by decide +kernel)),
  List.forall_mem_cons.mpr ⟨(show SE G 77 1 (.inl (i_obj 4)) from s_obj (idx := 1) (by decide +kernel) (inW 55 (by decide +kernel) (by decide +kernel)) (inW 46 (by decide +kernel) (by decide +kernel)) (inW 47 (by decide +kernel) (by decide +kernel))),
  List.forall_mem_cons.mpr ⟨(show SE G 77 4 (.inl (i_al 0 5)) from s_aload_n (j := 0) (by decide +kernel)),
  List.forall_mem_cons.mpr ⟨(show SE G 77 5 (.inl (i_il 1 6)) from s_iload_n (j := 1) (by decide +kernel)),
  List.forall_mem_cons.mpr ⟨(show SE G 77 6 (.inl (i_newa 22 (.inr none) 9)) from s_anew (idx := 7) (j := 2) (E := "ResurrectingHeap$Thing") hK (by decide +kernel) (inW 56 (by decide +kernel) (by decide +kernel)) (by decide +kernel) (by decide) rfl),
  List.forall_mem_cons.mpr ⟨(show SE G 77 9 (.inl (i_put [6] 0 2 12)) from s_put (idx := 9) (kk := 0) (ty := 2) hK (by decide +kernel) (inW 58 (by decide +kernel) (by decide +kernel)) fo_R_things po_77_R_things),
  List.forall_mem_cons.mpr ⟨(show SE G 77 12 (.inr (.inr 3)) from ⟨(by decide +kernel), rfl⟩),
  fun _ h => absurd h List.not_mem_nil⟩⟩⟩⟩⟩⟩⟩
set_option maxRecDepth 20000 in
theorem ok_l_78 (hK : K0 G) : ∀ q ∈ l_78, SE G 78 q.1 q.2 :=
  List.forall_mem_cons.mpr ⟨(show SE G 78 0 (.inl (i_al 0 1)) from s_aload_n (j := 0) (by decide +kernel)),
  List.forall_mem_cons.mpr ⟨(show SE G 78 1 (.inl (i_get [6] 1 4)) from s_get (idx := 15) (kk := 1) hK (by decide +kernel) (inW 59 (by decide +kernel) (by decide +kernel)) fo_R_count),
  List.forall_mem_cons.mpr ⟨(show SE G 78 4 (.inr (.inr 0)) from ⟨(by decide +kernel), rfl⟩),
  fun _ h => absurd h List.not_mem_nil⟩⟩⟩
set_option maxRecDepth 20000 in
theorem ok_l_79 (hK : K0 G) : ∀ q ∈ l_79, SE G 79 q.1 q.2 :=
  List.forall_mem_cons.mpr ⟨(show SE G 79 0 (.inl (i_il 1 1)) from s_iload_n (j := 1) (by decide +kernel)),
  List.forall_mem_cons.mpr ⟨(show SE G 79 1 (.inl (i_z 2 21 4)) from s_if_lt (tg := 21) (off := 20) (by decide +kernel) (by decide)),
  List.forall_mem_cons.mpr ⟨(show SE G 79 4 (.inl (i_il 1 5)) from s_iload_n (j := 1) (by decide +kernel)),
  List.forall_mem_cons.mpr ⟨(show SE G 79 5 (.inl (i_al 0 6)) from s_aload_n (j := 0) (by decide +kernel)),
  List.forall_mem_cons.mpr ⟨(show SE G 79 6 (.inl (i_get [6] 1 9)) from s_get (idx := 15) (kk := 1) hK (by decide +kernel) (inW 59 (by decide +kernel) (by decide +kernel)) fo_R_count),
  List.forall_mem_cons.mpr ⟨(show SE G 79 9 (.inl (i_cmp 3 21 12)) from s_icmp_ge (tg := 21) (off := 12) (by decide +kernel) (by decide)),
  List.forall_mem_cons.mpr ⟨(show SE G 79 12 (.inl (i_al 0 13)) from s_aload_n (j := 0) (by decide +kernel)),
  List.forall_mem_cons.mpr ⟨(show SE G 79 13 (.inl (i_get [6] 0 16)) from s_get (idx := 9) (kk := 0) hK (by decide +kernel) (inW 58 (by decide +kernel) (by decide +kernel)) fo_R_things),
  List.forall_mem_cons.mpr ⟨(show SE G 79 16 (.inl (i_il 1 17)) from s_iload_n (j := 1) (by decide +kernel)),
  List.forall_mem_cons.mpr ⟨(show SE G 79 17 (.inl (i_ld [22, 23] 18)) from s_aald hK (by decide +kernel)),
  List.forall_mem_cons.mpr ⟨(show SE G 79 18 (.inl (i_go 22)) from s_goto (tg := 22) (off := 4) (by decide +kernel) (by decide)),
  List.forall_mem_cons.mpr ⟨(show SE G 79 21 (.inl (i_n 22)) from s_null (by decide +kernel)),
  List.forall_mem_cons.mpr ⟨(show SE G 79 22 (.inr (.inr 2)) from ⟨(by decide +kernel), _, rfl⟩),
  fun _ h => absurd h List.not_mem_nil⟩⟩⟩⟩⟩⟩⟩⟩⟩⟩⟩⟩⟩
set_option maxRecDepth 20000 in
theorem ok_l_80 (hK : K0 G) : ∀ q ∈ l_80, SE G 80 q.1 q.2 :=
  List.forall_mem_cons.mpr ⟨(show SE G 80 0 (.inl (i_al 0 1)) from s_aload_n (j := 0) (by decide +kernel)),
  List.forall_mem_cons.mpr ⟨(show SE G 80 1 (.inl (i_get [6] 1 4)) from s_get (idx := 15) (kk := 1) hK (by decide +kernel) (inW 59 (by decide +kernel) (by decide +kernel)) fo_R_count),
  List.forall_mem_cons.mpr ⟨(show SE G 80 4 (.inl (i_al 0 5)) from s_aload_n (j := 0) (by decide +kernel)),
  List.forall_mem_cons.mpr ⟨(show SE G 80 5 (.inl (i_get [6] 0 8)) from s_get (idx := 9) (kk := 0) hK (by decide +kernel) (inW 58 (by decide +kernel) (by decide +kernel)) fo_R_things),
  List.forall_mem_cons.mpr ⟨(show SE G 80 8 (.inl (i_len 9)) from s_len hK (by decide +kernel)),
  List.forall_mem_cons.mpr ⟨(show SE G 80 9 (.inl (i_cmp 3 32 12)) from s_icmp_ge (tg := 32) (off := 23) (by decide +kernel) (by decide)),
  List.forall_mem_cons.mpr ⟨(show SE G 80 12 (.inl (i_al 0 13)) from s_aload_n (j := 0) (by decide +kernel)),
  List.forall_mem_cons.mpr ⟨(show SE G 80 13 (.inl (i_get [6] 0 16)) from s_get (idx := 9) (kk := 0) hK (by decide +kernel) (inW 58 (by decide +kernel) (by decide +kernel)) fo_R_things),
  List.forall_mem_cons.mpr ⟨(show SE G 80 16 (.inl (i_al 0 17)) from s_aload_n (j := 0) (by decide +kernel)),
  List.forall_mem_cons.mpr ⟨(show SE G 80 17 (.inl (i_get [6] 1 20)) from s_get (idx := 15) (kk := 1) hK (by decide +kernel) (inW 59 (by decide +kernel) (by decide +kernel)) fo_R_count),
  List.forall_mem_cons.mpr ⟨(show SE G 80 20 (.inl (i_al 1 21)) from s_aload_n (j := 1) (by decide +kernel)),
  List.forall_mem_cons.mpr ⟨(show SE G 80 21 (.inl (i_ast [(22, [3, 4, 5]), (23, [2, 3, 4, 5])] 22)) from s_aast hK (by decide +kernel) yo_G yo_U),
  List.forall_mem_cons.mpr ⟨(show SE G 80 22 (.inl (i_al 0 23)) from s_aload_n (j := 0) (by decide +kernel)),
  List.forall_mem_cons.mpr ⟨(show SE G 80 23 (.inl (i_dup 24)) from s_dup (by decide +kernel)),
  List.forall_mem_cons.mpr ⟨(show SE G 80 24 (.inl (i_get [6] 1 27)) from s_get (idx := 15) (kk := 1) hK (by decide +kernel) (inW 59 (by decide +kernel) (by decide +kernel)) fo_R_count),
  List.forall_mem_cons.mpr ⟨(show SE G 80 27 (.inl (i_c 1 28)) from s_iconst (e := 1) (by decide +kernel) (by decide)),
  List.forall_mem_cons.mpr ⟨(show SE G 80 28 (.inl (i_bin (fun a b => a + b) 29)) from s_iadd (by decide +kernel)),
  List.forall_mem_cons.mpr ⟨(show SE G 80 29 (.inl (i_put [6] 1 0 32)) from s_put (idx := 15) (kk := 1) (ty := 0) hK (by decide +kernel) (inW 59 (by decide +kernel) (by decide +kernel)) fo_R_count po_80_R_count),
  List.forall_mem_cons.mpr ⟨(show SE G 80 32 (.inr (.inr 3)) from ⟨(by decide +kernel), rfl⟩),
  fun _ h => absurd h List.not_mem_nil⟩⟩⟩⟩⟩⟩⟩⟩⟩⟩⟩⟩⟩⟩⟩⟩⟩⟩⟩
set_option maxRecDepth 20000 in
theorem ok_l_81_0 (hK : K0 G) : ∀ q ∈ l_81_0, SE G 81 q.1 q.2 :=
  List.forall_mem_cons.mpr ⟨(show SE G 81 0 (.inl (i_al 0 1)) from s_aload_n (j := 0) (by decide +kernel)),
  List.forall_mem_cons.mpr ⟨(show SE G 81 1 (.inl (i_get [6] 1 4)) from s_get (idx := 15) (kk := 1) hK (by decide +kernel) (inW 59 (by decide +kernel) (by decide +kernel)) fo_R_count),
  List.forall_mem_cons.mpr ⟨(show SE G 81 4 (.inl (i_z 1 9 7)) from s_if_ne (tg := 9) (off := 5) (by decide +kernel) (by decide)),
  List.forall_mem_cons.mpr ⟨(show SE G 81 7 (.inl (i_n 8)) from s_null (by decide +kernel)),
  List.forall_mem_cons.mpr ⟨(show SE G 81 8 (.inr (.inr 2)) from ⟨(by decide +kernel), _, rfl⟩),
  List.forall_mem_cons.mpr ⟨(show SE G 81 9 (.inl (i_al 0 10)) from s_aload_n (j := 0) (by decide +kernel)),
  List.forall_mem_cons.mpr ⟨(show SE G 81 10 (.inl (i_get [6] 0 13)) from s_get (idx := 9) (kk := 0) hK (by decide +kernel) (inW 58 (by decide +kernel) (by decide +kernel)) fo_R_things),
  List.forall_mem_cons.mpr ⟨(show SE G 81 13 (.inl (i_c 0 14)) from s_iconst (e := 0) (by decide +kernel) (by decide)),
  List.forall_mem_cons.mpr ⟨(show SE G 81 14 (.inl (i_ld [22, 23] 15)) from s_aald hK (by decide +kernel)),
  List.forall_mem_cons.mpr ⟨(show SE G 81 15 (.inl (i_as 1 16)) from s_astore_n (j := 1) (by decide +kernel) (by decide)),
  List.forall_mem_cons.mpr ⟨(show SE G 81 16 (.inl (i_c 1 17)) from s_iconst (e := 1) (by decide +kernel) (by decide)),
  List.forall_mem_cons.mpr ⟨(show SE G 81 17 (.inl (i_is 2 18)) from s_istore_n (j := 2) (by decide +kernel) (by decide)),
  List.forall_mem_cons.mpr ⟨(show SE G 81 18 (.inl (i_il 2 19)) from s_iload_n (j := 2) (by decide +kernel)),
  List.forall_mem_cons.mpr ⟨(show SE G 81 19 (.inl (i_al 0 20)) from s_aload_n (j := 0) (by decide +kernel)),
  List.forall_mem_cons.mpr ⟨(show SE G 81 20 (.inl (i_get [6] 1 23)) from s_get (idx := 15) (kk := 1) hK (by decide +kernel) (inW 59 (by decide +kernel) (by decide +kernel)) fo_R_count),
  List.forall_mem_cons.mpr ⟨(show SE G 81 23 (.inl (i_cmp 3 46 26)) from s_icmp_ge (tg := 46) (off := 23) (by decide +kernel) (by decide)),
  List.forall_mem_cons.mpr ⟨(show SE G 81 26 (.inl (i_al 0 27)) from s_aload_n (j := 0) (by decide +kernel)),
  List.forall_mem_cons.mpr ⟨(show SE G 81 27 (.inl (i_get [6] 0 30)) from s_get (idx := 9) (kk := 0) hK (by decide +kernel) (inW 58 (by decide +kernel) (by decide +kernel)) fo_R_things),
  List.forall_mem_cons.mpr ⟨(show SE G 81 30 (.inl (i_il 2 31)) from s_iload_n (j := 2) (by decide +kernel)),
  List.forall_mem_cons.mpr ⟨(show SE G 81 31 (.inl (i_c 1 32)) from s_iconst (e := 1) (by decide +kernel) (by decide)),
  List.forall_mem_cons.mpr ⟨(show SE G 81 32 (.inl (i_bin (fun a b => a - b) 33)) from s_isub (by decide +kernel)),
  List.forall_mem_cons.mpr ⟨(show SE G 81 33 (.inl (i_al 0 34)) from s_aload_n (j := 0) (by decide +kernel)),
  List.forall_mem_cons.mpr ⟨(show SE G 81 34 (.inl (i_get [6] 0 37)) from s_get (idx := 9) (kk := 0) hK (by decide +kernel) (inW 58 (by decide +kernel) (by decide +kernel)) fo_R_things),
  List.forall_mem_cons.mpr ⟨(show SE G 81 37 (.inl (i_il 2 38)) from s_iload_n (j := 2) (by decide +kernel)),
  List.forall_mem_cons.mpr ⟨(show SE G 81 38 (.inl (i_ld [22, 23] 39)) from s_aald hK (by decide +kernel)),
  List.forall_mem_cons.mpr ⟨(show SE G 81 39 (.inl (i_ast [(22, [3, 4, 5]), (23, [2, 3, 4, 5])] 40)) from s_aast hK (by decide +kernel) yo_G yo_U),
  List.forall_mem_cons.mpr ⟨(show SE G 81 40 (.inl (i_ii 2 1 43)) from s_iinc (j := 2) (n := 1) (by decide +kernel) (by decide)),
  List.forall_mem_cons.mpr ⟨(show SE G 81 43 (.inl (i_go 18)) from s_goto (tg := 18) (off := -25) (by decide +kernel) (by decide)),
  List.forall_mem_cons.mpr ⟨(show SE G 81 46 (.inl (i_al 0 47)) from s_aload_n (j := 0) (by decide +kernel)),
  List.forall_mem_cons.mpr ⟨(show SE G 81 47 (.inl (i_dup 48)) from s_dup (by decide +kernel)),
  fun _ h => absurd h List.not_mem_nil⟩⟩⟩⟩⟩⟩⟩⟩⟩⟩⟩⟩⟩⟩⟩⟩⟩⟩⟩⟩⟩⟩⟩⟩⟩⟩⟩⟩⟩⟩
set_option maxRecDepth 20000 in
theorem ok_l_81_1 (hK : K0 G) : ∀ q ∈ l_81_1, SE G 81 q.1 q.2 :=
  List.forall_mem_cons.mpr ⟨(show SE G 81 48 (.inl (i_get [6] 1 51)) from s_get (idx := 15) (kk := 1) hK (by decide +kernel) (inW 59 (by decide +kernel) (by decide +kernel)) fo_R_count),
  List.forall_mem_cons.mpr ⟨(show SE G 81 51 (.inl (i_c 1 52)) from s_iconst (e := 1) (by decide +kernel) (by decide)),
  List.forall_mem_cons.mpr ⟨(show SE G 81 52 (.inl (i_bin (fun a b => a - b) 53)) from s_isub (by decide +kernel)),
  List.forall_mem_cons.mpr ⟨(show SE G 81 53 (.inl (i_put [6] 1 0 56)) from s_put (idx := 15) (kk := 1) (ty := 0) hK (by decide +kernel) (inW 59 (by decide +kernel) (by decide +kernel)) fo_R_count po_81_R_count),
  List.forall_mem_cons.mpr ⟨(show SE G 81 56 (.inl (i_al 1 57)) from s_aload_n (j := 1) (by decide +kernel)),
  List.forall_mem_cons.mpr ⟨(show SE G 81 57 (.inr (.inr 2)) from ⟨(by decide +kernel), _, rfl⟩),
  fun _ h => absurd h List.not_mem_nil⟩⟩⟩⟩⟩⟩
theorem ok_l_81 (hK : K0 G) : ∀ q ∈ l_81, SE G 81 q.1 q.2 := by
  show ∀ q ∈ l_81_0 ++ (l_81_1), SE G 81 q.1 q.2
  exact List.forall_mem_append.mpr ⟨ok_l_81_0 hK, ok_l_81_1 hK⟩
set_option maxRecDepth 20000 in
theorem ok_l_82 (hK : K0 G) : ∀ q ∈ l_82, SE G 82 q.1 q.2 :=
  List.forall_mem_cons.mpr ⟨(show SE G 82 0 (.inl (i_c 0 1)) from s_iconst (e := 0) (by decide +kernel) (by decide)),
  List.forall_mem_cons.mpr ⟨(show SE G 82 1 (.inl (i_is 1 2)) from s_istore_n (j := 1) (by decide +kernel) (by decide)),
  List.forall_mem_cons.mpr ⟨(show SE G 82 2 (.inl (i_il 1 3)) from s_iload_n (j := 1) (by decide +kernel)),
  List.forall_mem_cons.mpr ⟨(show SE G 82 3 (.inl (i_al 0 4)) from s_aload_n (j := 0) (by decide +kernel)),
  List.forall_mem_cons.mpr ⟨(show SE G 82 4 (.inl (i_get [6] 1 7)) from s_get (idx := 15) (kk := 1) hK (by decide +kernel) (inW 59 (by decide +kernel) (by decide +kernel)) fo_R_count),
  List.forall_mem_cons.mpr ⟨(show SE G 82 7 (.inl (i_cmp 3 26 10)) from s_icmp_ge (tg := 26) (off := 19) (by decide +kernel) (by decide)),
  List.forall_mem_cons.mpr ⟨(show SE G 82 10 (.inl (i_al 0 11)) from s_aload_n (j := 0) (by decide +kernel)),
  List.forall_mem_cons.mpr ⟨(show SE G 82 11 (.inl (i_get [6] 0 14)) from s_get (idx := 9) (kk := 0) hK (by decide +kernel) (inW 58 (by decide +kernel) (by decide +kernel)) fo_R_things),
  List.forall_mem_cons.mpr ⟨(show SE G 82 14 (.inl (i_il 1 15)) from s_iload_n (j := 1) (by decide +kernel)),
  List.forall_mem_cons.mpr ⟨(show SE G 82 15 (.inl (i_ld [22, 23] 16)) from s_aald hK (by decide +kernel)),
  List.forall_mem_cons.mpr ⟨(show SE G 82 16 (.inr (.inl (true, 1, [(0, 35)], 19))) from ⟨c_staticN (idx := 19) (n := 1) (k1 := 35) (host := "ResurrectingHeap") (by decide +kernel) ko_35 (inW 154 (by decide +kernel) (by decide +kernel)) (inW 147 (by decide +kernel) (by decide +kernel)), (List.forall_mem_cons.mpr ⟨⟨mo_35, by decide⟩, fun _ h => absurd h List.not_mem_nil⟩)⟩),
  List.forall_mem_cons.mpr ⟨(show SE G 82 19 (.inl (i_pop 20)) from s_pop (by decide +kernel)),
  List.forall_mem_cons.mpr ⟨(show SE G 82 20 (.inl (i_ii 1 1 23)) from s_iinc (j := 1) (n := 1) (by decide +kernel) (by decide)),
  List.forall_mem_cons.mpr ⟨(show SE G 82 23 (.inl (i_go 2)) from s_goto (tg := 2) (off := -21) (by decide +kernel) (by decide)),
  List.forall_mem_cons.mpr ⟨(show SE G 82 26 (.inr (.inr 3)) from ⟨(by decide +kernel), rfl⟩),
  fun _ h => absurd h List.not_mem_nil⟩⟩⟩⟩⟩⟩⟩⟩⟩⟩⟩⟩⟩⟩⟩
set_option maxRecDepth 20000 in
theorem ok_l_83_0 (hK : K0 G) : ∀ q ∈ l_83_0, SE G 83 q.1 q.2 :=
  List.forall_mem_cons.mpr ⟨(show SE G 83 0 (.inl (i_c 0 1)) from s_iconst (e := 0) (by decide +kernel) (by decide)),
  List.forall_mem_cons.mpr ⟨(show SE G 83 1 (.inl (i_is 1 2)) from s_istore_n (j := 1) (by decide +kernel) (by decide)),
  List.forall_mem_cons.mpr ⟨(show SE G 83 2 (.inl (i_c 0 3)) from s_iconst (e := 0) (by decide +kernel) (by decide)),
  List.forall_mem_cons.mpr ⟨(show SE G 83 3 (.inl (i_is 2 4)) from s_istore_n (j := 2) (by decide +kernel) (by decide)),
  List.forall_mem_cons.mpr ⟨(show SE G 83 4 (.inl (i_il 2 5)) from s_iload_n (j := 2) (by decide +kernel)),
  List.forall_mem_cons.mpr ⟨(show SE G 83 5 (.inl (i_al 0 6)) from s_aload_n (j := 0) (by decide +kernel)),
  List.forall_mem_cons.mpr ⟨(show SE G 83 6 (.inl (i_get [6] 1 9)) from s_get (idx := 15) (kk := 1) hK (by decide +kernel) (inW 59 (by decide +kernel) (by decide +kernel)) fo_R_count),
  List.forall_mem_cons.mpr ⟨(show SE G 83 9 (.inl (i_cmp 3 46 12)) from s_icmp_ge (tg := 46) (off := 37) (by decide +kernel) (by decide)),
  List.forall_mem_cons.mpr ⟨(show SE G 83 12 (.inl (i_al 0 13)) from s_aload_n (j := 0) (by decide +kernel)),
  List.forall_mem_cons.mpr ⟨(show SE G 83 13 (.inl (i_get [6] 0 16)) from s_get (idx := 9) (kk := 0) hK (by decide +kernel) (inW 58 (by decide +kernel) (by decide +kernel)) fo_R_things),
  List.forall_mem_cons.mpr ⟨(show SE G 83 16 (.inl (i_il 2 17)) from s_iload_n (j := 2) (by decide +kernel)),
  List.forall_mem_cons.mpr ⟨(show SE G 83 17 (.inl (i_ld [22, 23] 18)) from s_aald hK (by decide +kernel)),
  List.forall_mem_cons.mpr ⟨(show SE G 83 18 (.inl (i_as 3 19)) from s_astore_n (j := 3) (by decide +kernel) (by decide)),
  List.forall_mem_cons.mpr ⟨(show SE G 83 19 (.inl (i_al 3 20)) from s_aload_n (j := 3) (by decide +kernel)),
  List.forall_mem_cons.mpr ⟨(show SE G 83 20 (.inl (i_nul 40 23)) from s_ifnull (tg := 40) (off := 20) (by decide +kernel) (by decide)),
  List.forall_mem_cons.mpr ⟨(show SE G 83 23 (.inl (i_al 3 24)) from s_aload_n (j := 3) (by decide +kernel)),
  List.forall_mem_cons.mpr ⟨(show SE G 83 24 (.inl (i_get [3, 4, 5] 3 27)) from s_get (idx := 25) (kk := 3) hK (by decide +kernel) (inW 228 (by decide +kernel) (by decide +kernel)) fo_G_marked),
  List.forall_mem_cons.mpr ⟨(show SE G 83 27 (.inl (i_z 0 40 30)) from s_if_eq (tg := 40) (off := 13) (by decide +kernel) (by decide)),
  List.forall_mem_cons.mpr ⟨(show SE G 83 30 (.inl (i_al 0 31)) from s_aload_n (j := 0) (by decide +kernel)),
  List.forall_mem_cons.mpr ⟨(show SE G 83 31 (.inl (i_get [6] 0 34)) from s_get (idx := 9) (kk := 0) hK (by decide +kernel) (inW 58 (by decide +kernel) (by decide +kernel)) fo_R_things),
  List.forall_mem_cons.mpr ⟨(show SE G 83 34 (.inl (i_il 1 35)) from s_iload_n (j := 1) (by decide +kernel)),
  List.forall_mem_cons.mpr ⟨(show SE G 83 35 (.inl (i_al 3 36)) from s_aload_n (j := 3) (by decide +kernel)),
  List.forall_mem_cons.mpr ⟨(show SE G 83 36 (.inl (i_ast [(22, [3, 4, 5]), (23, [2, 3, 4, 5])] 37)) from s_aast hK (by decide +kernel) yo_G yo_U),
  List.forall_mem_cons.mpr ⟨(show SE G 83 37 (.inl (i_ii 1 1 40)) from s_iinc (j := 1) (n := 1) (by decide +kernel) (by decide)),
  List.forall_mem_cons.mpr ⟨(show SE G 83 40 (.inl (i_ii 2 1 43)) from s_iinc (j := 2) (n := 1) (by decide +kernel) (by decide)),
  List.forall_mem_cons.mpr ⟨(show SE G 83 43 (.inl (i_go 4)) from s_goto (tg := 4) (off := -39) (by decide +kernel) (by decide)),
  List.forall_mem_cons.mpr ⟨(show SE G 83 46 (.inl (i_al 0 47)) from s_aload_n (j := 0) (by decide +kernel)),
  List.forall_mem_cons.mpr ⟨(show SE G 83 47 (.inl (i_get [6] 1 50)) from s_get (idx := 15) (kk := 1) hK (by decide +kernel) (inW 59 (by decide +kernel) (by decide +kernel)) fo_R_count),
  List.forall_mem_cons.mpr ⟨(show SE G 83 50 (.inl (i_il 1 51)) from s_iload_n (j := 1) (by decide +kernel)),
  List.forall_mem_cons.mpr ⟨(show SE G 83 51 (.inl (i_bin (fun a b => a - b) 52)) from s_isub (by decide +kernel)),
  fun _ h => absurd h List.not_mem_nil⟩⟩⟩⟩⟩⟩⟩⟩⟩⟩⟩⟩⟩⟩⟩⟩⟩⟩⟩⟩⟩⟩⟩⟩⟩⟩⟩⟩⟩⟩
set_option maxRecDepth 20000 in
theorem ok_l_83_1 (hK : K0 G) : ∀ q ∈ l_83_1, SE G 83 q.1 q.2 :=
  List.forall_mem_cons.mpr ⟨(show SE G 83 52 (.inl (i_is 2 53)) from s_istore_n (j := 2) (by decide +kernel) (by decide)),
  List.forall_mem_cons.mpr ⟨(show SE G 83 53 (.inl (i_al 0 54)) from s_aload_n (j := 0) (by decide +kernel)),
  List.forall_mem_cons.mpr ⟨(show SE G 83 54 (.inl (i_il 1 55)) from s_iload_n (j := 1) (by decide +kernel)),
  List.forall_mem_cons.mpr ⟨(show SE G 83 55 (.inl (i_put [6] 1 0 58)) from s_put (idx := 15) (kk := 1) (ty := 0) hK (by decide +kernel) (inW 59 (by decide +kernel) (by decide +kernel)) fo_R_count po_83_R_count),
  List.forall_mem_cons.mpr ⟨(show SE G 83 58 (.inl (i_il 2 59)) from s_iload_n (j := 2) (by decide +kernel)),
  List.forall_mem_cons.mpr ⟨(show SE G 83 59 (.inr (.inr 0)) from ⟨(by decide +kernel), rfl⟩),
  fun _ h => absurd h List.not_mem_nil⟩⟩⟩⟩⟩⟩
theorem ok_l_83 (hK : K0 G) : ∀ q ∈ l_83, SE G 83 q.1 q.2 := by
  show ∀ q ∈ l_83_0 ++ (l_83_1), SE G 83 q.1 q.2
  exact List.forall_mem_append.mpr ⟨ok_l_83_0 hK, ok_l_83_1 hK⟩
set_option maxRecDepth 20000 in
theorem ok_l_84 (hK : K0 G) : ∀ q ∈ l_84, SE G 84 q.1 q.2 :=
  List.forall_mem_cons.mpr ⟨(show SE G 84 0 (.inl (i_al 0 1)) from s_aload_n (j := 0) (by decide +kernel)),
  List.forall_mem_cons.mpr ⟨(show SE G 84 1 (.inl (i_il 1 2)) from s_iload_n (j := 1) (by decide +kernel)),
  List.forall_mem_cons.mpr ⟨(show SE G 84 2 (.inl (i_c 8 4)) from s_bipush (e := 8) (by decide +kernel) (by decide +kernel) (by decide)),
  List.forall_mem_cons.mpr ⟨(show SE G 84 4 (.inr (.inl (false, 3, [(3, 92), (4, 92), (5, 92)], 7))) from ⟨c_init (idx := 3) (n := 2) (k1 := 92) (ts := [3, 4, 5]) (by decide +kernel) ko_92 (inW 285 (by decide +kernel) (by decide +kernel)) (inW 215 (by decide +kernel) (by decide +kernel)) rfl rfl, (List.forall_mem_cons.mpr ⟨⟨mo_92, by decide⟩, List.forall_mem_cons.mpr ⟨⟨mo_92, by decide⟩, List.forall_mem_cons.mpr ⟨⟨mo_92, by decide⟩, fun _ h => absurd h List.not_mem_nil⟩⟩⟩)⟩),
  List.forall_mem_cons.mpr ⟨(show SE G 84 7 (.inl (i_al 0 8)) from s_aload_n (j := 0) (by decide +kernel)),
  List.forall_mem_cons.mpr ⟨(show SE G 84 8 (.inl (i_c 3 9)) from s_iconst (e := 3) (by decide +kernel) (by decide)),
  List.forall_mem_cons.mpr ⟨(show SE G 84 9 (.inl (i_newa 22 (.inr none) 12)) from s_anew (idx := 4) (j := 2) (E := "ResurrectingHeap$Thing") hK (by decide +kernel) (inW 286 (by decide +kernel) (by decide +kernel)) (by decide +kernel) (by decide) rfl),
  List.forall_mem_cons.mpr ⟨(show SE G 84 12 (.inl (i_put [5] 6 2 15)) from s_put (idx := 9) (kk := 6) (ty := 2) hK (by decide +kernel) (inW 288 (by decide +kernel) (by decide +kernel)) fo_T_keys po_84_T_keys),
  List.forall_mem_cons.mpr ⟨(show SE G 84 15 (.inl (i_al 0 16)) from s_aload_n (j := 0) (by decide +kernel)),
  List.forall_mem_cons.mpr ⟨(show SE G 84 16 (.inl (i_c 3 17)) from s_iconst (e := 3) (by decide +kernel) (by decide)),
  List.forall_mem_cons.mpr ⟨(show SE G 84 17 (.inl (i_newa 23 (.inr none) 20)) from s_anew (idx := 15) (j := 3) (E := "ResurrectingHeap$Value") hK (by decide +kernel) (inW 287 (by decide +kernel) (by decide +kernel)) (by decide +kernel) (by decide) rfl),
  List.forall_mem_cons.mpr ⟨(show SE G 84 20 (.inl (i_put [5] 7 2 23)) from s_put (idx := 17) (kk := 7) (ty := 2) hK (by decide +kernel) (inW 289 (by decide +kernel) (by decide +kernel)) fo_T_values po_84_T_values),
  List.forall_mem_cons.mpr ⟨(show SE G 84 23 (.inr (.inr 3)) from ⟨(by decide +kernel), rfl⟩),
  fun _ h => absurd h List.not_mem_nil⟩⟩⟩⟩⟩⟩⟩⟩⟩⟩⟩⟩⟩
set_option maxRecDepth 20000 in
theorem ok_l_85_0 (hK : K0 G) : ∀ q ∈ l_85_0, SE G 85 q.1 q.2 :=
  List.forall_mem_cons.mpr ⟨(show SE G 85 0 (.inl (i_al 0 1)) from s_aload_n (j := 0) (by decide +kernel)),
  List.forall_mem_cons.mpr ⟨(show SE G 85 1 (.inl (i_al 1 2)) from s_aload_n (j := 1) (by decide +kernel)),
  List.forall_mem_cons.mpr ⟨(show SE G 85 2 (.inr (.inl (false, 2, [(5, 87)], 5))) from ⟨c_virt (idx := 21) (n := 1) hK (by decide +kernel) (List.forall_mem_cons.mpr ⟨⟨ko_87, inW 324 (by decide +kernel) (by decide +kernel), inW 326 (by decide +kernel) (by decide +kernel), 4, _, rfl, by decide, rfl, inW 12 (by decide +kernel) (by decide +kernel)⟩, fun _ h => absurd h List.not_mem_nil⟩), (List.forall_mem_cons.mpr ⟨⟨mo_87, by decide⟩, fun _ h => absurd h List.not_mem_nil⟩)⟩),
  List.forall_mem_cons.mpr ⟨(show SE G 85 5 (.inl (i_is 3 6)) from s_istore_n (j := 3) (by decide +kernel) (by decide)),
  List.forall_mem_cons.mpr ⟨(show SE G 85 6 (.inl (i_il 3 7)) from s_iload_n (j := 3) (by decide +kernel)),
  List.forall_mem_cons.mpr ⟨(show SE G 85 7 (.inl (i_c 3 8)) from s_iconst (e := 3) (by decide +kernel) (by decide)),
  List.forall_mem_cons.mpr ⟨(show SE G 85 8 (.inl (i_cmp 2 13 11)) from s_icmp_lt (tg := 13) (off := 5) (by decide +kernel) (by decide)),
  List.forall_mem_cons.mpr ⟨(show SE G 85 11 (.inl (i_c 0 12)) from s_iconst (e := 0) (by decide +kernel) (by decide)),
  List.forall_mem_cons.mpr ⟨(show SE G 85 12 (.inr (.inr 1)) from ⟨(by decide +kernel), rfl⟩),
  List.forall_mem_cons.mpr ⟨(show SE G 85 13 (.inl (i_il 3 14)) from s_iload_n (j := 3) (by decide +kernel)),
  List.forall_mem_cons.mpr ⟨(show SE G 85 14 (.inl (i_al 0 15)) from s_aload_n (j := 0) (by decide +kernel)),
  List.forall_mem_cons.mpr ⟨(show SE G 85 15 (.inl (i_get [5] 8 18)) from s_get (idx := 25) (kk := 8) hK (by decide +kernel) (inW 290 (by decide +kernel) (by decide +kernel)) fo_T_entryCount),
  List.forall_mem_cons.mpr ⟨(show SE G 85 18 (.inl (i_cmp 1 38 21)) from s_icmp_ne (tg := 38) (off := 20) (by decide +kernel) (by decide)),
  List.forall_mem_cons.mpr ⟨(show SE G 85 21 (.inl (i_al 0 22)) from s_aload_n (j := 0) (by decide +kernel)),
  List.forall_mem_cons.mpr ⟨(show SE G 85 22 (.inl (i_get [5] 6 25)) from s_get (idx := 9) (kk := 6) hK (by decide +kernel) (inW 288 (by decide +kernel) (by decide +kernel)) fo_T_keys),
  List.forall_mem_cons.mpr ⟨(show SE G 85 25 (.inl (i_il 3 26)) from s_iload_n (j := 3) (by decide +kernel)),
  List.forall_mem_cons.mpr ⟨(show SE G 85 26 (.inl (i_al 1 27)) from s_aload_n (j := 1) (by decide +kernel)),
  List.forall_mem_cons.mpr ⟨(show SE G 85 27 (.inl (i_ast [(22, [3, 4, 5]), (23, [2, 3, 4, 5])] 28)) from s_aast hK (by decide +kernel) yo_G yo_U),
  List.forall_mem_cons.mpr ⟨(show SE G 85 28 (.inl (i_al 0 29)) from s_aload_n (j := 0) (by decide +kernel)),
  List.forall_mem_cons.mpr ⟨(show SE G 85 29 (.inl (i_dup 30)) from s_dup (by decide +kernel)),
  List.forall_mem_cons.mpr ⟨(show SE G 85 30 (.inl (i_get [5] 8 33)) from s_get (idx := 25) (kk := 8) hK (by decide +kernel) (inW 290 (by decide +kernel) (by decide +kernel)) fo_T_entryCount),
  List.forall_mem_cons.mpr ⟨(show SE G 85 33 (.inl (i_c 1 34)) from s_iconst (e := 1) (by decide +kernel) (by decide)),
  List.forall_mem_cons.mpr ⟨(show SE G 85 34 (.inl (i_bin (fun a b => a + b) 35)) from s_iadd (by decide +kernel)),
  List.forall_mem_cons.mpr ⟨(show SE G 85 35 (.inl (i_put [5] 8 0 38)) from s_put (idx := 25) (kk := 8) (ty := 0) hK (by decide +kernel) (inW 290 (by decide +kernel) (by decide +kernel)) fo_T_entryCount po_85_T_entryCount),
  List.forall_mem_cons.mpr ⟨(show SE G 85 38 (.inl (i_al 0 39)) from s_aload_n (j := 0) (by decide +kernel)),
  List.forall_mem_cons.mpr ⟨(show SE G 85 39 (.inl (i_get [5] 7 42)) from s_get (idx := 17) (kk := 7) hK (by decide +kernel) (inW 289 (by decide +kernel) (by decide +kernel)) fo_T_values),
  List.forall_mem_cons.mpr ⟨(show SE G 85 42 (.inl (i_il 3 43)) from s_iload_n (j := 3) (by decide +kernel)),
  List.forall_mem_cons.mpr ⟨(show SE G 85 43 (.inl (i_al 2 44)) from s_aload_n (j := 2) (by decide +kernel)),
  List.forall_mem_cons.mpr ⟨(show SE G 85 44 (.inl (i_ast [(22, [3, 4, 5]), (23, [2, 3, 4, 5])] 45)) from s_aast hK (by decide +kernel) yo_G yo_U),
  List.forall_mem_cons.mpr ⟨(show SE G 85 45 (.inl (i_c 1 46)) from s_iconst (e := 1) (by decide +kernel) (by decide)),
  fun _ h => absurd h List.not_mem_nil⟩⟩⟩⟩⟩⟩⟩⟩⟩⟩⟩⟩⟩⟩⟩⟩⟩⟩⟩⟩⟩⟩⟩⟩⟩⟩⟩⟩⟩⟩
set_option maxRecDepth 20000 in
theorem ok_l_85_1 (hK : K0 G) : ∀ q ∈ l_85_1, SE G 85 q.1 q.2 :=
  List.forall_mem_cons.mpr ⟨(show SE G 85 46 (.inr (.inr 1)) from ⟨(by decide +kernel), rfl⟩),
  fun _ h => absurd h List.not_mem_nil⟩
theorem ok_l_85 (hK : K0 G) : ∀ q ∈ l_85, SE G 85 q.1 q.2 := by
  show ∀ q ∈ l_85_0 ++ (l_85_1), SE G 85 q.1 q.2
  exact List.forall_mem_append.mpr ⟨ok_l_85_0 hK, ok_l_85_1 hK⟩
set_option maxRecDepth 20000 in
theorem ok_l_86 (hK : K0 G) : ∀ q ∈ l_86, SE G 86 q.1 q.2 :=
  List.forall_mem_cons.mpr ⟨(show SE G 86 0 (.inl (i_al 0 1)) from s_aload_n (j := 0) (by decide +kernel)),
  List.forall_mem_cons.mpr ⟨(show SE G 86 1 (.inl (i_al 1 2)) from s_aload_n (j := 1) (by decide +kernel)),
  List.forall_mem_cons.mpr ⟨(show SE G 86 2 (.inr (.inl (false, 2, [(5, 87)], 5))) from ⟨c_virt (idx := 21) (n := 1) hK (by decide +kernel) (List.forall_mem_cons.mpr ⟨⟨ko_87, inW 324 (by decide +kernel) (by decide +kernel), inW 326 (by decide +kernel) (by decide +kernel), 4, _, rfl, by decide, rfl, inW 12 (by decide +kernel) (by decide +kernel)⟩, fun _ h => absurd h List.not_mem_nil⟩), (List.forall_mem_cons.mpr ⟨⟨mo_87, by decide⟩, fun _ h => absurd h List.not_mem_nil⟩)⟩),
  List.forall_mem_cons.mpr ⟨(show SE G 86 5 (.inl (i_is 2 6)) from s_istore_n (j := 2) (by decide +kernel) (by decide)),
  List.forall_mem_cons.mpr ⟨(show SE G 86 6 (.inl (i_il 2 7)) from s_iload_n (j := 2) (by decide +kernel)),
  List.forall_mem_cons.mpr ⟨(show SE G 86 7 (.inl (i_al 0 8)) from s_aload_n (j := 0) (by decide +kernel)),
  List.forall_mem_cons.mpr ⟨(show SE G 86 8 (.inl (i_get [5] 8 11)) from s_get (idx := 25) (kk := 8) hK (by decide +kernel) (inW 290 (by decide +kernel) (by decide +kernel)) fo_T_entryCount),
  List.forall_mem_cons.mpr ⟨(show SE G 86 11 (.inl (i_cmp 3 23 14)) from s_icmp_ge (tg := 23) (off := 12) (by decide +kernel) (by decide)),
  List.forall_mem_cons.mpr ⟨(show SE G 86 14 (.inl (i_al 0 15)) from s_aload_n (j := 0) (by decide +kernel)),
  List.forall_mem_cons.mpr ⟨(show SE G 86 15 (.inl (i_get [5] 7 18)) from s_get (idx := 17) (kk := 7) hK (by decide +kernel) (inW 289 (by decide +kernel) (by decide +kernel)) fo_T_values),
  List.forall_mem_cons.mpr ⟨(show SE G 86 18 (.inl (i_il 2 19)) from s_iload_n (j := 2) (by decide +kernel)),
  List.forall_mem_cons.mpr ⟨(show SE G 86 19 (.inl (i_ld [22, 23] 20)) from s_aald hK (by decide +kernel)),
  List.forall_mem_cons.mpr ⟨(show SE G 86 20 (.inl (i_go 24)) from s_goto (tg := 24) (off := 4) (by decide +kernel) (by decide)),
  List.forall_mem_cons.mpr ⟨(show SE G 86 23 (.inl (i_n 24)) from s_null (by decide +kernel)),
  List.forall_mem_cons.mpr ⟨(show SE G 86 24 (.inr (.inr 2)) from ⟨(by decide +kernel), _, rfl⟩),
  fun _ h => absurd h List.not_mem_nil⟩⟩⟩⟩⟩⟩⟩⟩⟩⟩⟩⟩⟩⟩⟩
set_option maxRecDepth 20000 in
theorem ok_l_87 (hK : K0 G) : ∀ q ∈ l_87, SE G 87 q.1 q.2 :=
  List.forall_mem_cons.mpr ⟨(show SE G 87 0 (.inl (i_c 0 1)) from s_iconst (e := 0) (by decide +kernel) (by decide)),
  List.forall_mem_cons.mpr ⟨(show SE G 87 1 (.inl (i_is 2 2)) from s_istore_n (j := 2) (by decide +kernel) (by decide)),
  List.forall_mem_cons.mpr ⟨(show SE G 87 2 (.inl (i_il 2 3)) from s_iload_n (j := 2) (by decide +kernel)),
  List.forall_mem_cons.mpr ⟨(show SE G 87 3 (.inl (i_al 0 4)) from s_aload_n (j := 0) (by decide +kernel)),
  List.forall_mem_cons.mpr ⟨(show SE G 87 4 (.inl (i_get [5] 8 7)) from s_get (idx := 25) (kk := 8) hK (by decide +kernel) (inW 290 (by decide +kernel) (by decide +kernel)) fo_T_entryCount),
  List.forall_mem_cons.mpr ⟨(show SE G 87 7 (.inl (i_cmp 3 28 10)) from s_icmp_ge (tg := 28) (off := 21) (by decide +kernel) (by decide)),
  List.forall_mem_cons.mpr ⟨(show SE G 87 10 (.inl (i_al 0 11)) from s_aload_n (j := 0) (by decide +kernel)),
  List.forall_mem_cons.mpr ⟨(show SE G 87 11 (.inl (i_get [5] 6 14)) from s_get (idx := 9) (kk := 6) hK (by decide +kernel) (inW 288 (by decide +kernel) (by decide +kernel)) fo_T_keys),
  List.forall_mem_cons.mpr ⟨(show SE G 87 14 (.inl (i_il 2 15)) from s_iload_n (j := 2) (by decide +kernel)),
  List.forall_mem_cons.mpr ⟨(show SE G 87 15 (.inl (i_ld [22, 23] 16)) from s_aald hK (by decide +kernel)),
  List.forall_mem_cons.mpr ⟨(show SE G 87 16 (.inl (i_al 1 17)) from s_aload_n (j := 1) (by decide +kernel)),
  List.forall_mem_cons.mpr ⟨(show SE G 87 17 (.inl (i_aeq 20 22)) from s_acmp_ne (tg := 22) (off := 5) (by decide +kernel) (by decide)),
  List.forall_mem_cons.mpr ⟨(show SE G 87 20 (.inl (i_il 2 21)) from s_iload_n (j := 2) (by decide +kernel)),
  List.forall_mem_cons.mpr ⟨(show SE G 87 21 (.inr (.inr 0)) from ⟨(by decide +kernel), rfl⟩),
  List.forall_mem_cons.mpr ⟨(show SE G 87 22 (.inl (i_ii 2 1 25)) from s_iinc (j := 2) (n := 1) (by decide +kernel) (by decide)),
  List.forall_mem_cons.mpr ⟨(show SE G 87 25 (.inl (i_go 2)) from s_goto (tg := 2) (off := -23) (by decide +kernel) (by decide)),
  List.forall_mem_cons.mpr ⟨(show SE G 87 28 (.inl (i_al 0 29)) from s_aload_n (j := 0) (by decide +kernel)),
  List.forall_mem_cons.mpr ⟨(show SE G 87 29 (.inl (i_get [5] 8 32)) from s_get (idx := 25) (kk := 8) hK (by decide +kernel) (inW 290 (by decide +kernel) (by decide +kernel)) fo_T_entryCount),
  List.forall_mem_cons.mpr ⟨(show SE G 87 32 (.inr (.inr 0)) from ⟨(by decide +kernel), rfl⟩),
  fun _ h => absurd h List.not_mem_nil⟩⟩⟩⟩⟩⟩⟩⟩⟩⟩⟩⟩⟩⟩⟩⟩⟩⟩⟩
end OK5
end
section
/-! each method's instructions are sound (by program) -/
section OK6
variable {G : MG}
set_option maxRecDepth 20000 in
theorem ok_l_88 (hK : K0 G) : ∀ q ∈ l_88, SE G 88 q.1 q.2 :=
  List.forall_mem_cons.mpr ⟨(show SE G 88 0 (.inl (i_c 4 1)) from s_iconst (e := 4) (by decide +kernel) (by decide)),
  List.forall_mem_cons.mpr ⟨(show SE G 88 1 (.inr (.inr 0)) from ⟨(by decide +kernel), rfl⟩),
  fun _ h => absurd h List.not_mem_nil⟩⟩
set_option maxRecDepth 20000 in
theorem ok_l_89 (hK : K0 G) : ∀ q ∈ l_89, SE G 89 q.1 q.2 :=
  List.forall_mem_cons.mpr ⟨(show SE G 89 0 (.inl (i_al 0 1)) from s_aload_n (j := 0) (by decide +kernel)),
  List.forall_mem_cons.mpr ⟨(show SE G 89 1 (.inl (i_get [5] 8 4)) from s_get (idx := 25) (kk := 8) hK (by decide +kernel) (inW 290 (by decide +kernel) (by decide +kernel)) fo_T_entryCount),
  List.forall_mem_cons.mpr ⟨(show SE G 89 4 (.inr (.inr 0)) from ⟨(by decide +kernel), rfl⟩),
  fun _ h => absurd h List.not_mem_nil⟩⟩⟩
set_option maxRecDepth 20000 in
theorem ok_l_90 (hK : K0 G) : ∀ q ∈ l_90, SE G 90 q.1 q.2 :=
  List.forall_mem_cons.mpr ⟨(show SE G 90 0 (.inl (i_c 0 1)) from s_iconst (e := 0) (by decide +kernel) (by decide)),
  List.forall_mem_cons.mpr ⟨(show SE G 90 1 (.inl (i_is 1 2)) from s_istore_n (j := 1) (by decide +kernel) (by decide)),
  List.forall_mem_cons.mpr ⟨(show SE G 90 2 (.inl (i_c 0 3)) from s_iconst (e := 0) (by decide +kernel) (by decide)),
  List.forall_mem_cons.mpr ⟨(show SE G 90 3 (.inl (i_is 2 4)) from s_istore_n (j := 2) (by decide +kernel) (by decide)),
  List.forall_mem_cons.mpr ⟨(show SE G 90 4 (.inl (i_il 2 5)) from s_iload_n (j := 2) (by decide +kernel)),
  List.forall_mem_cons.mpr ⟨(show SE G 90 5 (.inl (i_al 0 6)) from s_aload_n (j := 0) (by decide +kernel)),
  List.forall_mem_cons.mpr ⟨(show SE G 90 6 (.inl (i_get [5] 8 9)) from s_get (idx := 25) (kk := 8) hK (by decide +kernel) (inW 290 (by decide +kernel) (by decide +kernel)) fo_T_entryCount),
  List.forall_mem_cons.mpr ⟨(show SE G 90 9 (.inl (i_cmp 3 50 12)) from s_icmp_ge (tg := 50) (off := 41) (by decide +kernel) (by decide)),
  List.forall_mem_cons.mpr ⟨(show SE G 90 12 (.inl (i_al 0 13)) from s_aload_n (j := 0) (by decide +kernel)),
  List.forall_mem_cons.mpr ⟨(show SE G 90 13 (.inl (i_get [5] 6 16)) from s_get (idx := 9) (kk := 6) hK (by decide +kernel) (inW 288 (by decide +kernel) (by decide +kernel)) fo_T_keys),
  List.forall_mem_cons.mpr ⟨(show SE G 90 16 (.inl (i_il 2 17)) from s_iload_n (j := 2) (by decide +kernel)),
  List.forall_mem_cons.mpr ⟨(show SE G 90 17 (.inl (i_ld [22, 23] 18)) from s_aald hK (by decide +kernel)),
  List.forall_mem_cons.mpr ⟨(show SE G 90 18 (.inl (i_as 3 19)) from s_astore_n (j := 3) (by decide +kernel) (by decide)),
  List.forall_mem_cons.mpr ⟨(show SE G 90 19 (.inl (i_al 3 20)) from s_aload_n (j := 3) (by decide +kernel)),
  List.forall_mem_cons.mpr ⟨(show SE G 90 20 (.inl (i_nul 44 23)) from s_ifnull (tg := 44) (off := 24) (by decide +kernel) (by decide)),
  List.forall_mem_cons.mpr ⟨(show SE G 90 23 (.inl (i_al 3 24)) from s_aload_n (j := 3) (by decide +kernel)),
  List.forall_mem_cons.mpr ⟨(show SE G 90 24 (.inl (i_get [3, 4, 5] 3 27)) from s_get (idx := 29) (kk := 3) hK (by decide +kernel) (inW 227 (by decide +kernel) (by decide +kernel)) fo_G_marked),
  List.forall_mem_cons.mpr ⟨(show SE G 90 27 (.inl (i_z 0 44 30)) from s_if_eq (tg := 44) (off := 17) (by decide +kernel) (by decide)),
  List.forall_mem_cons.mpr ⟨(show SE G 90 30 (.inl (i_al 0 31)) from s_aload_n (j := 0) (by decide +kernel)),
  List.forall_mem_cons.mpr ⟨(show SE G 90 31 (.inl (i_get [5] 7 34)) from s_get (idx := 17) (kk := 7) hK (by decide +kernel) (inW 289 (by decide +kernel) (by decide +kernel)) fo_T_values),
  List.forall_mem_cons.mpr ⟨(show SE G 90 34 (.inl (i_il 2 35)) from s_iload_n (j := 2) (by decide +kernel)),
  List.forall_mem_cons.mpr ⟨(show SE G 90 35 (.inl (i_ld [22, 23] 36)) from s_aald hK (by decide +kernel)),
  List.forall_mem_cons.mpr ⟨(show SE G 90 36 (.inr (.inl (true, 1, [(0, 35)], 39))) from ⟨c_staticN (idx := 33) (n := 1) (k1 := 35) (host := "ResurrectingHeap") (by decide +kernel) ko_35 (inW 169 (by decide +kernel) (by decide +kernel)) (inW 147 (by decide +kernel) (by decide +kernel)), (List.forall_mem_cons.mpr ⟨⟨mo_35, by decide⟩, fun _ h => absurd h List.not_mem_nil⟩)⟩),
  List.forall_mem_cons.mpr ⟨(show SE G 90 39 (.inl (i_z 0 44 42)) from s_if_eq (tg := 44) (off := 5) (by decide +kernel) (by decide)),
  List.forall_mem_cons.mpr ⟨(show SE G 90 42 (.inl (i_c 1 43)) from s_iconst (e := 1) (by decide +kernel) (by decide)),
  List.forall_mem_cons.mpr ⟨(show SE G 90 43 (.inl (i_is 1 44)) from s_istore_n (j := 1) (by decide +kernel) (by decide)),
  List.forall_mem_cons.mpr ⟨(show SE G 90 44 (.inl (i_ii 2 1 47)) from s_iinc (j := 2) (n := 1) (by decide +kernel) (by decide)),
  List.forall_mem_cons.mpr ⟨(show SE G 90 47 (.inl (i_go 4)) from s_goto (tg := 4) (off := -43) (by decide +kernel) (by decide)),
  List.forall_mem_cons.mpr ⟨(show SE G 90 50 (.inl (i_il 1 51)) from s_iload_n (j := 1) (by decide +kernel)),
  List.forall_mem_cons.mpr ⟨(show SE G 90 51 (.inr (.inr 1)) from ⟨(by decide +kernel), rfl⟩),
  fun _ h => absurd h List.not_mem_nil⟩⟩⟩⟩⟩⟩⟩⟩⟩⟩⟩⟩⟩⟩⟩⟩⟩⟩⟩⟩⟩⟩⟩⟩⟩⟩⟩⟩⟩⟩
set_option maxRecDepth 20000 in
theorem ok_l_91_0 (hK : K0 G) : ∀ q ∈ l_91_0, SE G 91 q.1 q.2 :=
  List.forall_mem_cons.mpr ⟨(show SE G 91 0 (.inl (i_c 0 1)) from s_iconst (e := 0) (by decide +kernel) (by decide)),
  List.forall_mem_cons.mpr ⟨(show SE G 91 1 (.inl (i_is 1 2)) from s_istore_n (j := 1) (by decide +kernel) (by decide)),
  List.forall_mem_cons.mpr ⟨(show SE G 91 2 (.inl (i_c 0 3)) from s_iconst (e := 0) (by decide +kernel) (by decide)),
  List.forall_mem_cons.mpr ⟨(show SE G 91 3 (.inl (i_is 2 4)) from s_istore_n (j := 2) (by decide +kernel) (by decide)),
  List.forall_mem_cons.mpr ⟨(show SE G 91 4 (.inl (i_il 2 5)) from s_iload_n (j := 2) (by decide +kernel)),
  List.forall_mem_cons.mpr ⟨(show SE G 91 5 (.inl (i_al 0 6)) from s_aload_n (j := 0) (by decide +kernel)),
  List.forall_mem_cons.mpr ⟨(show SE G 91 6 (.inl (i_get [5] 8 9)) from s_get (idx := 25) (kk := 8) hK (by decide +kernel) (inW 290 (by decide +kernel) (by decide +kernel)) fo_T_entryCount),
  List.forall_mem_cons.mpr ⟨(show SE G 91 9 (.inl (i_cmp 3 58 12)) from s_icmp_ge (tg := 58) (off := 49) (by decide +kernel) (by decide)),
  List.forall_mem_cons.mpr ⟨(show SE G 91 12 (.inl (i_al 0 13)) from s_aload_n (j := 0) (by decide +kernel)),
  List.forall_mem_cons.mpr ⟨(show SE G 91 13 (.inl (i_get [5] 6 16)) from s_get (idx := 9) (kk := 6) hK (by decide +kernel) (inW 288 (by decide +kernel) (by decide +kernel)) fo_T_keys),
  List.forall_mem_cons.mpr ⟨(show SE G 91 16 (.inl (i_il 2 17)) from s_iload_n (j := 2) (by decide +kernel)),
  List.forall_mem_cons.mpr ⟨(show SE G 91 17 (.inl (i_ld [22, 23] 18)) from s_aald hK (by decide +kernel)),
  List.forall_mem_cons.mpr ⟨(show SE G 91 18 (.inl (i_as 3 19)) from s_astore_n (j := 3) (by decide +kernel) (by decide)),
  List.forall_mem_cons.mpr ⟨(show SE G 91 19 (.inl (i_al 3 20)) from s_aload_n (j := 3) (by decide +kernel)),
  List.forall_mem_cons.mpr ⟨(show SE G 91 20 (.inl (i_nul 52 23)) from s_ifnull (tg := 52) (off := 32) (by decide +kernel) (by decide)),
  List.forall_mem_cons.mpr ⟨(show SE G 91 23 (.inl (i_al 3 24)) from s_aload_n (j := 3) (by decide +kernel)),
  List.forall_mem_cons.mpr ⟨(show SE G 91 24 (.inl (i_get [3, 4, 5] 3 27)) from s_get (idx := 29) (kk := 3) hK (by decide +kernel) (inW 227 (by decide +kernel) (by decide +kernel)) fo_G_marked),
  List.forall_mem_cons.mpr ⟨(show SE G 91 27 (.inl (i_z 0 52 30)) from s_if_eq (tg := 52) (off := 25) (by decide +kernel) (by decide)),
  List.forall_mem_cons.mpr ⟨(show SE G 91 30 (.inl (i_al 0 31)) from s_aload_n (j := 0) (by decide +kernel)),
  List.forall_mem_cons.mpr ⟨(show SE G 91 31 (.inl (i_get [5] 6 34)) from s_get (idx := 9) (kk := 6) hK (by decide +kernel) (inW 288 (by decide +kernel) (by decide +kernel)) fo_T_keys),
  List.forall_mem_cons.mpr ⟨(show SE G 91 34 (.inl (i_il 1 35)) from s_iload_n (j := 1) (by decide +kernel)),
  List.forall_mem_cons.mpr ⟨(show SE G 91 35 (.inl (i_al 3 36)) from s_aload_n (j := 3) (by decide +kernel)),
  List.forall_mem_cons.mpr ⟨(show SE G 91 36 (.inl (i_ast [(22, [3, 4, 5]), (23, [2, 3, 4, 5])] 37)) from s_aast hK (by decide +kernel) yo_G yo_U),
  List.forall_mem_cons.mpr ⟨(show SE G 91 37 (.inl (i_al 0 38)) from s_aload_n (j := 0) (by decide +kernel)),
  List.forall_mem_cons.mpr ⟨(show SE G 91 38 (.inl (i_get [5] 7 41)) from s_get (idx := 17) (kk := 7) hK (by decide +kernel) (inW 289 (by decide +kernel) (by decide +kernel)) fo_T_values),
  List.forall_mem_cons.mpr ⟨(show SE G 91 41 (.inl (i_il 1 42)) from s_iload_n (j := 1) (by decide +kernel)),
  List.forall_mem_cons.mpr ⟨(show SE G 91 42 (.inl (i_al 0 43)) from s_aload_n (j := 0) (by decide +kernel)),
  List.forall_mem_cons.mpr ⟨(show SE G 91 43 (.inl (i_get [5] 7 46)) from s_get (idx := 17) (kk := 7) hK (by decide +kernel) (inW 289 (by decide +kernel) (by decide +kernel)) fo_T_values),
  List.forall_mem_cons.mpr ⟨(show SE G 91 46 (.inl (i_il 2 47)) from s_iload_n (j := 2) (by decide +kernel)),
  List.forall_mem_cons.mpr ⟨(show SE G 91 47 (.inl (i_ld [22, 23] 48)) from s_aald hK (by decide +kernel)),
  fun _ h => absurd h List.not_mem_nil⟩⟩⟩⟩⟩⟩⟩⟩⟩⟩⟩⟩⟩⟩⟩⟩⟩⟩⟩⟩⟩⟩⟩⟩⟩⟩⟩⟩⟩⟩
set_option maxRecDepth 20000 in
theorem ok_l_91_1 (hK : K0 G) : ∀ q ∈ l_91_1, SE G 91 q.1 q.2 :=
  List.forall_mem_cons.mpr ⟨(show SE G 91 48 (.inl (i_ast [(22, [3, 4, 5]), (23, [2, 3, 4, 5])] 49)) from s_aast hK (by decide +kernel) yo_G yo_U),
  List.forall_mem_cons.mpr ⟨(show SE G 91 49 (.inl (i_ii 1 1 52)) from s_iinc (j := 1) (n := 1) (by decide +kernel) (by decide)),
  List.forall_mem_cons.mpr ⟨(show SE G 91 52 (.inl (i_ii 2 1 55)) from s_iinc (j := 2) (n := 1) (by decide +kernel) (by decide)),
  List.forall_mem_cons.mpr ⟨(show SE G 91 55 (.inl (i_go 4)) from s_goto (tg := 4) (off := -51) (by decide +kernel) (by decide)),
  List.forall_mem_cons.mpr ⟨(show SE G 91 58 (.inl (i_al 0 59)) from s_aload_n (j := 0) (by decide +kernel)),
  List.forall_mem_cons.mpr ⟨(show SE G 91 59 (.inl (i_il 1 60)) from s_iload_n (j := 1) (by decide +kernel)),
  List.forall_mem_cons.mpr ⟨(show SE G 91 60 (.inl (i_put [5] 8 0 63)) from s_put (idx := 25) (kk := 8) (ty := 0) hK (by decide +kernel) (inW 290 (by decide +kernel) (by decide +kernel)) fo_T_entryCount po_91_T_entryCount),
  List.forall_mem_cons.mpr ⟨(show SE G 91 63 (.inr (.inr 3)) from ⟨(by decide +kernel), rfl⟩),
  fun _ h => absurd h List.not_mem_nil⟩⟩⟩⟩⟩⟩⟩⟩
theorem ok_l_91 (hK : K0 G) : ∀ q ∈ l_91, SE G 91 q.1 q.2 := by
  show ∀ q ∈ l_91_0 ++ (l_91_1), SE G 91 q.1 q.2
  exact List.forall_mem_append.mpr ⟨ok_l_91_0 hK, ok_l_91_1 hK⟩
set_option maxRecDepth 20000 in
theorem ok_l_92 (hK : K0 G) : ∀ q ∈ l_92, SE G 92 q.1 q.2 :=
  List.forall_mem_cons.mpr ⟨(show SE G 92 0 (.inl (i_al 0 1)) from s_aload_n (j := 0) (by decide +kernel)),
  List.forall_mem_cons.mpr ⟨(show SE G 92 1 (.inr (.inl (false, 1, [(2, 93), (3, 93), (4, 93), (5, 93)], 4))) from ⟨c_initN (idx := 1) (n := 0) (k1 := 93) (host := "ResurrectingHeap") (ts := [2, 3, 4, 5]) (by decide +kernel) ko_93 (inW 217 (by decide +kernel) (by decide +kernel)) (inW 102 (by decide +kernel) (by decide +kernel)) rfl rfl, (List.forall_mem_cons.mpr ⟨⟨mo_93, by decide⟩, List.forall_mem_cons.mpr ⟨⟨mo_93, by decide⟩, List.forall_mem_cons.mpr ⟨⟨mo_93, by decide⟩, List.forall_mem_cons.mpr ⟨⟨mo_93, by decide⟩, fun _ h => absurd h List.not_mem_nil⟩⟩⟩⟩)⟩),
  List.forall_mem_cons.mpr ⟨(show SE G 92 4 (.inl (i_al 0 5)) from s_aload_n (j := 0) (by decide +kernel)),
  List.forall_mem_cons.mpr ⟨(show SE G 92 5 (.inl (i_il 1 6)) from s_iload_n (j := 1) (by decide +kernel)),
  List.forall_mem_cons.mpr ⟨(show SE G 92 6 (.inl (i_put [3, 4, 5] 0 0 9)) from s_put (idx := 7) (kk := 0) (ty := 0) hK (by decide +kernel) (inW 221 (by decide +kernel) (by decide +kernel)) fo_G_hash po_92_G_hash),
  List.forall_mem_cons.mpr ⟨(show SE G 92 9 (.inl (i_al 0 10)) from s_aload_n (j := 0) (by decide +kernel)),
  List.forall_mem_cons.mpr ⟨(show SE G 92 10 (.inl (i_il 2 11)) from s_iload_n (j := 2) (by decide +kernel)),
  List.forall_mem_cons.mpr ⟨(show SE G 92 11 (.inl (i_put [3, 4, 5] 1 0 14)) from s_put (idx := 13) (kk := 1) (ty := 0) hK (by decide +kernel) (inW 223 (by decide +kernel) (by decide +kernel)) fo_G_cells po_92_G_cells),
  List.forall_mem_cons.mpr ⟨(show SE G 92 14 (.inr (.inr 3)) from ⟨(by decide +kernel), rfl⟩),
  fun _ h => absurd h List.not_mem_nil⟩⟩⟩⟩⟩⟩⟩⟩⟩
set_option maxRecDepth 20000 in
theorem ok_l_93 (hK : K0 G) : ∀ q ∈ l_93, SE G 93 q.1 q.2 :=
  List.forall_mem_cons.mpr ⟨(show SE G 93 0 (.inl (i_al 0 1)) from s_aload_n (j := 0) (by decide +kernel)),
  List.forall_mem_cons.mpr ⟨(show SE G 93 1 (.inl (i_obj 4)) from s_obj (idx := 1) (by decide +kernel) (inW 104 (by decide +kernel) (by decide +kernel)) (inW 46 (by decide +kernel) (by decide +kernel)) (inW 47 (by decide +kernel) (by decide +kernel))),
  List.forall_mem_cons.mpr ⟨(show SE G 93 4 (.inr (.inr 3)) from ⟨(by decide +kernel), rfl⟩),
  fun _ h => absurd h List.not_mem_nil⟩⟩⟩
set_option maxRecDepth 20000 in
theorem ok_l_94 (hK : K0 G) : ∀ q ∈ l_94, SE G 94 q.1 q.2 :=
  List.forall_mem_cons.mpr ⟨(show SE G 94 0 (.inl (i_al 0 1)) from s_aload_n (j := 0) (by decide +kernel)),
  List.forall_mem_cons.mpr ⟨(show SE G 94 1 (.inl (i_il 1 2)) from s_iload_n (j := 1) (by decide +kernel)),
  List.forall_mem_cons.mpr ⟨(show SE G 94 2 (.inl (i_c 2 3)) from s_iconst (e := 2) (by decide +kernel) (by decide)),
  List.forall_mem_cons.mpr ⟨(show SE G 94 3 (.inl (i_il 2 4)) from s_iload_n (j := 2) (by decide +kernel)),
  List.forall_mem_cons.mpr ⟨(show SE G 94 4 (.inl (i_bin (fun a b => a + b) 5)) from s_iadd (by decide +kernel)),
  List.forall_mem_cons.mpr ⟨(show SE G 94 5 (.inr (.inl (false, 3, [(3, 92), (4, 92), (5, 92)], 8))) from ⟨c_init (idx := 3) (n := 2) (k1 := 92) (ts := [3, 4, 5]) (by decide +kernel) ko_92 (inW 214 (by decide +kernel) (by decide +kernel)) (inW 215 (by decide +kernel) (by decide +kernel)) rfl rfl, (List.forall_mem_cons.mpr ⟨⟨mo_92, by decide⟩, List.forall_mem_cons.mpr ⟨⟨mo_92, by decide⟩, List.forall_mem_cons.mpr ⟨⟨mo_92, by decide⟩, fun _ h => absurd h List.not_mem_nil⟩⟩⟩)⟩),
  List.forall_mem_cons.mpr ⟨(show SE G 94 8 (.inl (i_al 0 9)) from s_aload_n (j := 0) (by decide +kernel)),
  List.forall_mem_cons.mpr ⟨(show SE G 94 9 (.inl (i_il 2 10)) from s_iload_n (j := 2) (by decide +kernel)),
  List.forall_mem_cons.mpr ⟨(show SE G 94 10 (.inl (i_newa 23 (.inr none) 13)) from s_anew (idx := 9) (j := 3) (E := "ResurrectingHeap$Value") hK (by decide +kernel) (inW 218 (by decide +kernel) (by decide +kernel)) (by decide +kernel) (by decide) rfl),
  List.forall_mem_cons.mpr ⟨(show SE G 94 13 (.inl (i_put [3] 6 2 16)) from s_put (idx := 11) (kk := 6) (ty := 2) hK (by decide +kernel) (inW 219 (by decide +kernel) (by decide +kernel)) fo_V_fields po_94_V_fields),
  List.forall_mem_cons.mpr ⟨(show SE G 94 16 (.inr (.inr 3)) from ⟨(by decide +kernel), rfl⟩),
  fun _ h => absurd h List.not_mem_nil⟩⟩⟩⟩⟩⟩⟩⟩⟩⟩⟩
set_option maxRecDepth 20000 in
theorem ok_l_95 (hK : K0 G) : ∀ q ∈ l_95, SE G 95 q.1 q.2 :=
  List.forall_mem_cons.mpr ⟨(show SE G 95 0 (.inl (i_il 1 1)) from s_iload_n (j := 1) (by decide +kernel)),
  List.forall_mem_cons.mpr ⟨(show SE G 95 1 (.inl (i_z 2 17 4)) from s_if_lt (tg := 17) (off := 16) (by decide +kernel) (by decide)),
  List.forall_mem_cons.mpr ⟨(show SE G 95 4 (.inl (i_il 1 5)) from s_iload_n (j := 1) (by decide +kernel)),
  List.forall_mem_cons.mpr ⟨(show SE G 95 5 (.inl (i_al 0 6)) from s_aload_n (j := 0) (by decide +kernel)),
  List.forall_mem_cons.mpr ⟨(show SE G 95 6 (.inl (i_get [3] 6 9)) from s_get (idx := 11) (kk := 6) hK (by decide +kernel) (inW 219 (by decide +kernel) (by decide +kernel)) fo_V_fields),
  List.forall_mem_cons.mpr ⟨(show SE G 95 9 (.inl (i_len 10)) from s_len hK (by decide +kernel)),
  List.forall_mem_cons.mpr ⟨(show SE G 95 10 (.inl (i_cmp 3 17 13)) from s_icmp_ge (tg := 17) (off := 7) (by decide +kernel) (by decide)),
  List.forall_mem_cons.mpr ⟨(show SE G 95 13 (.inl (i_c 1 14)) from s_iconst (e := 1) (by decide +kernel) (by decide)),
  List.forall_mem_cons.mpr ⟨(show SE G 95 14 (.inl (i_go 18)) from s_goto (tg := 18) (off := 4) (by decide +kernel) (by decide)),
  List.forall_mem_cons.mpr ⟨(show SE G 95 17 (.inl (i_c 0 18)) from s_iconst (e := 0) (by decide +kernel) (by decide)),
  List.forall_mem_cons.mpr ⟨(show SE G 95 18 (.inr (.inr 1)) from ⟨(by decide +kernel), rfl⟩),
  fun _ h => absurd h List.not_mem_nil⟩⟩⟩⟩⟩⟩⟩⟩⟩⟩⟩
set_option maxRecDepth 20000 in
theorem ok_l_96 (hK : K0 G) : ∀ q ∈ l_96, SE G 96 q.1 q.2 :=
  List.forall_mem_cons.mpr ⟨(show SE G 96 0 (.inl (i_c 2 1)) from s_iconst (e := 2) (by decide +kernel) (by decide)),
  List.forall_mem_cons.mpr ⟨(show SE G 96 1 (.inr (.inr 0)) from ⟨(by decide +kernel), rfl⟩),
  fun _ h => absurd h List.not_mem_nil⟩⟩
set_option maxRecDepth 20000 in
theorem ok_l_97 (hK : K0 G) : ∀ q ∈ l_97, SE G 97 q.1 q.2 :=
  List.forall_mem_cons.mpr ⟨(show SE G 97 0 (.inl (i_al 0 1)) from s_aload_n (j := 0) (by decide +kernel)),
  List.forall_mem_cons.mpr ⟨(show SE G 97 1 (.inl (i_get [3] 6 4)) from s_get (idx := 11) (kk := 6) hK (by decide +kernel) (inW 219 (by decide +kernel) (by decide +kernel)) fo_V_fields),
  List.forall_mem_cons.mpr ⟨(show SE G 97 4 (.inl (i_len 5)) from s_len hK (by decide +kernel)),
  List.forall_mem_cons.mpr ⟨(show SE G 97 5 (.inr (.inr 0)) from ⟨(by decide +kernel), rfl⟩),
  fun _ h => absurd h List.not_mem_nil⟩⟩⟩⟩
set_option maxRecDepth 20000 in
theorem ok_l_98 (hK : K0 G) : ∀ q ∈ l_98, SE G 98 q.1 q.2 :=
  List.forall_mem_cons.mpr ⟨(show SE G 98 0 (.inl (i_c 0 1)) from s_iconst (e := 0) (by decide +kernel) (by decide)),
  List.forall_mem_cons.mpr ⟨(show SE G 98 1 (.inl (i_is 1 2)) from s_istore_n (j := 1) (by decide +kernel) (by decide)),
  List.forall_mem_cons.mpr ⟨(show SE G 98 2 (.inl (i_c 0 3)) from s_iconst (e := 0) (by decide +kernel) (by decide)),
  List.forall_mem_cons.mpr ⟨(show SE G 98 3 (.inl (i_is 2 4)) from s_istore_n (j := 2) (by decide +kernel) (by decide)),
  List.forall_mem_cons.mpr ⟨(show SE G 98 4 (.inl (i_il 2 5)) from s_iload_n (j := 2) (by decide +kernel)),
  List.forall_mem_cons.mpr ⟨(show SE G 98 5 (.inl (i_al 0 6)) from s_aload_n (j := 0) (by decide +kernel)),
  List.forall_mem_cons.mpr ⟨(show SE G 98 6 (.inl (i_get [3] 6 9)) from s_get (idx := 11) (kk := 6) hK (by decide +kernel) (inW 219 (by decide +kernel) (by decide +kernel)) fo_V_fields),
  List.forall_mem_cons.mpr ⟨(show SE G 98 9 (.inl (i_len 10)) from s_len hK (by decide +kernel)),
  List.forall_mem_cons.mpr ⟨(show SE G 98 10 (.inl (i_cmp 3 33 13)) from s_icmp_ge (tg := 33) (off := 23) (by decide +kernel) (by decide)),
  List.forall_mem_cons.mpr ⟨(show SE G 98 13 (.inl (i_al 0 14)) from s_aload_n (j := 0) (by decide +kernel)),
  List.forall_mem_cons.mpr ⟨(show SE G 98 14 (.inl (i_get [3] 6 17)) from s_get (idx := 11) (kk := 6) hK (by decide +kernel) (inW 219 (by decide +kernel) (by decide +kernel)) fo_V_fields),
  List.forall_mem_cons.mpr ⟨(show SE G 98 17 (.inl (i_il 2 18)) from s_iload_n (j := 2) (by decide +kernel)),
  List.forall_mem_cons.mpr ⟨(show SE G 98 18 (.inl (i_ld [22, 23] 19)) from s_aald hK (by decide +kernel)),
  List.forall_mem_cons.mpr ⟨(show SE G 98 19 (.inr (.inl (true, 1, [(0, 35)], 22))) from ⟨c_staticN (idx := 17) (n := 1) (k1 := 35) (host := "ResurrectingHeap") (by decide +kernel) ko_35 (inW 173 (by decide +kernel) (by decide +kernel)) (inW 147 (by decide +kernel) (by decide +kernel)), (List.forall_mem_cons.mpr ⟨⟨mo_35, by decide⟩, fun _ h => absurd h List.not_mem_nil⟩)⟩),
  List.forall_mem_cons.mpr ⟨(show SE G 98 22 (.inl (i_z 0 27 25)) from s_if_eq (tg := 27) (off := 5) (by decide +kernel) (by decide)),
  List.forall_mem_cons.mpr ⟨(show SE G 98 25 (.inl (i_c 1 26)) from s_iconst (e := 1) (by decide +kernel) (by decide)),
  List.forall_mem_cons.mpr ⟨(show SE G 98 26 (.inl (i_is 1 27)) from s_istore_n (j := 1) (by decide +kernel) (by decide)),
  List.forall_mem_cons.mpr ⟨(show SE G 98 27 (.inl (i_ii 2 1 30)) from s_iinc (j := 2) (n := 1) (by decide +kernel) (by decide)),
  List.forall_mem_cons.mpr ⟨(show SE G 98 30 (.inl (i_go 4)) from s_goto (tg := 4) (off := -26) (by decide +kernel) (by decide)),
  List.forall_mem_cons.mpr ⟨(show SE G 98 33 (.inl (i_il 1 34)) from s_iload_n (j := 1) (by decide +kernel)),
  List.forall_mem_cons.mpr ⟨(show SE G 98 34 (.inr (.inr 1)) from ⟨(by decide +kernel), rfl⟩),
  fun _ h => absurd h List.not_mem_nil⟩⟩⟩⟩⟩⟩⟩⟩⟩⟩⟩⟩⟩⟩⟩⟩⟩⟩⟩⟩⟩
set_option maxRecDepth 20000 in
theorem ok_l_99 (hK : K0 G) : ∀ q ∈ l_99, SE G 99 q.1 q.2 :=
  List.forall_mem_cons.mpr ⟨(show SE G 99 0 (.inr (.inr 3)) from ⟨(by decide +kernel), rfl⟩),
  fun _ h => absurd h List.not_mem_nil⟩
set_option maxRecDepth 20000 in
theorem ok_l_100 (hK : K0 G) : ∀ q ∈ l_100, SE G 100 q.1 q.2 :=
  List.forall_mem_cons.mpr ⟨(show SE G 100 0 (.inl (i_al 0 1)) from s_aload_n (j := 0) (by decide +kernel)),
  List.forall_mem_cons.mpr ⟨(show SE G 100 1 (.inl (i_il 1 2)) from s_iload_n (j := 1) (by decide +kernel)),
  List.forall_mem_cons.mpr ⟨(show SE G 100 2 (.inl (i_c 3 3)) from s_iconst (e := 3) (by decide +kernel) (by decide)),
  List.forall_mem_cons.mpr ⟨(show SE G 100 3 (.inr (.inl (false, 3, [(3, 92), (4, 92), (5, 92)], 6))) from ⟨c_init (idx := 3) (n := 2) (k1 := 92) (ts := [3, 4, 5]) (by decide +kernel) ko_92 (inW 264 (by decide +kernel) (by decide +kernel)) (inW 215 (by decide +kernel) (by decide +kernel)) rfl rfl, (List.forall_mem_cons.mpr ⟨⟨mo_92, by decide⟩, List.forall_mem_cons.mpr ⟨⟨mo_92, by decide⟩, List.forall_mem_cons.mpr ⟨⟨mo_92, by decide⟩, fun _ h => absurd h List.not_mem_nil⟩⟩⟩)⟩),
  List.forall_mem_cons.mpr ⟨(show SE G 100 6 (.inl (i_al 0 7)) from s_aload_n (j := 0) (by decide +kernel)),
  List.forall_mem_cons.mpr ⟨(show SE G 100 7 (.inl (i_al 2 8)) from s_aload_n (j := 2) (by decide +kernel)),
  List.forall_mem_cons.mpr ⟨(show SE G 100 8 (.inl (i_put [4] 6 2 11)) from s_put (idx := 9) (kk := 6) (ty := 2) hK (by decide +kernel) (inW 265 (by decide +kernel) (by decide +kernel)) fo_K_target po_100_K_target),
  List.forall_mem_cons.mpr ⟨(show SE G 100 11 (.inr (.inr 3)) from ⟨(by decide +kernel), rfl⟩),
  fun _ h => absurd h List.not_mem_nil⟩⟩⟩⟩⟩⟩⟩⟩
set_option maxRecDepth 20000 in
theorem ok_l_101 (hK : K0 G) : ∀ q ∈ l_101, SE G 101 q.1 q.2 :=
  List.forall_mem_cons.mpr ⟨(show SE G 101 0 (.inl (i_c 3 1)) from s_iconst (e := 3) (by decide +kernel) (by decide)),
  List.forall_mem_cons.mpr ⟨(show SE G 101 1 (.inr (.inr 0)) from ⟨(by decide +kernel), rfl⟩),
  fun _ h => absurd h List.not_mem_nil⟩⟩
set_option maxRecDepth 20000 in
theorem ok_l_102 (hK : K0 G) : ∀ q ∈ l_102, SE G 102 q.1 q.2 :=
  List.forall_mem_cons.mpr ⟨(show SE G 102 0 (.inl (i_al 0 1)) from s_aload_n (j := 0) (by decide +kernel)),
  List.forall_mem_cons.mpr ⟨(show SE G 102 1 (.inl (i_get [4] 6 4)) from s_get (idx := 9) (kk := 6) hK (by decide +kernel) (inW 265 (by decide +kernel) (by decide +kernel)) fo_K_target),
  List.forall_mem_cons.mpr ⟨(show SE G 102 4 (.inl (i_nul 7 11)) from s_ifnonnull (tg := 11) (off := 7) (by decide +kernel) (by decide)),
  List.forall_mem_cons.mpr ⟨(show SE G 102 7 (.inl (i_c 0 8)) from s_iconst (e := 0) (by decide +kernel) (by decide)),
  List.forall_mem_cons.mpr ⟨(show SE G 102 8 (.inl (i_go 12)) from s_goto (tg := 12) (off := 4) (by decide +kernel) (by decide)),
  List.forall_mem_cons.mpr ⟨(show SE G 102 11 (.inl (i_c 1 12)) from s_iconst (e := 1) (by decide +kernel) (by decide)),
  List.forall_mem_cons.mpr ⟨(show SE G 102 12 (.inr (.inr 0)) from ⟨(by decide +kernel), rfl⟩),
  fun _ h => absurd h List.not_mem_nil⟩⟩⟩⟩⟩⟩⟩
set_option maxRecDepth 20000 in
theorem ok_l_103 (hK : K0 G) : ∀ q ∈ l_103, SE G 103 q.1 q.2 :=
  List.forall_mem_cons.mpr ⟨(show SE G 103 0 (.inl (i_c 0 1)) from s_iconst (e := 0) (by decide +kernel) (by decide)),
  List.forall_mem_cons.mpr ⟨(show SE G 103 1 (.inr (.inr 1)) from ⟨(by decide +kernel), rfl⟩),
  fun _ h => absurd h List.not_mem_nil⟩⟩
set_option maxRecDepth 20000 in
theorem ok_l_104 (hK : K0 G) : ∀ q ∈ l_104, SE G 104 q.1 q.2 :=
  List.forall_mem_cons.mpr ⟨(show SE G 104 0 (.inl (i_al 0 1)) from s_aload_n (j := 0) (by decide +kernel)),
  List.forall_mem_cons.mpr ⟨(show SE G 104 1 (.inl (i_get [4] 6 4)) from s_get (idx := 9) (kk := 6) hK (by decide +kernel) (inW 265 (by decide +kernel) (by decide +kernel)) fo_K_target),
  List.forall_mem_cons.mpr ⟨(show SE G 104 4 (.inl (i_nul 22 7)) from s_ifnull (tg := 22) (off := 18) (by decide +kernel) (by decide)),
  List.forall_mem_cons.mpr ⟨(show SE G 104 7 (.inl (i_al 0 8)) from s_aload_n (j := 0) (by decide +kernel)),
  List.forall_mem_cons.mpr ⟨(show SE G 104 8 (.inl (i_get [4] 6 11)) from s_get (idx := 9) (kk := 6) hK (by decide +kernel) (inW 265 (by decide +kernel) (by decide +kernel)) fo_K_target),
  List.forall_mem_cons.mpr ⟨(show SE G 104 11 (.inl (i_get [3, 4, 5] 3 14)) from s_get (idx := 15) (kk := 3) hK (by decide +kernel) (inW 226 (by decide +kernel) (by decide +kernel)) fo_G_marked),
  List.forall_mem_cons.mpr ⟨(show SE G 104 14 (.inl (i_z 1 22 17)) from s_if_ne (tg := 22) (off := 8) (by decide +kernel) (by decide)),
  List.forall_mem_cons.mpr ⟨(show SE G 104 17 (.inl (i_al 0 18)) from s_aload_n (j := 0) (by decide +kernel)),
  List.forall_mem_cons.mpr ⟨(show SE G 104 18 (.inl (i_n 19)) from s_null (by decide +kernel)),
  List.forall_mem_cons.mpr ⟨(show SE G 104 19 (.inl (i_put [4] 6 2 22)) from s_put (idx := 9) (kk := 6) (ty := 2) hK (by decide +kernel) (inW 265 (by decide +kernel) (by decide +kernel)) fo_K_target po_104_K_target),
  List.forall_mem_cons.mpr ⟨(show SE G 104 22 (.inr (.inr 3)) from ⟨(by decide +kernel), rfl⟩),
  fun _ h => absurd h List.not_mem_nil⟩⟩⟩⟩⟩⟩⟩⟩⟩⟩⟩
end OK6
end
section
/-! all methods (by program) -/
set_option maxRecDepth 20000 in
theorem mcd_ok {G : MG} (hK : K0 G) : ∀ k pc x, mcd k pc = some x → SE G k pc x := by
  intro k pc x h
  have hm := lookup_mem h
  match k, hm with
  | 0, hm => exact ok_l_0 hK _ hm
  | 1, hm => exact ok_l_1 hK _ hm
  | 2, hm => exact ok_l_2 hK _ hm
  | 3, hm => exact ok_l_3 hK _ hm
  | 4, hm => exact ok_l_4 hK _ hm
  | 5, hm => exact ok_l_5 hK _ hm
  | 6, hm => exact ok_l_6 hK _ hm
  | 7, hm => exact ok_l_7 hK _ hm
  | 8, hm => exact ok_l_8 hK _ hm
  | 9, hm => exact ok_l_9 hK _ hm
  | 10, hm => exact ok_l_10 hK _ hm
  | 11, hm => exact ok_l_11 hK _ hm
  | 12, hm => exact ok_l_12 hK _ hm
  | 13, hm => exact ok_l_13 hK _ hm
  | 14, hm => exact ok_l_14 hK _ hm
  | 15, hm => exact ok_l_15 hK _ hm
  | 16, hm => exact ok_l_16 hK _ hm
  | 17, hm => exact ok_l_17 hK _ hm
  | 18, hm => exact ok_l_18 hK _ hm
  | 19, hm => exact ok_l_19 hK _ hm
  | 20, hm => exact ok_l_20 hK _ hm
  | 21, hm => exact ok_l_21 hK _ hm
  | 22, hm => exact ok_l_22 hK _ hm
  | 23, hm => exact ok_l_23 hK _ hm
  | 24, hm => exact ok_l_24 hK _ hm
  | 25, hm => exact ok_l_25 hK _ hm
  | 26, hm => exact ok_l_26 hK _ hm
  | 27, hm => exact ok_l_27 hK _ hm
  | 28, hm => exact ok_l_28 hK _ hm
  | 29, hm => exact ok_l_29 hK _ hm
  | 30, hm => exact ok_l_30 hK _ hm
  | 31, hm => exact ok_l_31 hK _ hm
  | 32, hm => exact ok_l_32 hK _ hm
  | 33, hm => exact ok_l_33 hK _ hm
  | 34, hm => exact ok_l_34 hK _ hm
  | 35, hm => exact ok_l_35 hK _ hm
  | 36, hm => exact ok_l_36 hK _ hm
  | 37, hm => exact ok_l_37 hK _ hm
  | 38, hm => exact ok_l_38 hK _ hm
  | 39, hm => exact ok_l_39 hK _ hm
  | 40, hm => exact ok_l_40 hK _ hm
  | 41, hm => exact ok_l_41 hK _ hm
  | 42, hm => exact ok_l_42 hK _ hm
  | 43, hm => exact ok_l_43 hK _ hm
  | 44, hm => exact ok_l_44 hK _ hm
  | 45, hm => exact ok_l_45 hK _ hm
  | 46, hm => exact ok_l_46 hK _ hm
  | 47, hm => exact ok_l_47 hK _ hm
  | 48, hm => exact ok_l_48 hK _ hm
  | 49, hm => exact ok_l_49 hK _ hm
  | 50, hm => exact ok_l_50 hK _ hm
  | 51, hm => exact ok_l_51 hK _ hm
  | 52, hm => exact ok_l_52 hK _ hm
  | 53, hm => exact ok_l_53 hK _ hm
  | 54, hm => exact ok_l_54 hK _ hm
  | 55, hm => exact ok_l_55 hK _ hm
  | 56, hm => exact ok_l_56 hK _ hm
  | 57, hm => exact ok_l_57 hK _ hm
  | 58, hm => exact ok_l_58 hK _ hm
  | 59, hm => exact ok_l_59 hK _ hm
  | 60, hm => exact ok_l_60 hK _ hm
  | 61, hm => exact ok_l_61 hK _ hm
  | 62, hm => exact ok_l_62 hK _ hm
  | 63, hm => exact ok_l_63 hK _ hm
  | 64, hm => exact ok_l_64 hK _ hm
  | 65, hm => exact ok_l_65 hK _ hm
  | 66, hm => exact ok_l_66 hK _ hm
  | 67, hm => exact ok_l_67 hK _ hm
  | 68, hm => exact ok_l_68 hK _ hm
  | 69, hm => exact ok_l_69 hK _ hm
  | 70, hm => exact ok_l_70 hK _ hm
  | 71, hm => exact ok_l_71 hK _ hm
  | 72, hm => exact ok_l_72 hK _ hm
  | 73, hm => exact ok_l_73 hK _ hm
  | 74, hm => exact ok_l_74 hK _ hm
  | 75, hm => exact ok_l_75 hK _ hm
  | 76, hm => exact ok_l_76 hK _ hm
  | 77, hm => exact ok_l_77 hK _ hm
  | 78, hm => exact ok_l_78 hK _ hm
  | 79, hm => exact ok_l_79 hK _ hm
  | 80, hm => exact ok_l_80 hK _ hm
  | 81, hm => exact ok_l_81 hK _ hm
  | 82, hm => exact ok_l_82 hK _ hm
  | 83, hm => exact ok_l_83 hK _ hm
  | 84, hm => exact ok_l_84 hK _ hm
  | 85, hm => exact ok_l_85 hK _ hm
  | 86, hm => exact ok_l_86 hK _ hm
  | 87, hm => exact ok_l_87 hK _ hm
  | 88, hm => exact ok_l_88 hK _ hm
  | 89, hm => exact ok_l_89 hK _ hm
  | 90, hm => exact ok_l_90 hK _ hm
  | 91, hm => exact ok_l_91 hK _ hm
  | 92, hm => exact ok_l_92 hK _ hm
  | 93, hm => exact ok_l_93 hK _ hm
  | 94, hm => exact ok_l_94 hK _ hm
  | 95, hm => exact ok_l_95 hK _ hm
  | 96, hm => exact ok_l_96 hK _ hm
  | 97, hm => exact ok_l_97 hK _ hm
  | 98, hm => exact ok_l_98 hK _ hm
  | 99, hm => exact ok_l_99 hK _ hm
  | 100, hm => exact ok_l_100 hK _ hm
  | 101, hm => exact ok_l_101 hK _ hm
  | 102, hm => exact ok_l_102 hK _ hm
  | 103, hm => exact ok_l_103 hK _ hm
  | 104, hm => exact ok_l_104 hK _ hm
  | n + 105, hm => exact absurd hm List.not_mem_nil
end
section
/-! more rows for walking -/
section XM
variable {d k pc : Nat} {L : ML} {st : List MV} {S : MS} {Q : Option MV → MS → Prop}
theorem XQ.zeq0 {tg nx : Nat} (h : mcd k pc = some (.inl (i_z 0 tg nx))) (hk : XQ d k tg L st S Q) : XQ d k pc L (.inl 0 :: st) S Q := XQ.zeq h (fun _ => hk) (fun q => absurd rfl q)
theorem XQ.zeq1 {tg nx : Nat} (h : mcd k pc = some (.inl (i_z 0 tg nx))) (hk : XQ d k nx L st S Q) : XQ d k pc L (.inl 1 :: st) S Q := XQ.zeq h (fun q => absurd q (by decide)) (fun _ => hk)
theorem XQ.zne0 {tg nx : Nat} (h : mcd k pc = some (.inl (i_z 1 tg nx))) (hk : XQ d k nx L st S Q) : XQ d k pc L (.inl 0 :: st) S Q := XQ.zne h (fun q => absurd rfl q) (fun _ => hk)
theorem XQ.zne1 {tg nx : Nat} (h : mcd k pc = some (.inl (i_z 1 tg nx))) (hk : XQ d k tg L st S Q) : XQ d k pc L (.inl 1 :: st) S Q := XQ.zne h (fun _ => hk) (fun q => absurd q (by decide))
theorem XQ.add {a b : Int} {nx : Nat} (h : mcd k pc = some (.inl (i_bin (fun a b => a + b) nx))) (hr : inR (a + b)) (hk : XQ d k nx L (.inl (a + b) :: st) S Q) : XQ d k pc L (.inl b :: .inl a :: st) S Q := XQ.bin h rfl hr hk
theorem XQ.sub {a b : Int} {nx : Nat} (h : mcd k pc = some (.inl (i_bin (fun a b => a - b) nx))) (hr : inR (a - b)) (hk : XQ d k nx L (.inl (a - b) :: st) S Q) : XQ d k pc L (.inl b :: .inl a :: st) S Q := XQ.bin h rfl hr hk
theorem XQ.mul {a b : Int} {nx : Nat} (h : mcd k pc = some (.inl (i_bin (fun a b => a * b) nx))) (hr : inR (a * b)) (hk : XQ d k nx L (.inl (a * b) :: st) S Q) : XQ d k pc L (.inl b :: .inl a :: st) S Q := XQ.bin h rfl hr hk
end XM
def pu (v : Option MV) (st : List MV) : List MV := match v with
  | none => st
  | some x => x :: st
theorem pu_e (v : Option MV) (st : List MV) : pu v st = v.toList ++ st := by cases v <;> rfl
section XC
variable {d k pc : Nat} {L : ML} {rest : List MV} {S : MS} {Q Q' : Option MV → MS → Prop} {tg : List (Nat × Nat)} {nx k' b t : Nat} {a1 a2 a3 : MV}
theorem XQ.s1 (h : mcd k pc = some (.inr (.inl (true, 1, tg, nx)))) (hl : tg.lookup 0 = some k') (hr : rest.length ≤ 8) (h3 : XQ d k' 0 (mentry (mL k') [a1]) [] S Q') (kk : ∀ v S', Q' v S' → XQ (d + 1) k nx L (pu v rest) S' Q) : XQ (d + 1) k pc L (a1 :: rest) S Q := by
  refine XQ.call h (k' := k') (as := [a1]) (rest := rest) ?_ h3 (fun v S' hq => by rw [← pu_e]; exact kk v S' hq)
  unfold mcallee
  rw [if_pos ⟨by simp, hr⟩]
  simp [hl]
theorem XQ.v1 (h : mcd k pc = some (.inr (.inl (false, 1, tg, nx)))) (ht : tS S b = t) (hl : tg.lookup t = some k') (hr : rest.length ≤ 8) (h3 : XQ d k' 0 (mentry (mL k') [.inr (some b)]) [] S Q') (kk : ∀ v S', Q' v S' → XQ (d + 1) k nx L (pu v rest) S' Q) : XQ (d + 1) k pc L (.inr (some b) :: rest) S Q := by
  refine XQ.call h (k' := k') (as := [.inr (some b)]) (rest := rest) ?_ h3 (fun v S' hq => by rw [← pu_e]; exact kk v S' hq)
  unfold mcallee
  rw [if_pos ⟨by simp, hr⟩]
  subst ht
  simp [hl]
theorem XQ.v2 (h : mcd k pc = some (.inr (.inl (false, 2, tg, nx)))) (ht : tS S b = t) (hl : tg.lookup t = some k') (hr : rest.length ≤ 8) (h3 : XQ d k' 0 (mentry (mL k') [.inr (some b), a1]) [] S Q') (kk : ∀ v S', Q' v S' → XQ (d + 1) k nx L (pu v rest) S' Q) : XQ (d + 1) k pc L (a1 :: .inr (some b) :: rest) S Q := by
  refine XQ.call h (k' := k') (as := [.inr (some b), a1]) (rest := rest) ?_ h3 (fun v S' hq => by rw [← pu_e]; exact kk v S' hq)
  unfold mcallee
  rw [if_pos ⟨by simp, hr⟩]
  subst ht
  simp [hl]
theorem XQ.v3 (h : mcd k pc = some (.inr (.inl (false, 3, tg, nx)))) (ht : tS S b = t) (hl : tg.lookup t = some k') (hr : rest.length ≤ 8) (h3 : XQ d k' 0 (mentry (mL k') [.inr (some b), a1, a2]) [] S Q') (kk : ∀ v S', Q' v S' → XQ (d + 1) k nx L (pu v rest) S' Q) : XQ (d + 1) k pc L (a2 :: a1 :: .inr (some b) :: rest) S Q := by
  refine XQ.call h (k' := k') (as := [.inr (some b), a1, a2]) (rest := rest) ?_ h3 (fun v S' hq => by rw [← pu_e]; exact kk v S' hq)
  unfold mcallee
  rw [if_pos ⟨by simp, hr⟩]
  subst ht
  simp [hl]
theorem XQ.v4 (h : mcd k pc = some (.inr (.inl (false, 4, tg, nx)))) (ht : tS S b = t) (hl : tg.lookup t = some k') (hr : rest.length ≤ 8) (h3 : XQ d k' 0 (mentry (mL k') [.inr (some b), a1, a2, a3]) [] S Q') (kk : ∀ v S', Q' v S' → XQ (d + 1) k nx L (pu v rest) S' Q) : XQ (d + 1) k pc L (a3 :: a2 :: a1 :: .inr (some b) :: rest) S Q := by
  refine XQ.call h (k' := k') (as := [.inr (some b), a1, a2, a3]) (rest := rest) ?_ h3 (fun v S' hq => by rw [← pu_e]; exact kk v S' hq)
  unfold mcallee
  rw [if_pos ⟨by simp, hr⟩]
  subst ht
  simp [hl]
end XC
/-- eight at most: of a stack that is written out -/
theorem le8 {n : Nat} (h : Nat.ble n 8 = true) : n ≤ 8 := Nat.le_of_ble_eq_true h
end
section
/-! the pure state: M j i is place i of row j; rows: 0 varIs, 1 varHas, 2 name, 3 sort, 4 many, 5 is, 6 has, 7 keys, 8 mark, 9 regName, 10 regTag, 11 waitName, 12 waitTag, 13 numbers (0 objects, 1 made, 2 registered, 3 waits, 4 runs) -/
abbrev MM : Type := Nat → Int → Int
def u2 (M : MM) (j : Nat) (i v : Int) : MM := fun j' i' => if j' = j ∧ i' = i then v else M j' i'
def lp {α : Type} (f : Nat → α → α) : Nat → α → α
  | 0, a => a
  | n + 1, a => f n (lp f n a)
def atR (M : MM) (h : Int) : Nat → Int
  | 0 => -1
  | o + 1 => if M 2 (o : Int) = h then (o : Int) else atR M h o
def aAt (M : MM) (h : Int) : Int := atR M h (M 13 0).toNat
def aObj (M : MM) (v : Int) : Int := if 0 ≤ v ∧ v ≤ 5 ∧ M 0 v = 9 then aAt M (M 1 v) else -1
def aObjOf (M : MM) (v s : Int) : Int := if 0 ≤ aObj M v ∧ M 3 (aObj M v) = s then aObj M v else -1
def aHold (M : MM) (v a b : Int) : MM := u2 (u2 M 0 v a) 1 v b
def aCells (M : MM) (o : Int) : Int := if M 3 o = 2 then 2 + M 4 o else if M 3 o = 3 then 3 else 8
def aCb (M : MM) : Nat → Int
  | 0 => 0
  | k + 1 => aCb M k + aCells M (k : Int)
def aUsed (M : MM) : Int := aCb M (M 13 0).toNat
-- marks
def bI (b : Bool) : Int := cond b 1 0
def aAdd (M : MM) (h : Int) : Bool × MM := if aAt M h < 0 ∨ ¬ M 8 (aAt M h) = 0 then (false, M) else (true, u2 M 8 (aAt M h) 1)
def aIsM (M : MM) (h : Int) : Bool := decide (0 ≤ aAt M h ∧ ¬ M 8 (aAt M h) = 0)
def aClear (M : MM) : MM := lp (fun o M => u2 M 8 (o : Int) 0) (M 13 0).toNat M
def aWaits (M : MM) : MM := lp (fun k M => (aAdd M (M 11 (k : Int))).2) (M 13 3).toNat M
def aVr (v : Nat) (M : MM) : MM := if M 0 (v : Int) = 9 then (aAdd M (M 1 (v : Int))).2 else M
def aVars (M : MM) : MM := lp aVr 6 M
def aRoots (M : MM) : MM := aWaits (aVars M)
def aCnt (all : Bool) (M : MM) (o f : Int) : Bool := decide (M 3 o = 2) || (decide (M 3 o = 4) && (all || aIsM M (M 7 (4 * o + f))))
def aSprF (all : Bool) (o f : Nat) (p : Bool × MM) : Bool × MM :=
  if ¬ p.2 8 (o : Int) = 0 ∧ aCnt all p.2 o f = true ∧ p.2 5 (4 * (o : Int) + f) = 9 then (p.1 || (aAdd p.2 (p.2 6 (4 * (o : Int) + f))).1, (aAdd p.2 (p.2 6 (4 * (o : Int) + f))).2) else p
def aSprO (all : Bool) (o : Nat) (p : Bool × MM) : Bool × MM := lp (aSprF all o) (p.2 4 (o : Int)).toNat p
def aSpr (all : Bool) (M : MM) : Bool × MM := lp (aSprO all) (M 13 0).toNat (false, M)
def aClo (all : Bool) : Nat → MM → MM
  | 0, M => M
  | r + 1, M => if (aSpr all M).1 then aClo all r (aSpr all M).2 else (aSpr all M).2
def aLsW (o : Nat) (M : MM) : MM := if M 3 (o : Int) = 3 ∧ M 5 (4 * (o : Int)) = 9 ∧ aIsM M (M 6 (4 * (o : Int))) = false then u2 (u2 M 5 (4 * (o : Int)) 0) 6 (4 * (o : Int)) 0 else M
def aLsE (o e : Nat) (p : Int × MM) : Int × MM := if aIsM p.2 (p.2 7 (4 * (o : Int) + e)) = true then (p.1 + 1, u2 (u2 (u2 p.2 7 (4 * (o : Int) + p.1) (p.2 7 (4 * (o : Int) + e))) 5 (4 * (o : Int) + p.1) (p.2 5 (4 * (o : Int) + e))) 6 (4 * (o : Int) + p.1) (p.2 6 (4 * (o : Int) + e))) else p
def aLsT (o : Nat) (M : MM) : MM := if M 3 (o : Int) = 4 then u2 (lp (aLsE o) (M 4 (o : Int)).toNat (0, M)).2 4 (o : Int) (lp (aLsE o) (M 4 (o : Int)).toNat (0, M)).1 else M
def aLsS (o : Nat) (M : MM) : MM := aLsT o (aLsW o M)
def aLoose (M : MM) : MM := lp aLsS (M 13 0).toNat M
def aCwK (k : Nat) (p : Int × MM) : Int × MM := if aIsM p.2 (p.2 9 (k : Int)) = true then (p.1 + 1, u2 (u2 p.2 9 p.1 (p.2 9 (k : Int))) 10 p.1 (p.2 10 (k : Int))) else (p.1, u2 (u2 (u2 p.2 11 (p.2 13 3) (p.2 9 (k : Int))) 12 (p.2 13 3) (p.2 10 (k : Int))) 13 3 (p.2 13 3 + 1))
def aCallW (M : MM) : MM := u2 (lp aCwK (M 13 2).toNat (0, M)).2 13 2 (lp aCwK (M 13 2).toNat (0, M)).1
def aSwF (o : Nat) (l : Int) (f : Nat) (M : MM) : MM := u2 (u2 (u2 M 5 (4 * l + f) (M 5 (4 * (o : Int) + f))) 6 (4 * l + f) (M 6 (4 * (o : Int) + f))) 7 (4 * l + f) (M 7 (4 * (o : Int) + f))
def aSwO (o : Nat) (p : Int × MM) : Int × MM := if ¬ p.2 8 (o : Int) = 0 then (p.1 + 1, lp (aSwF o p.1) 4 (u2 (u2 (u2 p.2 2 p.1 (p.2 2 (o : Int))) 3 p.1 (p.2 3 (o : Int))) 4 p.1 (p.2 4 (o : Int)))) else p
def aSweep (M : MM) : Int × MM := (M 13 0 - (lp aSwO (M 13 0).toNat (0, M)).1, u2 (lp aSwO (M 13 0).toNat (0, M)).2 13 0 (lp aSwO (M 13 0).toNat (0, M)).1)
def aC1 (M : MM) : MM := aClear (u2 M 13 4 (M 13 4 + 1))
def aC2 (M : MM) : MM := aClo false 21 (aRoots (aC1 M))
def aC3 (M : MM) : MM := aCallW (aLoose (aC2 M))
def aC4 (M : MM) : MM := aClo true 21 (aWaits (aC3 M))
def aColl (M : MM) : Int × MM := aSweep (aC4 M)
-- making
def aMkF (o : Int) (f : Nat) (M : MM) : MM := u2 (u2 (u2 M 5 (4 * o + f) 0) 6 (4 * o + f) 0) 7 (4 * o + f) 0
def aMkO (M : MM) (s n : Int) : MM := lp (aMkF (M 13 0)) 4 (u2 (u2 (u2 (u2 (u2 M 13 0 (M 13 0 + 1)) 13 1 (M 13 1 + 1)) 2 (M 13 0) (M 13 1 + 1)) 3 (M 13 0) s) 4 (M 13 0) n)
def aRoom (M : MM) (room : Int) : MM := if 60 < aUsed M + room then (aColl M).2 else M
def aMake (M : MM) (s n room : Int) : Int × MM := if 60 < aUsed (aRoom M room) + room then (-1, aRoom M room) else ((aRoom M room) 13 0, aMkO (aRoom M room) s n)
-- the calls: an answer and a state
def aNumber (M : MM) (v n : Int) : Int × MM := if v < 0 ∨ 5 < v ∨ n < -1000000 ∨ 1000000 < n then (0, M) else (1, aHold M v 1 n)
def aAssign (M : MM) (v w : Int) : Int × MM := if v < 0 ∨ 5 < v ∨ w < -1 ∨ 5 < w then (0, M) else (1, if w < 0 then aHold M v 0 0 else aHold M v (M 0 w) (M 1 w))
def aNew (M : MM) (v s n room : Int) (f : MM → Int → MM) : Int × MM := if (aMake M s n room).1 < 0 then (-2, (aMake M s n room).2) else ((aMake M s n room).2 2 (aMake M s n room).1, aHold (f (aMake M s n room).2 (aMake M s n room).1) v 9 ((aMake M s n room).2 2 (aMake M s n room).1))
def aVector (M : MM) (v n : Int) : Int × MM := if v < 0 ∨ 5 < v ∨ n < 1 ∨ 4 < n then (-1, M) else aNew M v 2 n (2 + n) (fun M _ => M)
def aWeak (M : MM) (v w : Int) : Int × MM := if v < 0 ∨ 5 < v ∨ aObj M w < 0 then (-1, M) else aNew M v 3 1 3 (fun M' o => u2 (u2 M' 5 (4 * o) 9) 6 (4 * o) (M' 1 w))
def aTable (M : MM) (v : Int) : Int × MM := if v < 0 ∨ 5 < v then (-1, M) else aNew M v 4 0 8 (fun M _ => M)
def aSet (M : MM) (v k w : Int) : Int × MM := if aObjOf M v 2 < 0 ∨ k < 0 ∨ M 4 (aObjOf M v 2) ≤ k ∨ w < 0 ∨ 5 < w then (0, M) else (1, u2 (u2 M 5 (4 * aObjOf M v 2 + k) (M 0 w)) 6 (4 * aObjOf M v 2 + k) (M 1 w))
def aGet (M : MM) (w v k : Int) : Int × MM := if w < 0 ∨ 5 < w ∨ aObj M v < 0 ∨ M 3 (aObj M v) = 4 ∨ k < 0 ∨ M 4 (aObj M v) ≤ k then (0, M) else (1, aHold M w (M 5 (4 * aObj M v + k)) (M 6 (4 * aObj M v + k)))
def entR (M : MM) (o key : Int) : Nat → Int
  | 0 => -1
  | e + 1 => if M 7 (4 * o + e) = key then (e : Int) else entR M o key e
def aEnt (M : MM) (o key : Int) : Int := entR M o key (M 4 o).toNat
def aPutAt (M : MM) (o e k w : Int) : MM := u2 (u2 (u2 M 7 (4 * o + e) (M 1 k)) 5 (4 * o + e) (M 0 w)) 6 (4 * o + e) (M 1 w)
def aPut (M : MM) (t k w : Int) : Int × MM := if aObjOf M t 4 < 0 ∨ aObj M k < 0 ∨ w < 0 ∨ 5 < w then (0, M) else
  if aEnt M (aObjOf M t 4) (M 1 k) < 0 then (if M 4 (aObjOf M t 4) = 3 then (0, M) else (1, aPutAt (u2 M 4 (aObjOf M t 4) (M 4 (aObjOf M t 4) + 1)) (aObjOf M t 4) (M 4 (aObjOf M t 4)) k w))
  else (1, aPutAt M (aObjOf M t 4) (aEnt M (aObjOf M t 4) (M 1 k)) k w)
def aFind (M : MM) (w t k : Int) : Int × MM := if aObjOf M t 4 < 0 ∨ aObj M k < 0 ∨ w < 0 ∨ 5 < w then (0, M) else
  if aEnt M (aObjOf M t 4) (M 1 k) < 0 then (1, aHold M w 0 0) else (1, aHold M w (M 5 (4 * aObjOf M t 4 + aEnt M (aObjOf M t 4) (M 1 k))) (M 6 (4 * aObjOf M t 4 + aEnt M (aObjOf M t 4) (M 1 k))))
def aIn (M : MM) (j : Nat) (h : Int) : Nat → Bool
  | 0 => false
  | q + 1 => decide (M j (q : Int) = h) || aIn M j h q
def aReg (M : MM) (v tag : Int) : Int × MM := if aObj M v < 0 ∨ tag < 0 ∨ 99 < tag ∨ 8 ≤ M 13 2 + M 13 3 ∨ aIn M 9 (M 2 (aObj M v)) (M 13 2).toNat = true ∨ aIn M 11 (M 2 (aObj M v)) (M 13 3).toNat = true then (0, M) else (1, u2 (u2 (u2 M 9 (M 13 2) (M 2 (aObj M v))) 10 (M 13 2) tag) 13 2 (M 13 2 + 1))
def aNxF (k : Nat) (M : MM) : MM := u2 (u2 M 11 (k : Int) (M 11 ((k : Int) + 1))) 12 (k : Int) (M 12 ((k : Int) + 1))
def aNext (M : MM) (v : Int) : Int × MM := if v < 0 ∨ 5 < v ∨ M 13 3 = 0 then (-1, M) else (M 12 0, lp aNxF (M 13 3 - 1).toNat (u2 (aHold M v 9 (M 11 0)) 13 3 (M 13 3 - 1)))
def aKind (M : MM) (v : Int) : Int := if v < 0 ∨ 5 < v then -1 else if 0 ≤ aObj M v then M 3 (aObj M v) else M 0 v
def aValue (M : MM) (v : Int) : Int := if 0 ≤ v ∧ v ≤ 5 ∧ M 0 v = 1 then M 1 v else 0
def aHash (M : MM) (v : Int) : Int := if 0 ≤ aObj M v then M 1 v else 0
def aPlace (M : MM) (v : Int) : Int := if aObj M v < 0 then -1 else aCb M (aObj M v).toNat
def aSize (M : MM) (v : Int) : Int := if aObj M v < 0 then -1 else if M 3 (aObj M v) = 3 then (if M 5 (4 * aObj M v) = 9 then 1 else 0) else M 4 (aObj M v)
end
section
/-! the reference in the store: its object at m, its thirteen arrays behind it -/
def mA (m j : Nat) : Nat := m + 1 + j
def mLen (j : Nat) : Int := match j with
  | 0 => 6
  | 1 => 6
  | 2 => 20
  | 3 => 20
  | 4 => 20
  | 5 => 80
  | 6 => 80
  | 7 => 80
  | 8 => 20
  | _ => 8
def mTg (j : Nat) : Nat := match j with
  | 8 => 21
  | _ => 20
/-- the fields of the reference's object -/
def modF (m : Nat) (M : MM) (kk : Int) : Option MV := match kk with
  | 0 => some (.inr (some (mA m 0)))
  | 1 => some (.inr (some (mA m 1)))
  | 2 => some (.inl (M 13 0))
  | 3 => some (.inl (M 13 1))
  | 4 => some (.inr (some (mA m 2)))
  | 5 => some (.inr (some (mA m 3)))
  | 6 => some (.inr (some (mA m 4)))
  | 7 => some (.inr (some (mA m 5)))
  | 8 => some (.inr (some (mA m 6)))
  | 9 => some (.inr (some (mA m 7)))
  | 10 => some (.inr (some (mA m 8)))
  | 11 => some (.inl (M 13 2))
  | 12 => some (.inr (some (mA m 9)))
  | 13 => some (.inr (some (mA m 10)))
  | 14 => some (.inl (M 13 3))
  | 15 => some (.inr (some (mA m 11)))
  | 16 => some (.inr (some (mA m 12)))
  | 17 => some (.inl (M 13 4))
  | _ => none
/-- which number a field holds -/
def modS (kk : Int) : Option Int := match kk with
  | 2 => some 0
  | 3 => some 1
  | 11 => some 2
  | 14 => some 3
  | 17 => some 4
  | _ => none
def MOD (m : Nat) (S : MS) (M : MM) : Prop := tS S m = tgM ∧ (∀ kk v, modF m M kk = some v → vS S m kk = v) ∧ ∀ j, j ≤ 12 → tS S (mA m j) = mTg j ∧ lS S (mA m j) = mLen j ∧ ∀ i, 0 ≤ i → i < mLen j → vS S (mA m j) i = .inl (M j i)
/-- only the reference's own cells changed -/
def MFr (m : Nat) (S0 S : MS) : Prop := zS S = zS S0 ∧ qS S = qS S0 ∧ tS S = tS S0 ∧ lS S = lS S0 ∧ ∀ a, a < m ∨ m + 13 < a → vS S a = vS S0 a
theorem MFr.rf {m : Nat} {S : MS} : MFr m S S := ⟨rfl, rfl, rfl, rfl, fun _ _ => rfl⟩
theorem MFr.tr {m : Nat} {S0 S1 S2 : MS} (h : MFr m S0 S1) (h2 : MFr m S1 S2) : MFr m S0 S2 := ⟨h2.1.trans h.1, h2.2.1.trans h.2.1, h2.2.2.1.trans h.2.2.1, h2.2.2.2.1.trans h.2.2.2.1, fun a ha => (h2.2.2.2.2 a ha).trans (h.2.2.2.2 a ha)⟩
def MO (m : Nat) (S0 S : MS) (M : MM) : Prop := MOD m S M ∧ MFr m S0 S
theorem MO.rf {m : Nat} {S : MS} {M : MM} (h : MOD m S M) : MO m S S M := ⟨h, MFr.rf⟩
theorem MO.tr {m : Nat} {S0 S1 S2 : MS} {M M' : MM} (h : MO m S0 S1 M) (h2 : MO m S1 S2 M') : MO m S0 S2 M' := ⟨h2.1, h.2.tr h2.2⟩
theorem u2_s (M : MM) (j : Nat) (i v : Int) : u2 M j i v j i = v := if_pos ⟨rfl, rfl⟩
theorem u2_n (M : MM) {j j' : Nat} {i i' : Int} (v : Int) (h : j' ≠ j ∨ i' ≠ i) : u2 M j i v j' i' = M j' i' := if_neg (fun q => by rcases h with h | h; exact h q.1; exact h q.2)
theorem modF_u2 {m : Nat} {M : MM} {j : Nat} {i v : Int} (hj : j ≤ 12) (kk : Int) : modF m (u2 M j i v) kk = modF m M kk := by
  have e : ∀ q, u2 M j i v 13 q = M 13 q := fun q => u2_n M v (Or.inl (by omega))
  unfold modF
  split <;> simp only [e]
theorem MO.arr {m : Nat} {S0 S : MS} {M : MM} (h : MO m S0 S M) {j : Nat} {i v : Int} (hj : j ≤ 12) : MO m S0 (mset S (mA m j) i (.inl v)) (u2 M j i v) := by
  obtain ⟨⟨h1, h2, h3⟩, h4⟩ := h
  refine ⟨⟨h1, fun kk w hw => ?_, fun j' hj' => ?_⟩, h4.tr ⟨rfl, rfl, rfl, rfl, fun a ha => ?_⟩⟩
  · rw [modF_u2 hj] at hw
    rw [mset_v _ _ _ _ (show m ≠ mA m j by unfold mA; omega)]
    exact h2 kk w hw
  · obtain ⟨g1, g2, g3⟩ := h3 j' hj'
    refine ⟨g1, g2, fun i' a0 a1 => ?_⟩
    by_cases e : j' = j
    · subst e
      rw [mset_s]
      by_cases e2 : i' = i
      · subst e2; rw [if_pos rfl, u2_s]
      · rw [if_neg e2, u2_n M v (Or.inr e2)]; exact g3 i' a0 a1
    · rw [mset_v _ _ _ _ (show mA m j' ≠ mA m j by unfold mA; omega), u2_n M v (Or.inl e)]
      exact g3 i' a0 a1
  · exact mset_v _ _ _ _ (by unfold mA; omega)
theorem MO.num {m : Nat} {S0 S : MS} {M : MM} (h : MO m S0 S M) {kk q v : Int} (hq : modS kk = some q) : MO m S0 (mset S m kk (.inl v)) (u2 M 13 q v) := by
  obtain ⟨⟨h1, h2, h3⟩, h4⟩ := h
  refine ⟨⟨h1, fun k2 w hw => ?_, fun j' hj' => ?_⟩, h4.tr ⟨rfl, rfl, rfl, rfl, fun a ha => ?_⟩⟩
  · rw [mset_s]
    by_cases e : k2 = kk
    · subst e
      rw [if_pos rfl]
      unfold modS at hq
      split at hq <;> first | (cases hq; simp only [modF, u2_s, Option.some.injEq] at hw; exact hw) | cases hq
    · rw [if_neg e]
      apply h2
      rw [← hw]
      unfold modS at hq
      unfold modF
      split <;> first | rfl | (congr 2; exact (u2_n M v (Or.inr (by split at hq <;> first | (cases hq; first | omega | decide) | cases hq))).symm)
  · obtain ⟨g1, g2, g3⟩ := h3 j' hj'
    refine ⟨g1, g2, fun i' a0 a1 => ?_⟩
    rw [mset_v _ _ _ _ (show mA m j' ≠ m by unfold mA; omega), u2_n M v (Or.inl (by omega))]
    exact g3 i' a0 a1
  · exact mset_v _ _ _ _ (by omega)
section MROWS
variable {d k pc m : Nat} {L : ML} {st : List MV} {S0 S : MS} {M : MM} {Q : Option MV → MS → Prop}
theorem XQ.mg {kk : Int} {nx : Nat} {v : MV} (hM : MO m S0 S M) (h : mcd k pc = some (.inl (i_get [tgM] kk nx))) (hv : modF m M kk = some v) (hk : XQ d k nx L (v :: st) S Q) : XQ d k pc L (.inr (some m) :: st) S Q :=
  XQ.get h (by rw [hM.1.1]; decide) (hM.1.2.1 kk v hv) hk
theorem XQ.mp {kk q x : Int} {nx : Nat} (hM : MO m S0 S M) (h : mcd k pc = some (.inl (i_put [tgM] kk 0 nx))) (hq : modS kk = some q) (hk : ∀ S', MO m S0 S' (u2 M 13 q x) → XQ d k nx L st S' Q) : XQ d k pc L (.inl x :: .inr (some m) :: st) S Q :=
  XQ.put h (by rw [hM.1.1]; decide) rfl (hk _ (hM.num hq))
theorem XQ.ml {i : Int} {j : Nat} {ts : List Nat} {nx : Nat} (hM : MO m S0 S M) (h : mcd k pc = some (.inl (i_ld ts nx))) (hts : ts.contains (mTg j) = true) (hj : j ≤ 12) (h0 : 0 ≤ i) (hl : i < mLen j) (hk : XQ d k nx L (.inl (M j i) :: st) S Q) : XQ d k pc L (.inl i :: .inr (some (mA m j)) :: st) S Q := by
  obtain ⟨g1, g2, g3⟩ := hM.1.2.2 j hj
  exact XQ.ld h (by rw [g1]; exact hts) h0 (by rw [g2]; exact hl) (g3 i h0 hl) hk
theorem XQ.ms {i x : Int} {j : Nat} {nx : Nat} (hM : MO m S0 S M) (h : mcd k pc = some (.inl (i_ist nx))) (hts : mTg j = 20) (hj : j ≤ 12) (h0 : 0 ≤ i) (hl : i < mLen j) (hk : ∀ S', MO m S0 S' (u2 M j i x) → XQ d k nx L st S' Q) : XQ d k pc L (.inl x :: .inl i :: .inr (some (mA m j)) :: st) S Q := by
  obtain ⟨g1, g2, g3⟩ := hM.1.2.2 j hj
  exact XQ.ist h (by rw [g1]; exact hts) h0 (by rw [g2]; exact hl) (hk _ (hM.arr hj))
theorem XQ.mz {i x : Int} {nx : Nat} (hM : MO m S0 S M) (h : mcd k pc = some (.inl (i_zst nx))) (hx : x = 0 ∨ x = 1) (h0 : 0 ≤ i) (hl : i < 20) (hk : ∀ S', MO m S0 S' (u2 M 8 i x) → XQ d k nx L st S' Q) : XQ d k pc L (.inl x :: .inl i :: .inr (some (mA m 8)) :: st) S Q := by
  obtain ⟨g1, g2, g3⟩ := hM.1.2.2 8 (by omega)
  exact XQ.zst h g1 hx h0 (by rw [g2]; exact hl) (hk _ (hM.arr (by omega)))
end MROWS
end
section
/-! what every state keeps, and what at() finds -/
theorem lp_inv {α : Type} {f : Nat → α → α} {a : α} (I : Nat → α → Prop) (h0 : I 0 a) : ∀ n, (∀ i x, i < n → I i x → I (i + 1) (f i x)) → I n (lp f n a)
  | 0, _ => h0
  | n + 1, hs => hs n _ (Nat.lt_succ_self n) (lp_inv I h0 n (fun i x hi => hs i x (Nat.lt_succ_of_lt hi)))
theorem atR_none {M : MM} {h : Int} : ∀ n : Nat, (∀ o : Nat, o < n → M 2 (o : Int) ≠ h) → atR M h n = -1
  | 0, _ => rfl
  | n + 1, hn => by
    unfold atR
    rw [if_neg (hn n (Nat.lt_succ_self n))]
    exact atR_none n (fun o ho => hn o (Nat.lt_succ_of_lt ho))
theorem atR_some {M : MM} {h : Int} : ∀ n : Nat, (∃ o : Nat, o < n ∧ M 2 (o : Int) = h) → ∃ o : Nat, o < n ∧ M 2 (o : Int) = h ∧ atR M h n = (o : Int)
  | 0, ⟨o, h1, _⟩ => absurd h1 (Nat.not_lt_zero o)
  | n + 1, ⟨o, h1, h2⟩ => by
    unfold atR
    by_cases e : M 2 (n : Int) = h
    · exact ⟨n, Nat.lt_succ_self n, e, if_pos e⟩
    · rw [if_neg e]
      have h3 : o < n := by
        rcases Nat.lt_succ_iff_lt_or_eq.mp h1 with q | q
        · exact q
        · subst q; exact absurd h2 e
      obtain ⟨o', g1, g2, g3⟩ := atR_some n ⟨o, h3, h2⟩
      exact ⟨o', Nat.lt_succ_of_lt g1, g2, g3⟩
/-- at most twenty objects -/
def BN (M : MM) : Prop := 0 ≤ M 13 0 ∧ M 13 0 ≤ 20
/-- bounds that keep every index in its row -/
def BW (M : MM) : Prop := (0 ≤ M 13 0 ∧ M 13 0 ≤ 20) ∧ (0 ≤ M 13 2 ∧ 0 ≤ M 13 3 ∧ M 13 2 + M 13 3 ≤ 8) ∧ (∀ o, 0 ≤ o → o < M 13 0 → 0 ≤ M 4 o ∧ M 4 o ≤ 4 ∧ (M 3 o = 2 ∨ M 3 o = 3 ∨ M 3 o = 4)) ∧ (0 ≤ M 13 1 ∧ M 13 1 ≤ 100000 ∧ 0 ≤ M 13 4 ∧ M 13 4 ≤ 100000)
theorem BW.cells {M : MM} (h : BW M) {o : Int} (h0 : 0 ≤ o) (h1 : o < M 13 0) : 2 ≤ aCells M o ∧ aCells M o ≤ 8 := by
  obtain ⟨g1, g2, g3⟩ := h.2.2.1 o h0 h1
  unfold aCells
  split
  · omega
  · split <;> omega
theorem BW.cb {M : MM} (h : BW M) : ∀ k : Nat, (k : Int) ≤ M 13 0 → 0 ≤ aCb M k ∧ aCb M k ≤ 8 * (k : Int)
  | 0, _ => ⟨by unfold aCb; omega, by unfold aCb; omega⟩
  | k + 1, hk => by
    obtain ⟨g1, g2⟩ := BW.cb h k (by omega)
    obtain ⟨g3, g4⟩ := h.cells (o := (k : Int)) (by omega) (by omega)
    unfold aCb
    omega
end
section
/-! the reference's methods, walked: the small ones -/
/-- the answer of isVar -/
def isV (v : Int) (r : Option MV) : Prop := (r = some (.inl 1) ∧ 0 ≤ v ∧ v ≤ 5) ∨ (r = some (.inl 0) ∧ (v < 0 ∨ 5 < v))
section M1
variable {d m : Nat} {S0 S : MS} {M : MM}
theorem M_isVar {v : Int} : XQ d k_M_isVar 0 (mentry (mL k_M_isVar) [.inl v]) [] S (fun r S' => S' = S ∧ isV v r) := by
  refine XQ.go rfl rfl ?_
  refine XQ.zlt rfl (fun h => ?_) (fun h => ?_)
  · repeat refine XQ.go rfl rfl ?_
    exact XQ.ret rfl rfl ⟨rfl, Or.inr ⟨rfl, by omega⟩⟩
  · repeat refine XQ.go rfl rfl ?_
    refine XQ.cgt rfl (fun h2 => ?_) (fun h2 => ?_)
    · repeat refine XQ.go rfl rfl ?_
      exact XQ.ret rfl rfl ⟨rfl, Or.inr ⟨rfl, by omega⟩⟩
    · repeat refine XQ.go rfl rfl ?_
      exact XQ.ret rfl rfl ⟨rfl, Or.inl ⟨rfl, by omega⟩⟩
theorem M_at_l {h : Int} (hM : MO m S0 S M) (hB : BN M) : ∀ (j o : Nat), ((o + j : Nat) : Int) = M 13 0 → XQ d k_M_at 4 [some (.inr (some m)), some (.inl h), some (.inl (atR M h o)), some (.inl (o : Int))] [] S (fun v S' => S' = S ∧ v = some (.inl (aAt M h))) := by
  intro j
  induction j with
  | zero =>
    intro o ho
    repeat (first | refine XQ.go rfl rfl ?_ | refine XQ.zeq0 rfl ?_ | refine XQ.zeq1 rfl ?_ | refine XQ.zne0 rfl ?_ | refine XQ.zne1 rfl ?_ | refine XQ.mg hM rfl rfl ?_ | refine XQ.ml hM rfl rfl (by decide) (by omega) (by simp only [mLen]; omega) ?_ | refine XQ.add rfl ⟨by omega, by omega⟩ ?_ | refine XQ.sub rfl ⟨by omega, by omega⟩ ?_ | refine XQ.mul rfl ⟨by omega, by omega⟩ ?_ | refine XQ.inc rfl rfl rfl ⟨by omega, by omega⟩ ?_ | refine XQ.ms hM rfl rfl (by decide) (by omega) (by simp only [mLen]; omega) (fun S hM => ?_) | refine XQ.mp hM rfl rfl (fun S hM => ?_))
    refine XQ.cge rfl (fun q => ?_) (fun q => by omega)
    repeat (first | refine XQ.go rfl rfl ?_ | refine XQ.zeq0 rfl ?_ | refine XQ.zeq1 rfl ?_ | refine XQ.zne0 rfl ?_ | refine XQ.zne1 rfl ?_ | refine XQ.mg hM rfl rfl ?_ | refine XQ.ml hM rfl rfl (by decide) (by omega) (by simp only [mLen]; omega) ?_ | refine XQ.add rfl ⟨by omega, by omega⟩ ?_ | refine XQ.sub rfl ⟨by omega, by omega⟩ ?_ | refine XQ.mul rfl ⟨by omega, by omega⟩ ?_ | refine XQ.inc rfl rfl rfl ⟨by omega, by omega⟩ ?_ | refine XQ.ms hM rfl rfl (by decide) (by omega) (by simp only [mLen]; omega) (fun S hM => ?_) | refine XQ.mp hM rfl rfl (fun S hM => ?_))
    refine XQ.ret rfl rfl ⟨rfl, ?_⟩
    unfold aAt
    rw [← ho]
    rfl
  | succ j ih =>
    intro o ho
    have hb := hB
    unfold BN at hb
    repeat (first | refine XQ.go rfl rfl ?_ | refine XQ.zeq0 rfl ?_ | refine XQ.zeq1 rfl ?_ | refine XQ.zne0 rfl ?_ | refine XQ.zne1 rfl ?_ | refine XQ.mg hM rfl rfl ?_ | refine XQ.ml hM rfl rfl (by decide) (by omega) (by simp only [mLen]; omega) ?_ | refine XQ.add rfl ⟨by omega, by omega⟩ ?_ | refine XQ.sub rfl ⟨by omega, by omega⟩ ?_ | refine XQ.mul rfl ⟨by omega, by omega⟩ ?_ | refine XQ.inc rfl rfl rfl ⟨by omega, by omega⟩ ?_ | refine XQ.ms hM rfl rfl (by decide) (by omega) (by simp only [mLen]; omega) (fun S hM => ?_) | refine XQ.mp hM rfl rfl (fun S hM => ?_))
    refine XQ.cge rfl (fun q => by omega) (fun q => ?_)
    repeat (first | refine XQ.go rfl rfl ?_ | refine XQ.zeq0 rfl ?_ | refine XQ.zeq1 rfl ?_ | refine XQ.zne0 rfl ?_ | refine XQ.zne1 rfl ?_ | refine XQ.mg hM rfl rfl ?_ | refine XQ.ml hM rfl rfl (by decide) (by omega) (by simp only [mLen]; omega) ?_ | refine XQ.add rfl ⟨by omega, by omega⟩ ?_ | refine XQ.sub rfl ⟨by omega, by omega⟩ ?_ | refine XQ.mul rfl ⟨by omega, by omega⟩ ?_ | refine XQ.inc rfl rfl rfl ⟨by omega, by omega⟩ ?_ | refine XQ.ms hM rfl rfl (by decide) (by omega) (by simp only [mLen]; omega) (fun S hM => ?_) | refine XQ.mp hM rfl rfl (fun S hM => ?_))
    have ih2 := ih (o + 1) (by omega)
    refine XQ.cne rfl (fun q2 => ?_) (fun q2 => ?_)
    · have e : atR M h (o + 1) = atR M h o := by show (if M 2 (o : Int) = h then (o : Int) else atR M h o) = _; rw [if_neg q2]
      rw [e] at ih2
      repeat (first | exact ih2 | refine XQ.go rfl rfl ?_ | refine XQ.zeq0 rfl ?_ | refine XQ.zeq1 rfl ?_ | refine XQ.zne0 rfl ?_ | refine XQ.zne1 rfl ?_ | refine XQ.mg hM rfl rfl ?_ | refine XQ.ml hM rfl rfl (by decide) (by omega) (by simp only [mLen]; omega) ?_ | refine XQ.add rfl ⟨by omega, by omega⟩ ?_ | refine XQ.sub rfl ⟨by omega, by omega⟩ ?_ | refine XQ.mul rfl ⟨by omega, by omega⟩ ?_ | refine XQ.inc rfl rfl rfl ⟨by omega, by omega⟩ ?_ | refine XQ.ms hM rfl rfl (by decide) (by omega) (by simp only [mLen]; omega) (fun S hM => ?_) | refine XQ.mp hM rfl rfl (fun S hM => ?_))
    · have e : atR M h (o + 1) = (o : Int) := by show (if M 2 (o : Int) = h then (o : Int) else atR M h o) = _; rw [if_pos q2]
      rw [e] at ih2
      repeat (first | exact ih2 | refine XQ.go rfl rfl ?_ | refine XQ.zeq0 rfl ?_ | refine XQ.zeq1 rfl ?_ | refine XQ.zne0 rfl ?_ | refine XQ.zne1 rfl ?_ | refine XQ.mg hM rfl rfl ?_ | refine XQ.ml hM rfl rfl (by decide) (by omega) (by simp only [mLen]; omega) ?_ | refine XQ.add rfl ⟨by omega, by omega⟩ ?_ | refine XQ.sub rfl ⟨by omega, by omega⟩ ?_ | refine XQ.mul rfl ⟨by omega, by omega⟩ ?_ | refine XQ.inc rfl rfl rfl ⟨by omega, by omega⟩ ?_ | refine XQ.ms hM rfl rfl (by decide) (by omega) (by simp only [mLen]; omega) (fun S hM => ?_) | refine XQ.mp hM rfl rfl (fun S hM => ?_))
theorem M_at {h : Int} (hM : MO m S0 S M) (hB : BN M) : XQ d k_M_at 0 (mentry (mL k_M_at) [.inr (some m), .inl h]) [] S (fun v S' => S' = S ∧ v = some (.inl (aAt M h))) := by
  have h0 := M_at_l (d := d) (h := h) hM hB (M 13 0).toNat 0 (by have := hB.1; omega)
  repeat (first | exact h0 | refine XQ.go rfl rfl ?_ | refine XQ.zeq0 rfl ?_ | refine XQ.zeq1 rfl ?_ | refine XQ.zne0 rfl ?_ | refine XQ.zne1 rfl ?_ | refine XQ.mg hM rfl rfl ?_ | refine XQ.ml hM rfl rfl (by decide) (by omega) (by simp only [mLen]; omega) ?_ | refine XQ.add rfl ⟨by omega, by omega⟩ ?_ | refine XQ.sub rfl ⟨by omega, by omega⟩ ?_ | refine XQ.mul rfl ⟨by omega, by omega⟩ ?_ | refine XQ.inc rfl rfl rfl ⟨by omega, by omega⟩ ?_ | refine XQ.ms hM rfl rfl (by decide) (by omega) (by simp only [mLen]; omega) (fun S hM => ?_) | refine XQ.mp hM rfl rfl (fun S hM => ?_))
theorem M_object {v : Int} (hM : MO m S0 S M) (hB : BW M) : XQ (d + 1) k_M_object 0 (mentry (mL k_M_object) [.inr (some m), .inl v]) [] S (fun r S' => S' = S ∧ r = some (.inl (aObj M v))) := by
  repeat (first | refine XQ.go rfl rfl ?_ | refine XQ.zeq0 rfl ?_ | refine XQ.zeq1 rfl ?_ | refine XQ.zne0 rfl ?_ | refine XQ.zne1 rfl ?_ | refine XQ.mg hM rfl rfl ?_ | refine XQ.ml hM rfl rfl (by decide) (by omega) (by simp only [mLen]; omega) ?_ | refine XQ.add rfl ⟨by omega, by omega⟩ ?_ | refine XQ.sub rfl ⟨by omega, by omega⟩ ?_ | refine XQ.mul rfl ⟨by omega, by omega⟩ ?_ | refine XQ.inc rfl rfl rfl ⟨by omega, by omega⟩ ?_ | refine XQ.ms hM rfl rfl (by decide) (by omega) (by simp only [mLen]; omega) (fun S hM => ?_) | refine XQ.mp hM rfl rfl (fun S hM => ?_))
  refine XQ.s1 rfl rfl (le8 rfl) (M_isVar (v := v)) (fun r S' hq => ?_)
  obtain ⟨rfl, ⟨rfl, hv⟩ | ⟨rfl, hv⟩⟩ := hq
  · repeat (first | refine XQ.go rfl rfl ?_ | refine XQ.zeq0 rfl ?_ | refine XQ.zeq1 rfl ?_ | refine XQ.zne0 rfl ?_ | refine XQ.zne1 rfl ?_ | refine XQ.mg hM rfl rfl ?_ | refine XQ.ml hM rfl rfl (by decide) (by omega) (by simp only [mLen]; omega) ?_ | refine XQ.add rfl ⟨by omega, by omega⟩ ?_ | refine XQ.sub rfl ⟨by omega, by omega⟩ ?_ | refine XQ.mul rfl ⟨by omega, by omega⟩ ?_ | refine XQ.inc rfl rfl rfl ⟨by omega, by omega⟩ ?_ | refine XQ.ms hM rfl rfl (by decide) (by omega) (by simp only [mLen]; omega) (fun S hM => ?_) | refine XQ.mp hM rfl rfl (fun S hM => ?_))
    refine XQ.cne rfl (fun q => ?_) (fun q => ?_)
    · repeat (first | refine XQ.go rfl rfl ?_ | refine XQ.zeq0 rfl ?_ | refine XQ.zeq1 rfl ?_ | refine XQ.zne0 rfl ?_ | refine XQ.zne1 rfl ?_ | refine XQ.mg hM rfl rfl ?_ | refine XQ.ml hM rfl rfl (by decide) (by omega) (by simp only [mLen]; omega) ?_ | refine XQ.add rfl ⟨by omega, by omega⟩ ?_ | refine XQ.sub rfl ⟨by omega, by omega⟩ ?_ | refine XQ.mul rfl ⟨by omega, by omega⟩ ?_ | refine XQ.inc rfl rfl rfl ⟨by omega, by omega⟩ ?_ | refine XQ.ms hM rfl rfl (by decide) (by omega) (by simp only [mLen]; omega) (fun S hM => ?_) | refine XQ.mp hM rfl rfl (fun S hM => ?_))
      refine XQ.ret rfl rfl ⟨rfl, ?_⟩
      unfold aObj
      rw [if_neg (fun z => q z.2.2)]
    · repeat (first | refine XQ.go rfl rfl ?_ | refine XQ.zeq0 rfl ?_ | refine XQ.zeq1 rfl ?_ | refine XQ.zne0 rfl ?_ | refine XQ.zne1 rfl ?_ | refine XQ.mg hM rfl rfl ?_ | refine XQ.ml hM rfl rfl (by decide) (by omega) (by simp only [mLen]; omega) ?_ | refine XQ.add rfl ⟨by omega, by omega⟩ ?_ | refine XQ.sub rfl ⟨by omega, by omega⟩ ?_ | refine XQ.mul rfl ⟨by omega, by omega⟩ ?_ | refine XQ.inc rfl rfl rfl ⟨by omega, by omega⟩ ?_ | refine XQ.ms hM rfl rfl (by decide) (by omega) (by simp only [mLen]; omega) (fun S hM => ?_) | refine XQ.mp hM rfl rfl (fun S hM => ?_))
      refine XQ.v2 rfl hM.1.1 rfl (le8 rfl) (M_at hM hB.1) (fun r S' hq => ?_)
      obtain ⟨rfl, rfl⟩ := hq
      repeat (first | refine XQ.go rfl rfl ?_ | refine XQ.zeq0 rfl ?_ | refine XQ.zeq1 rfl ?_ | refine XQ.zne0 rfl ?_ | refine XQ.zne1 rfl ?_ | refine XQ.mg hM rfl rfl ?_ | refine XQ.ml hM rfl rfl (by decide) (by omega) (by simp only [mLen]; omega) ?_ | refine XQ.add rfl ⟨by omega, by omega⟩ ?_ | refine XQ.sub rfl ⟨by omega, by omega⟩ ?_ | refine XQ.mul rfl ⟨by omega, by omega⟩ ?_ | refine XQ.inc rfl rfl rfl ⟨by omega, by omega⟩ ?_ | refine XQ.ms hM rfl rfl (by decide) (by omega) (by simp only [mLen]; omega) (fun S hM => ?_) | refine XQ.mp hM rfl rfl (fun S hM => ?_))
      refine XQ.ret rfl rfl ⟨rfl, ?_⟩
      unfold aObj
      rw [if_pos ⟨hv.1, hv.2, q⟩]
  · repeat (first | refine XQ.go rfl rfl ?_ | refine XQ.zeq0 rfl ?_ | refine XQ.zeq1 rfl ?_ | refine XQ.zne0 rfl ?_ | refine XQ.zne1 rfl ?_ | refine XQ.mg hM rfl rfl ?_ | refine XQ.ml hM rfl rfl (by decide) (by omega) (by simp only [mLen]; omega) ?_ | refine XQ.add rfl ⟨by omega, by omega⟩ ?_ | refine XQ.sub rfl ⟨by omega, by omega⟩ ?_ | refine XQ.mul rfl ⟨by omega, by omega⟩ ?_ | refine XQ.inc rfl rfl rfl ⟨by omega, by omega⟩ ?_ | refine XQ.ms hM rfl rfl (by decide) (by omega) (by simp only [mLen]; omega) (fun S hM => ?_) | refine XQ.mp hM rfl rfl (fun S hM => ?_))
    refine XQ.ret rfl rfl ⟨rfl, ?_⟩
    unfold aObj
    rw [if_neg (fun z => by omega)]
theorem aAt_in (hB : BN M) (h : Int) : aAt M h = -1 ∨ (0 ≤ aAt M h ∧ aAt M h < M 13 0 ∧ M 2 (aAt M h) = h) := by
  unfold aAt
  by_cases e : ∃ o : Nat, o < (M 13 0).toNat ∧ M 2 (o : Int) = h
  · obtain ⟨o, h1, h2, h3⟩ := atR_some _ e
    rw [h3]
    exact Or.inr ⟨by omega, by omega, h2⟩
  · exact Or.inl (atR_none _ (fun o ho q => e ⟨o, ho, q⟩))
theorem aObj_in (hB : BN M) (v : Int) : aObj M v = -1 ∨ (0 ≤ aObj M v ∧ aObj M v < M 13 0 ∧ 0 ≤ v ∧ v ≤ 5 ∧ M 0 v = 9 ∧ M 2 (aObj M v) = M 1 v) := by
  unfold aObj
  split
  · rename_i hc
    rcases aAt_in hB (M 1 v) with h | h
    · exact Or.inl h
    · exact Or.inr ⟨h.1, h.2.1, hc.1, hc.2.1, hc.2.2, h.2.2⟩
  · exact Or.inl rfl
theorem aObjOf_in (hB : BN M) (v s : Int) : aObjOf M v s = -1 ∨ (aObjOf M v s = aObj M v ∧ 0 ≤ aObj M v ∧ M 3 (aObj M v) = s) := by
  unfold aObjOf
  split
  · rename_i hc
    exact Or.inr ⟨rfl, hc.1, hc.2⟩
  · exact Or.inl rfl
theorem M_objectOf {v s : Int} (hM : MO m S0 S M) (hB : BW M) : XQ (d + 2) k_M_objectOf 0 (mentry (mL k_M_objectOf) [.inr (some m), .inl v, .inl s]) [] S (fun r S' => S' = S ∧ r = some (.inl (aObjOf M v s))) := by
  have hb := hB.1
  have hi := aObj_in hB.1 v
  repeat (first | refine XQ.go rfl rfl ?_ | refine XQ.zeq0 rfl ?_ | refine XQ.zeq1 rfl ?_ | refine XQ.zne0 rfl ?_ | refine XQ.zne1 rfl ?_ | refine XQ.mg hM rfl rfl ?_ | refine XQ.ml hM rfl rfl (by decide) (by omega) (by simp only [mLen]; omega) ?_ | refine XQ.add rfl ⟨by omega, by omega⟩ ?_ | refine XQ.sub rfl ⟨by omega, by omega⟩ ?_ | refine XQ.mul rfl ⟨by omega, by omega⟩ ?_ | refine XQ.inc rfl rfl rfl ⟨by omega, by omega⟩ ?_ | refine XQ.ms hM rfl rfl (by decide) (by omega) (by simp only [mLen]; omega) (fun S hM => ?_) | refine XQ.mp hM rfl rfl (fun S hM => ?_))
  refine XQ.v2 rfl hM.1.1 rfl (le8 rfl) (M_object hM hB) (fun r S' hq => ?_)
  obtain ⟨rfl, rfl⟩ := hq
  repeat (first | refine XQ.go rfl rfl ?_ | refine XQ.zeq0 rfl ?_ | refine XQ.zeq1 rfl ?_ | refine XQ.zne0 rfl ?_ | refine XQ.zne1 rfl ?_ | refine XQ.mg hM rfl rfl ?_ | refine XQ.ml hM rfl rfl (by decide) (by omega) (by simp only [mLen]; omega) ?_ | refine XQ.add rfl ⟨by omega, by omega⟩ ?_ | refine XQ.sub rfl ⟨by omega, by omega⟩ ?_ | refine XQ.mul rfl ⟨by omega, by omega⟩ ?_ | refine XQ.inc rfl rfl rfl ⟨by omega, by omega⟩ ?_ | refine XQ.ms hM rfl rfl (by decide) (by omega) (by simp only [mLen]; omega) (fun S hM => ?_) | refine XQ.mp hM rfl rfl (fun S hM => ?_))
  refine XQ.zlt rfl (fun q => ?_) (fun q => ?_)
  · repeat (first | refine XQ.go rfl rfl ?_ | refine XQ.zeq0 rfl ?_ | refine XQ.zeq1 rfl ?_ | refine XQ.zne0 rfl ?_ | refine XQ.zne1 rfl ?_ | refine XQ.mg hM rfl rfl ?_ | refine XQ.ml hM rfl rfl (by decide) (by omega) (by simp only [mLen]; omega) ?_ | refine XQ.add rfl ⟨by omega, by omega⟩ ?_ | refine XQ.sub rfl ⟨by omega, by omega⟩ ?_ | refine XQ.mul rfl ⟨by omega, by omega⟩ ?_ | refine XQ.inc rfl rfl rfl ⟨by omega, by omega⟩ ?_ | refine XQ.ms hM rfl rfl (by decide) (by omega) (by simp only [mLen]; omega) (fun S hM => ?_) | refine XQ.mp hM rfl rfl (fun S hM => ?_))
    refine XQ.ret rfl rfl ⟨rfl, ?_⟩
    unfold aObjOf
    rw [if_neg (fun z => by omega)]
  · repeat (first | refine XQ.go rfl rfl ?_ | refine XQ.zeq0 rfl ?_ | refine XQ.zeq1 rfl ?_ | refine XQ.zne0 rfl ?_ | refine XQ.zne1 rfl ?_ | refine XQ.mg hM rfl rfl ?_ | refine XQ.ml hM rfl rfl (by decide) (by omega) (by simp only [mLen]; omega) ?_ | refine XQ.add rfl ⟨by omega, by omega⟩ ?_ | refine XQ.sub rfl ⟨by omega, by omega⟩ ?_ | refine XQ.mul rfl ⟨by omega, by omega⟩ ?_ | refine XQ.inc rfl rfl rfl ⟨by omega, by omega⟩ ?_ | refine XQ.ms hM rfl rfl (by decide) (by omega) (by simp only [mLen]; omega) (fun S hM => ?_) | refine XQ.mp hM rfl rfl (fun S hM => ?_))
    refine XQ.cne rfl (fun q2 => ?_) (fun q2 => ?_)
    · repeat (first | refine XQ.go rfl rfl ?_ | refine XQ.zeq0 rfl ?_ | refine XQ.zeq1 rfl ?_ | refine XQ.zne0 rfl ?_ | refine XQ.zne1 rfl ?_ | refine XQ.mg hM rfl rfl ?_ | refine XQ.ml hM rfl rfl (by decide) (by omega) (by simp only [mLen]; omega) ?_ | refine XQ.add rfl ⟨by omega, by omega⟩ ?_ | refine XQ.sub rfl ⟨by omega, by omega⟩ ?_ | refine XQ.mul rfl ⟨by omega, by omega⟩ ?_ | refine XQ.inc rfl rfl rfl ⟨by omega, by omega⟩ ?_ | refine XQ.ms hM rfl rfl (by decide) (by omega) (by simp only [mLen]; omega) (fun S hM => ?_) | refine XQ.mp hM rfl rfl (fun S hM => ?_))
      refine XQ.ret rfl rfl ⟨rfl, ?_⟩
      unfold aObjOf
      rw [if_neg (fun z => q2 z.2)]
    · repeat (first | refine XQ.go rfl rfl ?_ | refine XQ.zeq0 rfl ?_ | refine XQ.zeq1 rfl ?_ | refine XQ.zne0 rfl ?_ | refine XQ.zne1 rfl ?_ | refine XQ.mg hM rfl rfl ?_ | refine XQ.ml hM rfl rfl (by decide) (by omega) (by simp only [mLen]; omega) ?_ | refine XQ.add rfl ⟨by omega, by omega⟩ ?_ | refine XQ.sub rfl ⟨by omega, by omega⟩ ?_ | refine XQ.mul rfl ⟨by omega, by omega⟩ ?_ | refine XQ.inc rfl rfl rfl ⟨by omega, by omega⟩ ?_ | refine XQ.ms hM rfl rfl (by decide) (by omega) (by simp only [mLen]; omega) (fun S hM => ?_) | refine XQ.mp hM rfl rfl (fun S hM => ?_))
      refine XQ.ret rfl rfl ⟨rfl, ?_⟩
      unfold aObjOf
      rw [if_pos ⟨q, q2⟩]
theorem M_hold {v a b : Int} (hM : MO m S0 S M) (h0 : 0 ≤ v) (h5 : v ≤ 5) : XQ d k_M_hold 0 (mentry (mL k_M_hold) [.inr (some m), .inl v, .inl a, .inl b]) [] S (fun r S' => r = none ∧ MO m S0 S' (aHold M v a b)) := by
  repeat (first | refine XQ.go rfl rfl ?_ | refine XQ.zeq0 rfl ?_ | refine XQ.zeq1 rfl ?_ | refine XQ.zne0 rfl ?_ | refine XQ.zne1 rfl ?_ | refine XQ.mg hM rfl rfl ?_ | refine XQ.ml hM rfl rfl (by decide) (by omega) (by simp only [mLen]; omega) ?_ | refine XQ.add rfl ⟨by omega, by omega⟩ ?_ | refine XQ.sub rfl ⟨by omega, by omega⟩ ?_ | refine XQ.mul rfl ⟨by omega, by omega⟩ ?_ | refine XQ.inc rfl rfl rfl ⟨by omega, by omega⟩ ?_ | refine XQ.ms hM rfl rfl (by decide) (by omega) (by simp only [mLen]; omega) (fun S hM => ?_) | refine XQ.mp hM rfl rfl (fun S hM => ?_))
  exact XQ.ret rfl rfl ⟨rfl, hM⟩
theorem M_number {v n : Int} (hM : MO m S0 S M) : XQ (d + 1) k_M_number 0 (mentry (mL k_M_number) [.inr (some m), .inl v, .inl n]) [] S (fun r S' => r = some (.inl (aNumber M v n).1) ∧ MO m S0 S' (aNumber M v n).2) := by
  repeat (first | refine XQ.go rfl rfl ?_ | refine XQ.zeq0 rfl ?_ | refine XQ.zeq1 rfl ?_ | refine XQ.zne0 rfl ?_ | refine XQ.zne1 rfl ?_ | refine XQ.mg hM rfl rfl ?_ | refine XQ.ml hM rfl rfl (by decide) (by omega) (by simp only [mLen]; omega) ?_ | refine XQ.add rfl ⟨by omega, by omega⟩ ?_ | refine XQ.sub rfl ⟨by omega, by omega⟩ ?_ | refine XQ.mul rfl ⟨by omega, by omega⟩ ?_ | refine XQ.inc rfl rfl rfl ⟨by omega, by omega⟩ ?_ | refine XQ.ms hM rfl rfl (by decide) (by omega) (by simp only [mLen]; omega) (fun S hM => ?_) | refine XQ.mp hM rfl rfl (fun S hM => ?_))
  refine XQ.s1 rfl rfl (le8 rfl) (M_isVar (v := v)) (fun r S' hq => ?_)
  obtain ⟨rfl, ⟨rfl, hv⟩ | ⟨rfl, hv⟩⟩ := hq
  · repeat (first | refine XQ.go rfl rfl ?_ | refine XQ.zeq0 rfl ?_ | refine XQ.zeq1 rfl ?_ | refine XQ.zne0 rfl ?_ | refine XQ.zne1 rfl ?_ | refine XQ.mg hM rfl rfl ?_ | refine XQ.ml hM rfl rfl (by decide) (by omega) (by simp only [mLen]; omega) ?_ | refine XQ.add rfl ⟨by omega, by omega⟩ ?_ | refine XQ.sub rfl ⟨by omega, by omega⟩ ?_ | refine XQ.mul rfl ⟨by omega, by omega⟩ ?_ | refine XQ.inc rfl rfl rfl ⟨by omega, by omega⟩ ?_ | refine XQ.ms hM rfl rfl (by decide) (by omega) (by simp only [mLen]; omega) (fun S hM => ?_) | refine XQ.mp hM rfl rfl (fun S hM => ?_))
    refine XQ.clt rfl (fun q => ?_) (fun q => ?_)
    · repeat (first | refine XQ.go rfl rfl ?_ | refine XQ.zeq0 rfl ?_ | refine XQ.zeq1 rfl ?_ | refine XQ.zne0 rfl ?_ | refine XQ.zne1 rfl ?_ | refine XQ.mg hM rfl rfl ?_ | refine XQ.ml hM rfl rfl (by decide) (by omega) (by simp only [mLen]; omega) ?_ | refine XQ.add rfl ⟨by omega, by omega⟩ ?_ | refine XQ.sub rfl ⟨by omega, by omega⟩ ?_ | refine XQ.mul rfl ⟨by omega, by omega⟩ ?_ | refine XQ.inc rfl rfl rfl ⟨by omega, by omega⟩ ?_ | refine XQ.ms hM rfl rfl (by decide) (by omega) (by simp only [mLen]; omega) (fun S hM => ?_) | refine XQ.mp hM rfl rfl (fun S hM => ?_))
      refine XQ.ret rfl rfl ?_
      unfold aNumber
      rw [if_pos (by omega)]
      exact ⟨rfl, hM⟩
    · repeat (first | refine XQ.go rfl rfl ?_ | refine XQ.zeq0 rfl ?_ | refine XQ.zeq1 rfl ?_ | refine XQ.zne0 rfl ?_ | refine XQ.zne1 rfl ?_ | refine XQ.mg hM rfl rfl ?_ | refine XQ.ml hM rfl rfl (by decide) (by omega) (by simp only [mLen]; omega) ?_ | refine XQ.add rfl ⟨by omega, by omega⟩ ?_ | refine XQ.sub rfl ⟨by omega, by omega⟩ ?_ | refine XQ.mul rfl ⟨by omega, by omega⟩ ?_ | refine XQ.inc rfl rfl rfl ⟨by omega, by omega⟩ ?_ | refine XQ.ms hM rfl rfl (by decide) (by omega) (by simp only [mLen]; omega) (fun S hM => ?_) | refine XQ.mp hM rfl rfl (fun S hM => ?_))
      refine XQ.cle rfl (fun q2 => ?_) (fun q2 => ?_)
      · repeat (first | refine XQ.go rfl rfl ?_ | refine XQ.zeq0 rfl ?_ | refine XQ.zeq1 rfl ?_ | refine XQ.zne0 rfl ?_ | refine XQ.zne1 rfl ?_ | refine XQ.mg hM rfl rfl ?_ | refine XQ.ml hM rfl rfl (by decide) (by omega) (by simp only [mLen]; omega) ?_ | refine XQ.add rfl ⟨by omega, by omega⟩ ?_ | refine XQ.sub rfl ⟨by omega, by omega⟩ ?_ | refine XQ.mul rfl ⟨by omega, by omega⟩ ?_ | refine XQ.inc rfl rfl rfl ⟨by omega, by omega⟩ ?_ | refine XQ.ms hM rfl rfl (by decide) (by omega) (by simp only [mLen]; omega) (fun S hM => ?_) | refine XQ.mp hM rfl rfl (fun S hM => ?_))
        refine XQ.v4 rfl hM.1.1 rfl (le8 rfl) (M_hold hM hv.1 hv.2) (fun r S hq => ?_)
        obtain ⟨rfl, hM⟩ := hq
        repeat (first | refine XQ.go rfl rfl ?_ | refine XQ.zeq0 rfl ?_ | refine XQ.zeq1 rfl ?_ | refine XQ.zne0 rfl ?_ | refine XQ.zne1 rfl ?_ | refine XQ.mg hM rfl rfl ?_ | refine XQ.ml hM rfl rfl (by decide) (by omega) (by simp only [mLen]; omega) ?_ | refine XQ.add rfl ⟨by omega, by omega⟩ ?_ | refine XQ.sub rfl ⟨by omega, by omega⟩ ?_ | refine XQ.mul rfl ⟨by omega, by omega⟩ ?_ | refine XQ.inc rfl rfl rfl ⟨by omega, by omega⟩ ?_ | refine XQ.ms hM rfl rfl (by decide) (by omega) (by simp only [mLen]; omega) (fun S hM => ?_) | refine XQ.mp hM rfl rfl (fun S hM => ?_))
        refine XQ.ret rfl rfl ?_
        unfold aNumber
        rw [if_neg (by omega)]
        exact ⟨rfl, hM⟩
      · repeat (first | refine XQ.go rfl rfl ?_ | refine XQ.zeq0 rfl ?_ | refine XQ.zeq1 rfl ?_ | refine XQ.zne0 rfl ?_ | refine XQ.zne1 rfl ?_ | refine XQ.mg hM rfl rfl ?_ | refine XQ.ml hM rfl rfl (by decide) (by omega) (by simp only [mLen]; omega) ?_ | refine XQ.add rfl ⟨by omega, by omega⟩ ?_ | refine XQ.sub rfl ⟨by omega, by omega⟩ ?_ | refine XQ.mul rfl ⟨by omega, by omega⟩ ?_ | refine XQ.inc rfl rfl rfl ⟨by omega, by omega⟩ ?_ | refine XQ.ms hM rfl rfl (by decide) (by omega) (by simp only [mLen]; omega) (fun S hM => ?_) | refine XQ.mp hM rfl rfl (fun S hM => ?_))
        refine XQ.ret rfl rfl ?_
        unfold aNumber
        rw [if_pos (by omega)]
        exact ⟨rfl, hM⟩
  · repeat (first | refine XQ.go rfl rfl ?_ | refine XQ.zeq0 rfl ?_ | refine XQ.zeq1 rfl ?_ | refine XQ.zne0 rfl ?_ | refine XQ.zne1 rfl ?_ | refine XQ.mg hM rfl rfl ?_ | refine XQ.ml hM rfl rfl (by decide) (by omega) (by simp only [mLen]; omega) ?_ | refine XQ.add rfl ⟨by omega, by omega⟩ ?_ | refine XQ.sub rfl ⟨by omega, by omega⟩ ?_ | refine XQ.mul rfl ⟨by omega, by omega⟩ ?_ | refine XQ.inc rfl rfl rfl ⟨by omega, by omega⟩ ?_ | refine XQ.ms hM rfl rfl (by decide) (by omega) (by simp only [mLen]; omega) (fun S hM => ?_) | refine XQ.mp hM rfl rfl (fun S hM => ?_))
    refine XQ.ret rfl rfl ?_
    unfold aNumber
    rw [if_pos (by omega)]
    exact ⟨rfl, hM⟩
theorem M_assign {v w : Int} (hM : MO m S0 S M) : XQ (d + 1) k_M_assign 0 (mentry (mL k_M_assign) [.inr (some m), .inl v, .inl w]) [] S (fun r S' => r = some (.inl (aAssign M v w).1) ∧ MO m S0 S' (aAssign M v w).2) := by
  have bad : (v < 0 ∨ 5 < v ∨ w < -1 ∨ 5 < w) → aAssign M v w = (0, M) := fun q => by unfold aAssign; rw [if_pos q]
  have good : 0 ≤ v ∧ v ≤ 5 ∧ -1 ≤ w ∧ w ≤ 5 → aAssign M v w = (1, if w < 0 then aHold M v 0 0 else aHold M v (M 0 w) (M 1 w)) := fun q => by unfold aAssign; rw [if_neg (by omega)]
  repeat (first | refine XQ.go rfl rfl ?_ | refine XQ.zeq0 rfl ?_ | refine XQ.zeq1 rfl ?_ | refine XQ.zne0 rfl ?_ | refine XQ.zne1 rfl ?_ | refine XQ.mg hM rfl rfl ?_ | refine XQ.ml hM rfl rfl (by decide) (by omega) (by simp only [mLen]; omega) ?_ | refine XQ.add rfl ⟨by omega, by omega⟩ ?_ | refine XQ.sub rfl ⟨by omega, by omega⟩ ?_ | refine XQ.mul rfl ⟨by omega, by omega⟩ ?_ | refine XQ.inc rfl rfl rfl ⟨by omega, by omega⟩ ?_ | refine XQ.ms hM rfl rfl (by decide) (by omega) (by simp only [mLen]; omega) (fun S hM => ?_) | refine XQ.mp hM rfl rfl (fun S hM => ?_))
  refine XQ.s1 rfl rfl (le8 rfl) (M_isVar (v := v)) (fun r S' hq => ?_)
  obtain ⟨rfl, ⟨rfl, hv⟩ | ⟨rfl, hv⟩⟩ := hq
  · repeat (first | refine XQ.go rfl rfl ?_ | refine XQ.zeq0 rfl ?_ | refine XQ.zeq1 rfl ?_ | refine XQ.zne0 rfl ?_ | refine XQ.zne1 rfl ?_ | refine XQ.mg hM rfl rfl ?_ | refine XQ.ml hM rfl rfl (by decide) (by omega) (by simp only [mLen]; omega) ?_ | refine XQ.add rfl ⟨by omega, by omega⟩ ?_ | refine XQ.sub rfl ⟨by omega, by omega⟩ ?_ | refine XQ.mul rfl ⟨by omega, by omega⟩ ?_ | refine XQ.inc rfl rfl rfl ⟨by omega, by omega⟩ ?_ | refine XQ.ms hM rfl rfl (by decide) (by omega) (by simp only [mLen]; omega) (fun S hM => ?_) | refine XQ.mp hM rfl rfl (fun S hM => ?_))
    refine XQ.ceq rfl (fun q => ?_) (fun q => ?_)
    · repeat (first | refine XQ.go rfl rfl ?_ | refine XQ.zeq0 rfl ?_ | refine XQ.zeq1 rfl ?_ | refine XQ.zne0 rfl ?_ | refine XQ.zne1 rfl ?_ | refine XQ.mg hM rfl rfl ?_ | refine XQ.ml hM rfl rfl (by decide) (by omega) (by simp only [mLen]; omega) ?_ | refine XQ.add rfl ⟨by omega, by omega⟩ ?_ | refine XQ.sub rfl ⟨by omega, by omega⟩ ?_ | refine XQ.mul rfl ⟨by omega, by omega⟩ ?_ | refine XQ.inc rfl rfl rfl ⟨by omega, by omega⟩ ?_ | refine XQ.ms hM rfl rfl (by decide) (by omega) (by simp only [mLen]; omega) (fun S hM => ?_) | refine XQ.mp hM rfl rfl (fun S hM => ?_))
      refine XQ.zge rfl (fun q2 => by omega) (fun q2 => ?_)
      repeat (first | refine XQ.go rfl rfl ?_ | refine XQ.zeq0 rfl ?_ | refine XQ.zeq1 rfl ?_ | refine XQ.zne0 rfl ?_ | refine XQ.zne1 rfl ?_ | refine XQ.mg hM rfl rfl ?_ | refine XQ.ml hM rfl rfl (by decide) (by omega) (by simp only [mLen]; omega) ?_ | refine XQ.add rfl ⟨by omega, by omega⟩ ?_ | refine XQ.sub rfl ⟨by omega, by omega⟩ ?_ | refine XQ.mul rfl ⟨by omega, by omega⟩ ?_ | refine XQ.inc rfl rfl rfl ⟨by omega, by omega⟩ ?_ | refine XQ.ms hM rfl rfl (by decide) (by omega) (by simp only [mLen]; omega) (fun S hM => ?_) | refine XQ.mp hM rfl rfl (fun S hM => ?_))
      refine XQ.v4 rfl hM.1.1 rfl (le8 rfl) (M_hold hM hv.1 hv.2) (fun r S hq => ?_)
      obtain ⟨rfl, hM⟩ := hq
      repeat (first | refine XQ.go rfl rfl ?_ | refine XQ.zeq0 rfl ?_ | refine XQ.zeq1 rfl ?_ | refine XQ.zne0 rfl ?_ | refine XQ.zne1 rfl ?_ | refine XQ.mg hM rfl rfl ?_ | refine XQ.ml hM rfl rfl (by decide) (by omega) (by simp only [mLen]; omega) ?_ | refine XQ.add rfl ⟨by omega, by omega⟩ ?_ | refine XQ.sub rfl ⟨by omega, by omega⟩ ?_ | refine XQ.mul rfl ⟨by omega, by omega⟩ ?_ | refine XQ.inc rfl rfl rfl ⟨by omega, by omega⟩ ?_ | refine XQ.ms hM rfl rfl (by decide) (by omega) (by simp only [mLen]; omega) (fun S hM => ?_) | refine XQ.mp hM rfl rfl (fun S hM => ?_))
      refine XQ.ret rfl rfl ?_
      rw [good (by omega), if_pos q2]
      exact ⟨rfl, hM⟩
    · repeat (first | refine XQ.go rfl rfl ?_ | refine XQ.zeq0 rfl ?_ | refine XQ.zeq1 rfl ?_ | refine XQ.zne0 rfl ?_ | refine XQ.zne1 rfl ?_ | refine XQ.mg hM rfl rfl ?_ | refine XQ.ml hM rfl rfl (by decide) (by omega) (by simp only [mLen]; omega) ?_ | refine XQ.add rfl ⟨by omega, by omega⟩ ?_ | refine XQ.sub rfl ⟨by omega, by omega⟩ ?_ | refine XQ.mul rfl ⟨by omega, by omega⟩ ?_ | refine XQ.inc rfl rfl rfl ⟨by omega, by omega⟩ ?_ | refine XQ.ms hM rfl rfl (by decide) (by omega) (by simp only [mLen]; omega) (fun S hM => ?_) | refine XQ.mp hM rfl rfl (fun S hM => ?_))
      refine XQ.s1 rfl rfl (le8 rfl) (M_isVar (v := w)) (fun r S' hq => ?_)
      obtain ⟨rfl, ⟨rfl, hw⟩ | ⟨rfl, hw⟩⟩ := hq
      · repeat (first | refine XQ.go rfl rfl ?_ | refine XQ.zeq0 rfl ?_ | refine XQ.zeq1 rfl ?_ | refine XQ.zne0 rfl ?_ | refine XQ.zne1 rfl ?_ | refine XQ.mg hM rfl rfl ?_ | refine XQ.ml hM rfl rfl (by decide) (by omega) (by simp only [mLen]; omega) ?_ | refine XQ.add rfl ⟨by omega, by omega⟩ ?_ | refine XQ.sub rfl ⟨by omega, by omega⟩ ?_ | refine XQ.mul rfl ⟨by omega, by omega⟩ ?_ | refine XQ.inc rfl rfl rfl ⟨by omega, by omega⟩ ?_ | refine XQ.ms hM rfl rfl (by decide) (by omega) (by simp only [mLen]; omega) (fun S hM => ?_) | refine XQ.mp hM rfl rfl (fun S hM => ?_))
        refine XQ.zge rfl (fun q2 => ?_) (fun q2 => by omega)
        repeat (first | refine XQ.go rfl rfl ?_ | refine XQ.zeq0 rfl ?_ | refine XQ.zeq1 rfl ?_ | refine XQ.zne0 rfl ?_ | refine XQ.zne1 rfl ?_ | refine XQ.mg hM rfl rfl ?_ | refine XQ.ml hM rfl rfl (by decide) (by omega) (by simp only [mLen]; omega) ?_ | refine XQ.add rfl ⟨by omega, by omega⟩ ?_ | refine XQ.sub rfl ⟨by omega, by omega⟩ ?_ | refine XQ.mul rfl ⟨by omega, by omega⟩ ?_ | refine XQ.inc rfl rfl rfl ⟨by omega, by omega⟩ ?_ | refine XQ.ms hM rfl rfl (by decide) (by omega) (by simp only [mLen]; omega) (fun S hM => ?_) | refine XQ.mp hM rfl rfl (fun S hM => ?_))
        refine XQ.v4 rfl hM.1.1 rfl (le8 rfl) (M_hold hM hv.1 hv.2) (fun r S hq => ?_)
        obtain ⟨rfl, hM⟩ := hq
        repeat (first | refine XQ.go rfl rfl ?_ | refine XQ.zeq0 rfl ?_ | refine XQ.zeq1 rfl ?_ | refine XQ.zne0 rfl ?_ | refine XQ.zne1 rfl ?_ | refine XQ.mg hM rfl rfl ?_ | refine XQ.ml hM rfl rfl (by decide) (by omega) (by simp only [mLen]; omega) ?_ | refine XQ.add rfl ⟨by omega, by omega⟩ ?_ | refine XQ.sub rfl ⟨by omega, by omega⟩ ?_ | refine XQ.mul rfl ⟨by omega, by omega⟩ ?_ | refine XQ.inc rfl rfl rfl ⟨by omega, by omega⟩ ?_ | refine XQ.ms hM rfl rfl (by decide) (by omega) (by simp only [mLen]; omega) (fun S hM => ?_) | refine XQ.mp hM rfl rfl (fun S hM => ?_))
        refine XQ.ret rfl rfl ?_
        rw [good (by omega), if_neg (by omega)]
        exact ⟨rfl, hM⟩
      · repeat (first | refine XQ.go rfl rfl ?_ | refine XQ.zeq0 rfl ?_ | refine XQ.zeq1 rfl ?_ | refine XQ.zne0 rfl ?_ | refine XQ.zne1 rfl ?_ | refine XQ.mg hM rfl rfl ?_ | refine XQ.ml hM rfl rfl (by decide) (by omega) (by simp only [mLen]; omega) ?_ | refine XQ.add rfl ⟨by omega, by omega⟩ ?_ | refine XQ.sub rfl ⟨by omega, by omega⟩ ?_ | refine XQ.mul rfl ⟨by omega, by omega⟩ ?_ | refine XQ.inc rfl rfl rfl ⟨by omega, by omega⟩ ?_ | refine XQ.ms hM rfl rfl (by decide) (by omega) (by simp only [mLen]; omega) (fun S hM => ?_) | refine XQ.mp hM rfl rfl (fun S hM => ?_))
        refine XQ.ret rfl rfl ?_
        rw [bad (by omega)]
        exact ⟨rfl, hM⟩
  · repeat (first | refine XQ.go rfl rfl ?_ | refine XQ.zeq0 rfl ?_ | refine XQ.zeq1 rfl ?_ | refine XQ.zne0 rfl ?_ | refine XQ.zne1 rfl ?_ | refine XQ.mg hM rfl rfl ?_ | refine XQ.ml hM rfl rfl (by decide) (by omega) (by simp only [mLen]; omega) ?_ | refine XQ.add rfl ⟨by omega, by omega⟩ ?_ | refine XQ.sub rfl ⟨by omega, by omega⟩ ?_ | refine XQ.mul rfl ⟨by omega, by omega⟩ ?_ | refine XQ.inc rfl rfl rfl ⟨by omega, by omega⟩ ?_ | refine XQ.ms hM rfl rfl (by decide) (by omega) (by simp only [mLen]; omega) (fun S hM => ?_) | refine XQ.mp hM rfl rfl (fun S hM => ?_))
    refine XQ.ret rfl rfl ?_
    rw [bad (by omega)]
    exact ⟨rfl, hM⟩
theorem M_cells {o : Int} (hM : MO m S0 S M) (hB : BW M) (h0 : 0 ≤ o) (h1 : o < M 13 0) : XQ d k_M_cells 0 (mentry (mL k_M_cells) [.inr (some m), .inl o]) [] S (fun r S' => S' = S ∧ r = some (.inl (aCells M o))) := by
  have hb := hB.1
  have hm := hB.2.2.1 o h0 h1
  repeat (first | refine XQ.go rfl rfl ?_ | refine XQ.zeq0 rfl ?_ | refine XQ.zeq1 rfl ?_ | refine XQ.zne0 rfl ?_ | refine XQ.zne1 rfl ?_ | refine XQ.mg hM rfl rfl ?_ | refine XQ.ml hM rfl rfl (by decide) (by omega) (by simp only [mLen]; omega) ?_ | refine XQ.add rfl ⟨by omega, by omega⟩ ?_ | refine XQ.sub rfl ⟨by omega, by omega⟩ ?_ | refine XQ.mul rfl ⟨by omega, by omega⟩ ?_ | refine XQ.inc rfl rfl rfl ⟨by omega, by omega⟩ ?_ | refine XQ.ms hM rfl rfl (by decide) (by omega) (by simp only [mLen]; omega) (fun S hM => ?_) | refine XQ.mp hM rfl rfl (fun S hM => ?_))
  refine XQ.cne rfl (fun q => ?_) (fun q => ?_)
  · repeat (first | refine XQ.go rfl rfl ?_ | refine XQ.zeq0 rfl ?_ | refine XQ.zeq1 rfl ?_ | refine XQ.zne0 rfl ?_ | refine XQ.zne1 rfl ?_ | refine XQ.mg hM rfl rfl ?_ | refine XQ.ml hM rfl rfl (by decide) (by omega) (by simp only [mLen]; omega) ?_ | refine XQ.add rfl ⟨by omega, by omega⟩ ?_ | refine XQ.sub rfl ⟨by omega, by omega⟩ ?_ | refine XQ.mul rfl ⟨by omega, by omega⟩ ?_ | refine XQ.inc rfl rfl rfl ⟨by omega, by omega⟩ ?_ | refine XQ.ms hM rfl rfl (by decide) (by omega) (by simp only [mLen]; omega) (fun S hM => ?_) | refine XQ.mp hM rfl rfl (fun S hM => ?_))
    refine XQ.cne rfl (fun q2 => ?_) (fun q2 => ?_)
    · repeat (first | refine XQ.go rfl rfl ?_ | refine XQ.zeq0 rfl ?_ | refine XQ.zeq1 rfl ?_ | refine XQ.zne0 rfl ?_ | refine XQ.zne1 rfl ?_ | refine XQ.mg hM rfl rfl ?_ | refine XQ.ml hM rfl rfl (by decide) (by omega) (by simp only [mLen]; omega) ?_ | refine XQ.add rfl ⟨by omega, by omega⟩ ?_ | refine XQ.sub rfl ⟨by omega, by omega⟩ ?_ | refine XQ.mul rfl ⟨by omega, by omega⟩ ?_ | refine XQ.inc rfl rfl rfl ⟨by omega, by omega⟩ ?_ | refine XQ.ms hM rfl rfl (by decide) (by omega) (by simp only [mLen]; omega) (fun S hM => ?_) | refine XQ.mp hM rfl rfl (fun S hM => ?_))
      refine XQ.ret rfl rfl ⟨rfl, ?_⟩
      unfold aCells
      rw [if_neg q, if_neg q2]
    · repeat (first | refine XQ.go rfl rfl ?_ | refine XQ.zeq0 rfl ?_ | refine XQ.zeq1 rfl ?_ | refine XQ.zne0 rfl ?_ | refine XQ.zne1 rfl ?_ | refine XQ.mg hM rfl rfl ?_ | refine XQ.ml hM rfl rfl (by decide) (by omega) (by simp only [mLen]; omega) ?_ | refine XQ.add rfl ⟨by omega, by omega⟩ ?_ | refine XQ.sub rfl ⟨by omega, by omega⟩ ?_ | refine XQ.mul rfl ⟨by omega, by omega⟩ ?_ | refine XQ.inc rfl rfl rfl ⟨by omega, by omega⟩ ?_ | refine XQ.ms hM rfl rfl (by decide) (by omega) (by simp only [mLen]; omega) (fun S hM => ?_) | refine XQ.mp hM rfl rfl (fun S hM => ?_))
      refine XQ.ret rfl rfl ⟨rfl, ?_⟩
      unfold aCells
      rw [if_neg q, if_pos q2]
  · repeat (first | refine XQ.go rfl rfl ?_ | refine XQ.zeq0 rfl ?_ | refine XQ.zeq1 rfl ?_ | refine XQ.zne0 rfl ?_ | refine XQ.zne1 rfl ?_ | refine XQ.mg hM rfl rfl ?_ | refine XQ.ml hM rfl rfl (by decide) (by omega) (by simp only [mLen]; omega) ?_ | refine XQ.add rfl ⟨by omega, by omega⟩ ?_ | refine XQ.sub rfl ⟨by omega, by omega⟩ ?_ | refine XQ.mul rfl ⟨by omega, by omega⟩ ?_ | refine XQ.inc rfl rfl rfl ⟨by omega, by omega⟩ ?_ | refine XQ.ms hM rfl rfl (by decide) (by omega) (by simp only [mLen]; omega) (fun S hM => ?_) | refine XQ.mp hM rfl rfl (fun S hM => ?_))
    refine XQ.ret rfl rfl ⟨rfl, ?_⟩
    unfold aCells
    rw [if_pos q]
theorem M_cb_l {o : Int} (hM : MO m S0 S M) (hB : BW M) (h1 : o ≤ M 13 0) : ∀ (j k : Nat), ((k + j : Nat) : Int) = o → XQ (d + 1) k_M_cellsBefore 4 [some (.inr (some m)), some (.inl o), some (.inl (aCb M k)), some (.inl (k : Int))] [] S (fun r S' => S' = S ∧ r = some (.inl (aCb M o.toNat))) := by
  have hb := hB.1
  intro j
  induction j with
  | zero =>
    intro k hk
    repeat (first | refine XQ.go rfl rfl ?_ | refine XQ.zeq0 rfl ?_ | refine XQ.zeq1 rfl ?_ | refine XQ.zne0 rfl ?_ | refine XQ.zne1 rfl ?_ | refine XQ.mg hM rfl rfl ?_ | refine XQ.ml hM rfl rfl (by decide) (by omega) (by simp only [mLen]; omega) ?_ | refine XQ.add rfl ⟨by omega, by omega⟩ ?_ | refine XQ.sub rfl ⟨by omega, by omega⟩ ?_ | refine XQ.mul rfl ⟨by omega, by omega⟩ ?_ | refine XQ.inc rfl rfl rfl ⟨by omega, by omega⟩ ?_ | refine XQ.ms hM rfl rfl (by decide) (by omega) (by simp only [mLen]; omega) (fun S hM => ?_) | refine XQ.mp hM rfl rfl (fun S hM => ?_))
    refine XQ.cge rfl (fun q => ?_) (fun q => by omega)
    repeat (first | refine XQ.go rfl rfl ?_ | refine XQ.zeq0 rfl ?_ | refine XQ.zeq1 rfl ?_ | refine XQ.zne0 rfl ?_ | refine XQ.zne1 rfl ?_ | refine XQ.mg hM rfl rfl ?_ | refine XQ.ml hM rfl rfl (by decide) (by omega) (by simp only [mLen]; omega) ?_ | refine XQ.add rfl ⟨by omega, by omega⟩ ?_ | refine XQ.sub rfl ⟨by omega, by omega⟩ ?_ | refine XQ.mul rfl ⟨by omega, by omega⟩ ?_ | refine XQ.inc rfl rfl rfl ⟨by omega, by omega⟩ ?_ | refine XQ.ms hM rfl rfl (by decide) (by omega) (by simp only [mLen]; omega) (fun S hM => ?_) | refine XQ.mp hM rfl rfl (fun S hM => ?_))
    refine XQ.ret rfl rfl ⟨rfl, ?_⟩
    rw [← hk]
    rfl
  | succ j ih =>
    intro k hk
    have ih2 := ih (k + 1) (by omega)
    have hc := hB.cells (o := (k : Int)) (by omega) (by omega)
    have hd := hB.cb k (by omega)
    repeat (first | refine XQ.go rfl rfl ?_ | refine XQ.zeq0 rfl ?_ | refine XQ.zeq1 rfl ?_ | refine XQ.zne0 rfl ?_ | refine XQ.zne1 rfl ?_ | refine XQ.mg hM rfl rfl ?_ | refine XQ.ml hM rfl rfl (by decide) (by omega) (by simp only [mLen]; omega) ?_ | refine XQ.add rfl ⟨by omega, by omega⟩ ?_ | refine XQ.sub rfl ⟨by omega, by omega⟩ ?_ | refine XQ.mul rfl ⟨by omega, by omega⟩ ?_ | refine XQ.inc rfl rfl rfl ⟨by omega, by omega⟩ ?_ | refine XQ.ms hM rfl rfl (by decide) (by omega) (by simp only [mLen]; omega) (fun S hM => ?_) | refine XQ.mp hM rfl rfl (fun S hM => ?_))
    refine XQ.cge rfl (fun q => by omega) (fun q => ?_)
    repeat (first | refine XQ.go rfl rfl ?_ | refine XQ.zeq0 rfl ?_ | refine XQ.zeq1 rfl ?_ | refine XQ.zne0 rfl ?_ | refine XQ.zne1 rfl ?_ | refine XQ.mg hM rfl rfl ?_ | refine XQ.ml hM rfl rfl (by decide) (by omega) (by simp only [mLen]; omega) ?_ | refine XQ.add rfl ⟨by omega, by omega⟩ ?_ | refine XQ.sub rfl ⟨by omega, by omega⟩ ?_ | refine XQ.mul rfl ⟨by omega, by omega⟩ ?_ | refine XQ.inc rfl rfl rfl ⟨by omega, by omega⟩ ?_ | refine XQ.ms hM rfl rfl (by decide) (by omega) (by simp only [mLen]; omega) (fun S hM => ?_) | refine XQ.mp hM rfl rfl (fun S hM => ?_))
    refine XQ.v2 rfl hM.1.1 rfl (le8 rfl) (M_cells hM hB (by omega) (by omega)) (fun r S' hq => ?_)
    obtain ⟨rfl, rfl⟩ := hq
    repeat (first | exact ih2 | refine XQ.go rfl rfl ?_ | refine XQ.zeq0 rfl ?_ | refine XQ.zeq1 rfl ?_ | refine XQ.zne0 rfl ?_ | refine XQ.zne1 rfl ?_ | refine XQ.mg hM rfl rfl ?_ | refine XQ.ml hM rfl rfl (by decide) (by omega) (by simp only [mLen]; omega) ?_ | refine XQ.add rfl ⟨by omega, by omega⟩ ?_ | refine XQ.sub rfl ⟨by omega, by omega⟩ ?_ | refine XQ.mul rfl ⟨by omega, by omega⟩ ?_ | refine XQ.inc rfl rfl rfl ⟨by omega, by omega⟩ ?_ | refine XQ.ms hM rfl rfl (by decide) (by omega) (by simp only [mLen]; omega) (fun S hM => ?_) | refine XQ.mp hM rfl rfl (fun S hM => ?_))
theorem M_cellsBefore {o : Int} (hM : MO m S0 S M) (hB : BW M) (h0 : 0 ≤ o) (h1 : o ≤ M 13 0) : XQ (d + 1) k_M_cellsBefore 0 (mentry (mL k_M_cellsBefore) [.inr (some m), .inl o]) [] S (fun r S' => S' = S ∧ r = some (.inl (aCb M o.toNat))) := by
  have h9 := M_cb_l (d := d) hM hB h1 o.toNat 0 (by omega)
  repeat (first | exact h9 | refine XQ.go rfl rfl ?_ | refine XQ.zeq0 rfl ?_ | refine XQ.zeq1 rfl ?_ | refine XQ.zne0 rfl ?_ | refine XQ.zne1 rfl ?_ | refine XQ.mg hM rfl rfl ?_ | refine XQ.ml hM rfl rfl (by decide) (by omega) (by simp only [mLen]; omega) ?_ | refine XQ.add rfl ⟨by omega, by omega⟩ ?_ | refine XQ.sub rfl ⟨by omega, by omega⟩ ?_ | refine XQ.mul rfl ⟨by omega, by omega⟩ ?_ | refine XQ.inc rfl rfl rfl ⟨by omega, by omega⟩ ?_ | refine XQ.ms hM rfl rfl (by decide) (by omega) (by simp only [mLen]; omega) (fun S hM => ?_) | refine XQ.mp hM rfl rfl (fun S hM => ?_))
end M1
end
section
/-! the reference's methods, walked: marking -/
/-- nothing but marks differs -/
def offM (M M' : MM) : Prop := ∀ j i, j ≠ 8 → M' j i = M j i
theorem offM.rf {M : MM} : offM M M := fun _ _ _ => rfl
theorem offM.tr {M M1 M2 : MM} (h : offM M M1) (h2 : offM M1 M2) : offM M M2 := fun j i hj => (h2 j i hj).trans (h j i hj)
theorem offM.u {M M1 : MM} (h : offM M M1) (i v : Int) : offM M (u2 M1 8 i v) := fun j i' hj => (u2_n M1 v (Or.inl hj)).trans (h j i' hj)
theorem BW.off {M M' : MM} (h : BW M) (ho : offM M M') : BW M' := by
  obtain ⟨h1, h2, h3, h4⟩ := h
  unfold BW
  rw [ho 13 0 (by decide), ho 13 1 (by decide), ho 13 2 (by decide), ho 13 3 (by decide), ho 13 4 (by decide)]
  refine ⟨h1, h2, fun o a b => ?_, h4⟩
  rw [ho 4 o (by decide), ho 3 o (by decide)]
  exact h3 o a b
theorem aAdd_off (M : MM) (h : Int) : offM M (aAdd M h).2 := by
  unfold aAdd
  split
  · exact offM.rf
  · exact offM.rf.u _ _
theorem atR_off {M M' : MM} (ho : offM M M') (h : Int) : ∀ n, atR M' h n = atR M h n
  | 0 => rfl
  | n + 1 => by
    unfold atR
    rw [ho 2 _ (by decide), atR_off ho h n]
theorem aAt_off {M M' : MM} (ho : offM M M') (h : Int) : aAt M' h = aAt M h := by
  unfold aAt
  rw [ho 13 0 (by decide), atR_off ho]
theorem lp_off {f : Nat → MM → MM} {M : MM} (hf : ∀ i M, offM M (f i M)) (n : Nat) : offM M (lp f n M) := lp_inv (fun _ M' => offM M M') offM.rf n (fun i x _ hx => hx.tr (hf i x))
section M2
variable {d m : Nat} {S0 S : MS} {M : MM}
theorem M_isMarked {h : Int} (hM : MO m S0 S M) (hB : BN M) : XQ (d + 1) k_M_isMarked 0 (mentry (mL k_M_isMarked) [.inr (some m), .inl h]) [] S (fun r S' => S' = S ∧ r = some (.inl (bI (aIsM M h)))) := by
  have hb := hB
  unfold BN at hb
  have hi := aAt_in hB h
  repeat (first | refine XQ.go rfl rfl ?_ | refine XQ.zeq0 rfl ?_ | refine XQ.zeq1 rfl ?_ | refine XQ.zne0 rfl ?_ | refine XQ.zne1 rfl ?_ | refine XQ.mg hM rfl rfl ?_ | refine XQ.ml hM rfl rfl (by decide) (by omega) (by simp only [mLen]; omega) ?_ | refine XQ.add rfl ⟨by omega, by omega⟩ ?_ | refine XQ.sub rfl ⟨by omega, by omega⟩ ?_ | refine XQ.mul rfl ⟨by omega, by omega⟩ ?_ | refine XQ.inc rfl rfl rfl ⟨by omega, by omega⟩ ?_ | refine XQ.ms hM rfl rfl (by decide) (by omega) (by simp only [mLen]; omega) (fun S hM => ?_) | refine XQ.mp hM rfl rfl (fun S hM => ?_))
  refine XQ.v2 rfl hM.1.1 rfl (le8 rfl) (M_at hM hB) (fun r S' hq => ?_)
  obtain ⟨rfl, rfl⟩ := hq
  repeat (first | refine XQ.go rfl rfl ?_ | refine XQ.zeq0 rfl ?_ | refine XQ.zeq1 rfl ?_ | refine XQ.zne0 rfl ?_ | refine XQ.zne1 rfl ?_ | refine XQ.mg hM rfl rfl ?_ | refine XQ.ml hM rfl rfl (by decide) (by omega) (by simp only [mLen]; omega) ?_ | refine XQ.add rfl ⟨by omega, by omega⟩ ?_ | refine XQ.sub rfl ⟨by omega, by omega⟩ ?_ | refine XQ.mul rfl ⟨by omega, by omega⟩ ?_ | refine XQ.inc rfl rfl rfl ⟨by omega, by omega⟩ ?_ | refine XQ.ms hM rfl rfl (by decide) (by omega) (by simp only [mLen]; omega) (fun S hM => ?_) | refine XQ.mp hM rfl rfl (fun S hM => ?_))
  refine XQ.zlt rfl (fun q => ?_) (fun q => ?_)
  · have e : aIsM M h = false := by unfold aIsM; exact decide_eq_false (fun z => by omega)
    rw [e]
    repeat (first | refine XQ.go rfl rfl ?_ | refine XQ.zeq0 rfl ?_ | refine XQ.zeq1 rfl ?_ | refine XQ.zne0 rfl ?_ | refine XQ.zne1 rfl ?_ | refine XQ.mg hM rfl rfl ?_ | refine XQ.ml hM rfl rfl (by decide) (by omega) (by simp only [mLen]; omega) ?_ | refine XQ.add rfl ⟨by omega, by omega⟩ ?_ | refine XQ.sub rfl ⟨by omega, by omega⟩ ?_ | refine XQ.mul rfl ⟨by omega, by omega⟩ ?_ | refine XQ.inc rfl rfl rfl ⟨by omega, by omega⟩ ?_ | refine XQ.ms hM rfl rfl (by decide) (by omega) (by simp only [mLen]; omega) (fun S hM => ?_) | refine XQ.mp hM rfl rfl (fun S hM => ?_))
    exact XQ.ret rfl rfl ⟨rfl, rfl⟩
  · repeat (first | refine XQ.go rfl rfl ?_ | refine XQ.zeq0 rfl ?_ | refine XQ.zeq1 rfl ?_ | refine XQ.zne0 rfl ?_ | refine XQ.zne1 rfl ?_ | refine XQ.mg hM rfl rfl ?_ | refine XQ.ml hM rfl rfl (by decide) (by omega) (by simp only [mLen]; omega) ?_ | refine XQ.add rfl ⟨by omega, by omega⟩ ?_ | refine XQ.sub rfl ⟨by omega, by omega⟩ ?_ | refine XQ.mul rfl ⟨by omega, by omega⟩ ?_ | refine XQ.inc rfl rfl rfl ⟨by omega, by omega⟩ ?_ | refine XQ.ms hM rfl rfl (by decide) (by omega) (by simp only [mLen]; omega) (fun S hM => ?_) | refine XQ.mp hM rfl rfl (fun S hM => ?_))
    refine XQ.zeq rfl (fun q2 => ?_) (fun q2 => ?_)
    · have e : aIsM M h = false := by unfold aIsM; exact decide_eq_false (fun z => z.2 q2)
      rw [e]
      repeat (first | refine XQ.go rfl rfl ?_ | refine XQ.zeq0 rfl ?_ | refine XQ.zeq1 rfl ?_ | refine XQ.zne0 rfl ?_ | refine XQ.zne1 rfl ?_ | refine XQ.mg hM rfl rfl ?_ | refine XQ.ml hM rfl rfl (by decide) (by omega) (by simp only [mLen]; omega) ?_ | refine XQ.add rfl ⟨by omega, by omega⟩ ?_ | refine XQ.sub rfl ⟨by omega, by omega⟩ ?_ | refine XQ.mul rfl ⟨by omega, by omega⟩ ?_ | refine XQ.inc rfl rfl rfl ⟨by omega, by omega⟩ ?_ | refine XQ.ms hM rfl rfl (by decide) (by omega) (by simp only [mLen]; omega) (fun S hM => ?_) | refine XQ.mp hM rfl rfl (fun S hM => ?_))
      exact XQ.ret rfl rfl ⟨rfl, rfl⟩
    · have e : aIsM M h = true := by unfold aIsM; exact decide_eq_true ⟨q, q2⟩
      rw [e]
      repeat (first | refine XQ.go rfl rfl ?_ | refine XQ.zeq0 rfl ?_ | refine XQ.zeq1 rfl ?_ | refine XQ.zne0 rfl ?_ | refine XQ.zne1 rfl ?_ | refine XQ.mg hM rfl rfl ?_ | refine XQ.ml hM rfl rfl (by decide) (by omega) (by simp only [mLen]; omega) ?_ | refine XQ.add rfl ⟨by omega, by omega⟩ ?_ | refine XQ.sub rfl ⟨by omega, by omega⟩ ?_ | refine XQ.mul rfl ⟨by omega, by omega⟩ ?_ | refine XQ.inc rfl rfl rfl ⟨by omega, by omega⟩ ?_ | refine XQ.ms hM rfl rfl (by decide) (by omega) (by simp only [mLen]; omega) (fun S hM => ?_) | refine XQ.mp hM rfl rfl (fun S hM => ?_))
      exact XQ.ret rfl rfl ⟨rfl, rfl⟩
theorem M_add {h : Int} (hM : MO m S0 S M) (hB : BN M) : XQ (d + 1) k_M_add 0 (mentry (mL k_M_add) [.inr (some m), .inl h]) [] S (fun r S' => r = some (.inl (bI (aAdd M h).1)) ∧ MO m S0 S' (aAdd M h).2) := by
  have hb := hB
  unfold BN at hb
  have hi := aAt_in hB h
  repeat (first | refine XQ.go rfl rfl ?_ | refine XQ.zeq0 rfl ?_ | refine XQ.zeq1 rfl ?_ | refine XQ.zne0 rfl ?_ | refine XQ.zne1 rfl ?_ | refine XQ.mg hM rfl rfl ?_ | refine XQ.ml hM rfl rfl (by decide) (by omega) (by simp only [mLen]; omega) ?_ | refine XQ.add rfl ⟨by omega, by omega⟩ ?_ | refine XQ.sub rfl ⟨by omega, by omega⟩ ?_ | refine XQ.mul rfl ⟨by omega, by omega⟩ ?_ | refine XQ.inc rfl rfl rfl ⟨by omega, by omega⟩ ?_ | refine XQ.ms hM rfl rfl (by decide) (by omega) (by simp only [mLen]; omega) (fun S hM => ?_) | refine XQ.mp hM rfl rfl (fun S hM => ?_))
  refine XQ.v2 rfl hM.1.1 rfl (le8 rfl) (M_at hM hB) (fun r S' hq => ?_)
  obtain ⟨rfl, rfl⟩ := hq
  repeat (first | refine XQ.go rfl rfl ?_ | refine XQ.zeq0 rfl ?_ | refine XQ.zeq1 rfl ?_ | refine XQ.zne0 rfl ?_ | refine XQ.zne1 rfl ?_ | refine XQ.mg hM rfl rfl ?_ | refine XQ.ml hM rfl rfl (by decide) (by omega) (by simp only [mLen]; omega) ?_ | refine XQ.add rfl ⟨by omega, by omega⟩ ?_ | refine XQ.sub rfl ⟨by omega, by omega⟩ ?_ | refine XQ.mul rfl ⟨by omega, by omega⟩ ?_ | refine XQ.inc rfl rfl rfl ⟨by omega, by omega⟩ ?_ | refine XQ.ms hM rfl rfl (by decide) (by omega) (by simp only [mLen]; omega) (fun S hM => ?_) | refine XQ.mp hM rfl rfl (fun S hM => ?_))
  refine XQ.zlt rfl (fun q => ?_) (fun q => ?_)
  · have e : aAdd M h = (false, M) := by unfold aAdd; rw [if_pos (Or.inl q)]
    rw [e]
    repeat (first | refine XQ.go rfl rfl ?_ | refine XQ.zeq0 rfl ?_ | refine XQ.zeq1 rfl ?_ | refine XQ.zne0 rfl ?_ | refine XQ.zne1 rfl ?_ | refine XQ.mg hM rfl rfl ?_ | refine XQ.ml hM rfl rfl (by decide) (by omega) (by simp only [mLen]; omega) ?_ | refine XQ.add rfl ⟨by omega, by omega⟩ ?_ | refine XQ.sub rfl ⟨by omega, by omega⟩ ?_ | refine XQ.mul rfl ⟨by omega, by omega⟩ ?_ | refine XQ.inc rfl rfl rfl ⟨by omega, by omega⟩ ?_ | refine XQ.ms hM rfl rfl (by decide) (by omega) (by simp only [mLen]; omega) (fun S hM => ?_) | refine XQ.mp hM rfl rfl (fun S hM => ?_))
    exact XQ.ret rfl rfl ⟨rfl, hM⟩
  · repeat (first | refine XQ.go rfl rfl ?_ | refine XQ.zeq0 rfl ?_ | refine XQ.zeq1 rfl ?_ | refine XQ.zne0 rfl ?_ | refine XQ.zne1 rfl ?_ | refine XQ.mg hM rfl rfl ?_ | refine XQ.ml hM rfl rfl (by decide) (by omega) (by simp only [mLen]; omega) ?_ | refine XQ.add rfl ⟨by omega, by omega⟩ ?_ | refine XQ.sub rfl ⟨by omega, by omega⟩ ?_ | refine XQ.mul rfl ⟨by omega, by omega⟩ ?_ | refine XQ.inc rfl rfl rfl ⟨by omega, by omega⟩ ?_ | refine XQ.ms hM rfl rfl (by decide) (by omega) (by simp only [mLen]; omega) (fun S hM => ?_) | refine XQ.mp hM rfl rfl (fun S hM => ?_))
    refine XQ.zeq rfl (fun q2 => ?_) (fun q2 => ?_)
    · have e : aAdd M h = (true, u2 M 8 (aAt M h) 1) := by unfold aAdd; rw [if_neg (fun z => by omega)]
      rw [e]
      repeat (first | refine XQ.go rfl rfl ?_ | refine XQ.zeq0 rfl ?_ | refine XQ.zeq1 rfl ?_ | refine XQ.zne0 rfl ?_ | refine XQ.zne1 rfl ?_ | refine XQ.mg hM rfl rfl ?_ | refine XQ.ml hM rfl rfl (by decide) (by omega) (by simp only [mLen]; omega) ?_ | refine XQ.add rfl ⟨by omega, by omega⟩ ?_ | refine XQ.sub rfl ⟨by omega, by omega⟩ ?_ | refine XQ.mul rfl ⟨by omega, by omega⟩ ?_ | refine XQ.inc rfl rfl rfl ⟨by omega, by omega⟩ ?_ | refine XQ.ms hM rfl rfl (by decide) (by omega) (by simp only [mLen]; omega) (fun S hM => ?_) | refine XQ.mp hM rfl rfl (fun S hM => ?_))
      refine XQ.mz hM rfl (Or.inr rfl) (by omega) (by omega) (fun S hM => ?_)
      repeat (first | refine XQ.go rfl rfl ?_ | refine XQ.zeq0 rfl ?_ | refine XQ.zeq1 rfl ?_ | refine XQ.zne0 rfl ?_ | refine XQ.zne1 rfl ?_ | refine XQ.mg hM rfl rfl ?_ | refine XQ.ml hM rfl rfl (by decide) (by omega) (by simp only [mLen]; omega) ?_ | refine XQ.add rfl ⟨by omega, by omega⟩ ?_ | refine XQ.sub rfl ⟨by omega, by omega⟩ ?_ | refine XQ.mul rfl ⟨by omega, by omega⟩ ?_ | refine XQ.inc rfl rfl rfl ⟨by omega, by omega⟩ ?_ | refine XQ.ms hM rfl rfl (by decide) (by omega) (by simp only [mLen]; omega) (fun S hM => ?_) | refine XQ.mp hM rfl rfl (fun S hM => ?_))
      exact XQ.ret rfl rfl ⟨rfl, hM⟩
    · have e : aAdd M h = (false, M) := by unfold aAdd; rw [if_pos (Or.inr q2)]
      rw [e]
      repeat (first | refine XQ.go rfl rfl ?_ | refine XQ.zeq0 rfl ?_ | refine XQ.zeq1 rfl ?_ | refine XQ.zne0 rfl ?_ | refine XQ.zne1 rfl ?_ | refine XQ.mg hM rfl rfl ?_ | refine XQ.ml hM rfl rfl (by decide) (by omega) (by simp only [mLen]; omega) ?_ | refine XQ.add rfl ⟨by omega, by omega⟩ ?_ | refine XQ.sub rfl ⟨by omega, by omega⟩ ?_ | refine XQ.mul rfl ⟨by omega, by omega⟩ ?_ | refine XQ.inc rfl rfl rfl ⟨by omega, by omega⟩ ?_ | refine XQ.ms hM rfl rfl (by decide) (by omega) (by simp only [mLen]; omega) (fun S hM => ?_) | refine XQ.mp hM rfl rfl (fun S hM => ?_))
      exact XQ.ret rfl rfl ⟨rfl, hM⟩
theorem M_aw_l (hB : BW M) : ∀ (j k : Nat) (S : MS), ((k + j : Nat) : Int) = M 13 3 → MO m S0 S (lp (fun k M => (aAdd M (M 11 (k : Int))).2) k M) → XQ (d + 2) k_M_addWaiting 2 [some (.inr (some m)), some (.inl (k : Int))] [] S (fun r S' => r = none ∧ MO m S0 S' (aWaits M)) := by
  intro j
  induction j with
  | zero =>
    intro k S hk hM
    have e : aWaits M = lp (fun k M => (aAdd M (M 11 (k : Int))).2) k M := by unfold aWaits; rw [← hk]; rfl
    have ho : offM M (lp (fun k M => (aAdd M (M 11 (k : Int))).2) k M) := lp_off (fun i M => aAdd_off M _) k
    have e3 := ho 13 3 (by decide)
    rw [e]
    repeat (first | refine XQ.go rfl rfl ?_ | refine XQ.zeq0 rfl ?_ | refine XQ.zeq1 rfl ?_ | refine XQ.zne0 rfl ?_ | refine XQ.zne1 rfl ?_ | refine XQ.mg hM rfl rfl ?_ | refine XQ.ml hM rfl rfl (by decide) (by omega) (by simp only [mLen]; omega) ?_ | refine XQ.add rfl ⟨by omega, by omega⟩ ?_ | refine XQ.sub rfl ⟨by omega, by omega⟩ ?_ | refine XQ.mul rfl ⟨by omega, by omega⟩ ?_ | refine XQ.inc rfl rfl rfl ⟨by omega, by omega⟩ ?_ | refine XQ.ms hM rfl rfl (by decide) (by omega) (by simp only [mLen]; omega) (fun S hM => ?_) | refine XQ.mp hM rfl rfl (fun S hM => ?_))
    refine XQ.cge rfl (fun q => ?_) (fun q => by omega)
    exact XQ.ret rfl rfl ⟨rfl, hM⟩
  | succ j ih =>
    intro k S hk hM
    have ho : offM M (lp (fun k M => (aAdd M (M 11 (k : Int))).2) k M) := lp_off (fun i M => aAdd_off M _) k
    have e3 := ho 13 3 (by decide)
    have hb := hB.2.1
    repeat (first | refine XQ.go rfl rfl ?_ | refine XQ.zeq0 rfl ?_ | refine XQ.zeq1 rfl ?_ | refine XQ.zne0 rfl ?_ | refine XQ.zne1 rfl ?_ | refine XQ.mg hM rfl rfl ?_ | refine XQ.ml hM rfl rfl (by decide) (by omega) (by simp only [mLen]; omega) ?_ | refine XQ.add rfl ⟨by omega, by omega⟩ ?_ | refine XQ.sub rfl ⟨by omega, by omega⟩ ?_ | refine XQ.mul rfl ⟨by omega, by omega⟩ ?_ | refine XQ.inc rfl rfl rfl ⟨by omega, by omega⟩ ?_ | refine XQ.ms hM rfl rfl (by decide) (by omega) (by simp only [mLen]; omega) (fun S hM => ?_) | refine XQ.mp hM rfl rfl (fun S hM => ?_))
    refine XQ.cge rfl (fun q => by omega) (fun q => ?_)
    repeat (first | refine XQ.go rfl rfl ?_ | refine XQ.zeq0 rfl ?_ | refine XQ.zeq1 rfl ?_ | refine XQ.zne0 rfl ?_ | refine XQ.zne1 rfl ?_ | refine XQ.mg hM rfl rfl ?_ | refine XQ.ml hM rfl rfl (by decide) (by omega) (by simp only [mLen]; omega) ?_ | refine XQ.add rfl ⟨by omega, by omega⟩ ?_ | refine XQ.sub rfl ⟨by omega, by omega⟩ ?_ | refine XQ.mul rfl ⟨by omega, by omega⟩ ?_ | refine XQ.inc rfl rfl rfl ⟨by omega, by omega⟩ ?_ | refine XQ.ms hM rfl rfl (by decide) (by omega) (by simp only [mLen]; omega) (fun S hM => ?_) | refine XQ.mp hM rfl rfl (fun S hM => ?_))
    refine XQ.v2 rfl hM.1.1 rfl (le8 rfl) (M_add hM (hB.off ho).1) (fun r S hq => ?_)
    obtain ⟨rfl, hM⟩ := hq
    have ih2 := ih (k + 1) S (by omega) hM
    repeat (first | exact ih2 | refine XQ.go rfl rfl ?_ | refine XQ.zeq0 rfl ?_ | refine XQ.zeq1 rfl ?_ | refine XQ.zne0 rfl ?_ | refine XQ.zne1 rfl ?_ | refine XQ.mg hM rfl rfl ?_ | refine XQ.ml hM rfl rfl (by decide) (by omega) (by simp only [mLen]; omega) ?_ | refine XQ.add rfl ⟨by omega, by omega⟩ ?_ | refine XQ.sub rfl ⟨by omega, by omega⟩ ?_ | refine XQ.mul rfl ⟨by omega, by omega⟩ ?_ | refine XQ.inc rfl rfl rfl ⟨by omega, by omega⟩ ?_ | refine XQ.ms hM rfl rfl (by decide) (by omega) (by simp only [mLen]; omega) (fun S hM => ?_) | refine XQ.mp hM rfl rfl (fun S hM => ?_))
theorem M_addWaiting (hM : MO m S0 S M) (hB : BW M) : XQ (d + 2) k_M_addWaiting 0 (mentry (mL k_M_addWaiting) [.inr (some m)]) [] S (fun r S' => r = none ∧ MO m S0 S' (aWaits M)) := by
  have h0 := M_aw_l (d := d) hB (M 13 3).toNat 0 S (by have := hB.2.1; omega) hM
  repeat (first | exact h0 | refine XQ.go rfl rfl ?_ | refine XQ.zeq0 rfl ?_ | refine XQ.zeq1 rfl ?_ | refine XQ.zne0 rfl ?_ | refine XQ.zne1 rfl ?_ | refine XQ.mg hM rfl rfl ?_ | refine XQ.ml hM rfl rfl (by decide) (by omega) (by simp only [mLen]; omega) ?_ | refine XQ.add rfl ⟨by omega, by omega⟩ ?_ | refine XQ.sub rfl ⟨by omega, by omega⟩ ?_ | refine XQ.mul rfl ⟨by omega, by omega⟩ ?_ | refine XQ.inc rfl rfl rfl ⟨by omega, by omega⟩ ?_ | refine XQ.ms hM rfl rfl (by decide) (by omega) (by simp only [mLen]; omega) (fun S hM => ?_) | refine XQ.mp hM rfl rfl (fun S hM => ?_))
theorem aWaits_off (M : MM) : offM M (aWaits M) := lp_off (fun i M => aAdd_off M _) _
theorem aVr_off (v : Nat) (M : MM) : offM M (aVr v M) := by
  unfold aVr
  split
  · exact aAdd_off M _
  · exact offM.rf
theorem aVars_off (M : MM) : offM M (aVars M) := lp_off (fun i M => aVr_off i M) 6
theorem M_ar_l (hB : BW M) : ∀ (j k : Nat) (S : MS), k + j = 6 → MO m S0 S (lp aVr k M) → XQ (d + 3) k_M_addRoots 2 [some (.inr (some m)), some (.inl (k : Int))] [] S (fun r S' => r = none ∧ MO m S0 S' (aRoots M)) := by
  intro j
  induction j with
  | zero =>
    intro k S hk hM
    have hk6 : k = 6 := by omega
    subst hk6
    have ho : offM M (lp aVr 6 M) := lp_off (fun i M => aVr_off i M) 6
    repeat (first | refine XQ.go rfl rfl ?_ | refine XQ.zeq0 rfl ?_ | refine XQ.zeq1 rfl ?_ | refine XQ.zne0 rfl ?_ | refine XQ.zne1 rfl ?_ | refine XQ.mg hM rfl rfl ?_ | refine XQ.ml hM rfl rfl (by decide) (by omega) (by simp only [mLen]; omega) ?_ | refine XQ.add rfl ⟨by omega, by omega⟩ ?_ | refine XQ.sub rfl ⟨by omega, by omega⟩ ?_ | refine XQ.mul rfl ⟨by omega, by omega⟩ ?_ | refine XQ.inc rfl rfl rfl ⟨by omega, by omega⟩ ?_ | refine XQ.ms hM rfl rfl (by decide) (by omega) (by simp only [mLen]; omega) (fun S hM => ?_) | refine XQ.mp hM rfl rfl (fun S hM => ?_))
    refine XQ.cge rfl (fun q => ?_) (fun q => by omega)
    repeat (first | refine XQ.go rfl rfl ?_ | refine XQ.zeq0 rfl ?_ | refine XQ.zeq1 rfl ?_ | refine XQ.zne0 rfl ?_ | refine XQ.zne1 rfl ?_ | refine XQ.mg hM rfl rfl ?_ | refine XQ.ml hM rfl rfl (by decide) (by omega) (by simp only [mLen]; omega) ?_ | refine XQ.add rfl ⟨by omega, by omega⟩ ?_ | refine XQ.sub rfl ⟨by omega, by omega⟩ ?_ | refine XQ.mul rfl ⟨by omega, by omega⟩ ?_ | refine XQ.inc rfl rfl rfl ⟨by omega, by omega⟩ ?_ | refine XQ.ms hM rfl rfl (by decide) (by omega) (by simp only [mLen]; omega) (fun S hM => ?_) | refine XQ.mp hM rfl rfl (fun S hM => ?_))
    refine XQ.v1 rfl hM.1.1 rfl (le8 rfl) (M_addWaiting hM (hB.off ho)) (fun r S hq => ?_)
    obtain ⟨rfl, hM⟩ := hq
    exact XQ.ret rfl rfl ⟨rfl, hM⟩
  | succ j ih =>
    intro k S hk hM
    have ho : offM M (lp aVr k M) := lp_off (fun i M => aVr_off i M) k
    repeat (first | refine XQ.go rfl rfl ?_ | refine XQ.zeq0 rfl ?_ | refine XQ.zeq1 rfl ?_ | refine XQ.zne0 rfl ?_ | refine XQ.zne1 rfl ?_ | refine XQ.mg hM rfl rfl ?_ | refine XQ.ml hM rfl rfl (by decide) (by omega) (by simp only [mLen]; omega) ?_ | refine XQ.add rfl ⟨by omega, by omega⟩ ?_ | refine XQ.sub rfl ⟨by omega, by omega⟩ ?_ | refine XQ.mul rfl ⟨by omega, by omega⟩ ?_ | refine XQ.inc rfl rfl rfl ⟨by omega, by omega⟩ ?_ | refine XQ.ms hM rfl rfl (by decide) (by omega) (by simp only [mLen]; omega) (fun S hM => ?_) | refine XQ.mp hM rfl rfl (fun S hM => ?_))
    refine XQ.cge rfl (fun q => by omega) (fun q => ?_)
    repeat (first | refine XQ.go rfl rfl ?_ | refine XQ.zeq0 rfl ?_ | refine XQ.zeq1 rfl ?_ | refine XQ.zne0 rfl ?_ | refine XQ.zne1 rfl ?_ | refine XQ.mg hM rfl rfl ?_ | refine XQ.ml hM rfl rfl (by decide) (by omega) (by simp only [mLen]; omega) ?_ | refine XQ.add rfl ⟨by omega, by omega⟩ ?_ | refine XQ.sub rfl ⟨by omega, by omega⟩ ?_ | refine XQ.mul rfl ⟨by omega, by omega⟩ ?_ | refine XQ.inc rfl rfl rfl ⟨by omega, by omega⟩ ?_ | refine XQ.ms hM rfl rfl (by decide) (by omega) (by simp only [mLen]; omega) (fun S hM => ?_) | refine XQ.mp hM rfl rfl (fun S hM => ?_))
    refine XQ.cne rfl (fun q2 => ?_) (fun q2 => ?_)
    · have e : lp aVr (k + 1) M = lp aVr k M := (if_neg q2 : aVr k (lp aVr k M) = _)
      have ih2 := ih (k + 1) S (by omega) (by rw [e]; exact hM)
      repeat (first | exact ih2 | refine XQ.go rfl rfl ?_ | refine XQ.zeq0 rfl ?_ | refine XQ.zeq1 rfl ?_ | refine XQ.zne0 rfl ?_ | refine XQ.zne1 rfl ?_ | refine XQ.mg hM rfl rfl ?_ | refine XQ.ml hM rfl rfl (by decide) (by omega) (by simp only [mLen]; omega) ?_ | refine XQ.add rfl ⟨by omega, by omega⟩ ?_ | refine XQ.sub rfl ⟨by omega, by omega⟩ ?_ | refine XQ.mul rfl ⟨by omega, by omega⟩ ?_ | refine XQ.inc rfl rfl rfl ⟨by omega, by omega⟩ ?_ | refine XQ.ms hM rfl rfl (by decide) (by omega) (by simp only [mLen]; omega) (fun S hM => ?_) | refine XQ.mp hM rfl rfl (fun S hM => ?_))
    · have e : lp aVr (k + 1) M = (aAdd (lp aVr k M) ((lp aVr k M) 1 (k : Int))).2 := (if_pos q2 : aVr k (lp aVr k M) = _)
      repeat (first | refine XQ.go rfl rfl ?_ | refine XQ.zeq0 rfl ?_ | refine XQ.zeq1 rfl ?_ | refine XQ.zne0 rfl ?_ | refine XQ.zne1 rfl ?_ | refine XQ.mg hM rfl rfl ?_ | refine XQ.ml hM rfl rfl (by decide) (by omega) (by simp only [mLen]; omega) ?_ | refine XQ.add rfl ⟨by omega, by omega⟩ ?_ | refine XQ.sub rfl ⟨by omega, by omega⟩ ?_ | refine XQ.mul rfl ⟨by omega, by omega⟩ ?_ | refine XQ.inc rfl rfl rfl ⟨by omega, by omega⟩ ?_ | refine XQ.ms hM rfl rfl (by decide) (by omega) (by simp only [mLen]; omega) (fun S hM => ?_) | refine XQ.mp hM rfl rfl (fun S hM => ?_))
      refine XQ.v2 rfl hM.1.1 rfl (le8 rfl) (M_add hM (hB.off ho).1) (fun r S hq => ?_)
      obtain ⟨rfl, hM⟩ := hq
      have ih2 := ih (k + 1) S (by omega) (by rw [e]; exact hM)
      repeat (first | exact ih2 | refine XQ.go rfl rfl ?_ | refine XQ.zeq0 rfl ?_ | refine XQ.zeq1 rfl ?_ | refine XQ.zne0 rfl ?_ | refine XQ.zne1 rfl ?_ | refine XQ.mg hM rfl rfl ?_ | refine XQ.ml hM rfl rfl (by decide) (by omega) (by simp only [mLen]; omega) ?_ | refine XQ.add rfl ⟨by omega, by omega⟩ ?_ | refine XQ.sub rfl ⟨by omega, by omega⟩ ?_ | refine XQ.mul rfl ⟨by omega, by omega⟩ ?_ | refine XQ.inc rfl rfl rfl ⟨by omega, by omega⟩ ?_ | refine XQ.ms hM rfl rfl (by decide) (by omega) (by simp only [mLen]; omega) (fun S hM => ?_) | refine XQ.mp hM rfl rfl (fun S hM => ?_))
theorem M_addRoots (hM : MO m S0 S M) (hB : BW M) : XQ (d + 3) k_M_addRoots 0 (mentry (mL k_M_addRoots) [.inr (some m)]) [] S (fun r S' => r = none ∧ MO m S0 S' (aRoots M)) := by
  have h0 := M_ar_l (d := d) hB 6 0 S rfl hM
  repeat (first | exact h0 | refine XQ.go rfl rfl ?_ | refine XQ.zeq0 rfl ?_ | refine XQ.zeq1 rfl ?_ | refine XQ.zne0 rfl ?_ | refine XQ.zne1 rfl ?_ | refine XQ.mg hM rfl rfl ?_ | refine XQ.ml hM rfl rfl (by decide) (by omega) (by simp only [mLen]; omega) ?_ | refine XQ.add rfl ⟨by omega, by omega⟩ ?_ | refine XQ.sub rfl ⟨by omega, by omega⟩ ?_ | refine XQ.mul rfl ⟨by omega, by omega⟩ ?_ | refine XQ.inc rfl rfl rfl ⟨by omega, by omega⟩ ?_ | refine XQ.ms hM rfl rfl (by decide) (by omega) (by simp only [mLen]; omega) (fun S hM => ?_) | refine XQ.mp hM rfl rfl (fun S hM => ?_))
theorem aRoots_off (M : MM) : offM M (aRoots M) := (aVars_off M).tr (aWaits_off _)
end M2
end
section
/-! the reference's methods, walked: spreading -/
theorem bI_0 {b : Bool} (h : bI b = 0) : b = false := by cases b; rfl; cases h
theorem bI_1 {b : Bool} (h : ¬ bI b = 0) : b = true := by cases b; exact absurd rfl h; rfl
theorem aSprF_off (all : Bool) (o f : Nat) (p : Bool × MM) : offM p.2 (aSprF all o f p).2 := by
  unfold aSprF
  split
  · exact aAdd_off _ _
  · exact offM.rf
theorem lp_off2 {f : Nat → Bool × MM → Bool × MM} {p : Bool × MM} (hf : ∀ i p, offM p.2 (f i p).2) (n : Nat) : offM p.2 (lp f n p).2 := lp_inv (fun _ q => offM p.2 q.2) offM.rf n (fun i x _ hx => hx.tr (hf i x))
theorem aSprO_off (all : Bool) (o : Nat) (p : Bool × MM) : offM p.2 (aSprO all o p).2 := lp_off2 (fun f p => aSprF_off all o f p) _
theorem aSpr_off (all : Bool) (M : MM) : offM M (aSpr all M).2 := lp_off2 (p := (false, M)) (fun o p => aSprO_off all o p) _
theorem aClo_off (all : Bool) : ∀ (r : Nat) (M : MM), offM M (aClo all r M)
  | 0, _ => offM.rf
  | r + 1, M => by
    unfold aClo
    split
    · exact (aSpr_off all M).tr (aClo_off all r _)
    · exact aSpr_off all M
section M3
variable {d m : Nat} {S0 S : MS} {M : MM} {Q : Option MV → MS → Prop}
set_option maxHeartbeats 1000000 in
theorem M_spr_i {all : Bool} {o : Nat} {p0 : Bool × MM} (hB : BW p0.2) (ho : (o : Int) < p0.2 13 0)
    (K : ∀ (S : MS) (x4 x5 x6 : Option MV), MO m S0 S (aSprO all o p0).2 → XQ (d + 3) k_M_spread 143 [some (.inr (some m)), some (.inl (bI all)), some (.inl (bI (aSprO all o p0).1)), some (.inl (o : Int)), x4, x5, x6] [] S Q) :
    ∀ (j f : Nat) (S : MS) (x5 x6 : Option MV), ((f + j : Nat) : Int) = p0.2 4 (o : Int) → MO m S0 S (lp (aSprF all o) f p0).2 → XQ (d + 3) k_M_spread 15 [some (.inr (some m)), some (.inl (bI all)), some (.inl (bI (lp (aSprF all o) f p0).1)), some (.inl (o : Int)), some (.inl (f : Int)), x5, x6] [] S Q := by
  have hb := hB.1
  have hm := hB.2.2.1 o (by omega) ho
  intro j
  induction j with
  | zero =>
    intro f S x5 x6 hf hM
    have e : aSprO all o p0 = lp (aSprF all o) f p0 := by unfold aSprO; rw [← hf]; rfl
    have hoff : offM p0.2 (lp (aSprF all o) f p0).2 := lp_off2 (fun f p => aSprF_off all o f p) f
    have e4 := hoff 4 (o : Int) (by decide)
    have K2 := K S (some (.inl (f : Int))) x5 x6 (by rw [e]; exact hM)
    rw [e] at K2
    repeat (first | refine XQ.go rfl rfl ?_ | refine XQ.zeq0 rfl ?_ | refine XQ.zeq1 rfl ?_ | refine XQ.zne0 rfl ?_ | refine XQ.zne1 rfl ?_ | refine XQ.mg hM rfl rfl ?_ | refine XQ.ml hM rfl rfl (by decide) (by omega) (by simp only [mLen]; omega) ?_ | refine XQ.add rfl ⟨by omega, by omega⟩ ?_ | refine XQ.sub rfl ⟨by omega, by omega⟩ ?_ | refine XQ.mul rfl ⟨by omega, by omega⟩ ?_ | refine XQ.inc rfl rfl rfl ⟨by omega, by omega⟩ ?_ | refine XQ.ms hM rfl rfl (by decide) (by omega) (by simp only [mLen]; omega) (fun S hM => ?_) | refine XQ.mp hM rfl rfl (fun S hM => ?_))
    refine XQ.cge rfl (fun q => ?_) (fun q => by omega)
    repeat (first | exact K2 | refine XQ.go rfl rfl ?_ | refine XQ.zeq0 rfl ?_ | refine XQ.zeq1 rfl ?_ | refine XQ.zne0 rfl ?_ | refine XQ.zne1 rfl ?_ | refine XQ.mg hM rfl rfl ?_ | refine XQ.ml hM rfl rfl (by decide) (by omega) (by simp only [mLen]; omega) ?_ | refine XQ.add rfl ⟨by omega, by omega⟩ ?_ | refine XQ.sub rfl ⟨by omega, by omega⟩ ?_ | refine XQ.mul rfl ⟨by omega, by omega⟩ ?_ | refine XQ.inc rfl rfl rfl ⟨by omega, by omega⟩ ?_ | refine XQ.ms hM rfl rfl (by decide) (by omega) (by simp only [mLen]; omega) (fun S hM => ?_) | refine XQ.mp hM rfl rfl (fun S hM => ?_))
  | succ j ih =>
    intro f S x5 x6 hf hM
    have hoff : offM p0.2 (lp (aSprF all o) f p0).2 := lp_off2 (fun f p => aSprF_off all o f p) f
    have e4 := hoff 4 (o : Int) (by decide)
    have en : lp (aSprF all o) (f + 1) p0 = aSprF all o f (lp (aSprF all o) f p0) := rfl
    have ih2 := fun S x5 x6 hM => ih (f + 1) S x5 x6 (by omega) hM
    rw [en] at ih2
    generalize lp (aSprF all o) f p0 = p at hM hoff e4 ih2 ⊢
    have hBp := hB.off hoff
    have k73 : ∀ x5, XQ (d + 3) k_M_spread 73 [some (.inr (some m)), some (.inl (bI all)), some (.inl (bI p.1)), some (.inl (o : Int)), some (.inl (f : Int)), x5, x6] [.inl (bI (aCnt all p.2 o f))] S Q := by
      intro x5
      repeat (first | refine XQ.go rfl rfl ?_ | refine XQ.zeq0 rfl ?_ | refine XQ.zeq1 rfl ?_ | refine XQ.zne0 rfl ?_ | refine XQ.zne1 rfl ?_ | refine XQ.mg hM rfl rfl ?_ | refine XQ.ml hM rfl rfl (by decide) (by omega) (by simp only [mLen]; omega) ?_ | refine XQ.add rfl ⟨by omega, by omega⟩ ?_ | refine XQ.sub rfl ⟨by omega, by omega⟩ ?_ | refine XQ.mul rfl ⟨by omega, by omega⟩ ?_ | refine XQ.inc rfl rfl rfl ⟨by omega, by omega⟩ ?_ | refine XQ.ms hM rfl rfl (by decide) (by omega) (by simp only [mLen]; omega) (fun S hM => ?_) | refine XQ.mp hM rfl rfl (fun S hM => ?_))
      refine XQ.zeq rfl (fun q1 => ?_) (fun q1 => ?_)
      · have e : aSprF all o f p = p := by unfold aSprF; rw [if_neg (fun z => z.1 q1)]
        have ih3 := ih2 S (some (.inl (bI (aCnt all p.2 o f)))) x6 (by rw [e]; exact hM)
        rw [e] at ih3
        repeat (first | exact ih3 | refine XQ.go rfl rfl ?_ | refine XQ.zeq0 rfl ?_ | refine XQ.zeq1 rfl ?_ | refine XQ.zne0 rfl ?_ | refine XQ.zne1 rfl ?_ | refine XQ.mg hM rfl rfl ?_ | refine XQ.ml hM rfl rfl (by decide) (by omega) (by simp only [mLen]; omega) ?_ | refine XQ.add rfl ⟨by omega, by omega⟩ ?_ | refine XQ.sub rfl ⟨by omega, by omega⟩ ?_ | refine XQ.mul rfl ⟨by omega, by omega⟩ ?_ | refine XQ.inc rfl rfl rfl ⟨by omega, by omega⟩ ?_ | refine XQ.ms hM rfl rfl (by decide) (by omega) (by simp only [mLen]; omega) (fun S hM => ?_) | refine XQ.mp hM rfl rfl (fun S hM => ?_))
      · repeat (first | refine XQ.go rfl rfl ?_ | refine XQ.zeq0 rfl ?_ | refine XQ.zeq1 rfl ?_ | refine XQ.zne0 rfl ?_ | refine XQ.zne1 rfl ?_ | refine XQ.mg hM rfl rfl ?_ | refine XQ.ml hM rfl rfl (by decide) (by omega) (by simp only [mLen]; omega) ?_ | refine XQ.add rfl ⟨by omega, by omega⟩ ?_ | refine XQ.sub rfl ⟨by omega, by omega⟩ ?_ | refine XQ.mul rfl ⟨by omega, by omega⟩ ?_ | refine XQ.inc rfl rfl rfl ⟨by omega, by omega⟩ ?_ | refine XQ.ms hM rfl rfl (by decide) (by omega) (by simp only [mLen]; omega) (fun S hM => ?_) | refine XQ.mp hM rfl rfl (fun S hM => ?_))
        refine XQ.zeq rfl (fun q2 => ?_) (fun q2 => ?_)
        · have e : aSprF all o f p = p := by unfold aSprF; rw [if_neg (fun z => by rw [bI_0 q2] at z; cases z.2.1)]
          have ih3 := ih2 S (some (.inl (bI (aCnt all p.2 o f)))) x6 (by rw [e]; exact hM)
          rw [e] at ih3
          repeat (first | exact ih3 | refine XQ.go rfl rfl ?_ | refine XQ.zeq0 rfl ?_ | refine XQ.zeq1 rfl ?_ | refine XQ.zne0 rfl ?_ | refine XQ.zne1 rfl ?_ | refine XQ.mg hM rfl rfl ?_ | refine XQ.ml hM rfl rfl (by decide) (by omega) (by simp only [mLen]; omega) ?_ | refine XQ.add rfl ⟨by omega, by omega⟩ ?_ | refine XQ.sub rfl ⟨by omega, by omega⟩ ?_ | refine XQ.mul rfl ⟨by omega, by omega⟩ ?_ | refine XQ.inc rfl rfl rfl ⟨by omega, by omega⟩ ?_ | refine XQ.ms hM rfl rfl (by decide) (by omega) (by simp only [mLen]; omega) (fun S hM => ?_) | refine XQ.mp hM rfl rfl (fun S hM => ?_))
        · repeat (first | refine XQ.go rfl rfl ?_ | refine XQ.zeq0 rfl ?_ | refine XQ.zeq1 rfl ?_ | refine XQ.zne0 rfl ?_ | refine XQ.zne1 rfl ?_ | refine XQ.mg hM rfl rfl ?_ | refine XQ.ml hM rfl rfl (by decide) (by omega) (by simp only [mLen]; omega) ?_ | refine XQ.add rfl ⟨by omega, by omega⟩ ?_ | refine XQ.sub rfl ⟨by omega, by omega⟩ ?_ | refine XQ.mul rfl ⟨by omega, by omega⟩ ?_ | refine XQ.inc rfl rfl rfl ⟨by omega, by omega⟩ ?_ | refine XQ.ms hM rfl rfl (by decide) (by omega) (by simp only [mLen]; omega) (fun S hM => ?_) | refine XQ.mp hM rfl rfl (fun S hM => ?_))
          refine XQ.cne rfl (fun q3 => ?_) (fun q3 => ?_)
          · have e : aSprF all o f p = p := by unfold aSprF; rw [if_neg (fun z => q3 z.2.2)]
            have ih3 := ih2 S (some (.inl (bI (aCnt all p.2 o f)))) x6 (by rw [e]; exact hM)
            rw [e] at ih3
            repeat (first | exact ih3 | refine XQ.go rfl rfl ?_ | refine XQ.zeq0 rfl ?_ | refine XQ.zeq1 rfl ?_ | refine XQ.zne0 rfl ?_ | refine XQ.zne1 rfl ?_ | refine XQ.mg hM rfl rfl ?_ | refine XQ.ml hM rfl rfl (by decide) (by omega) (by simp only [mLen]; omega) ?_ | refine XQ.add rfl ⟨by omega, by omega⟩ ?_ | refine XQ.sub rfl ⟨by omega, by omega⟩ ?_ | refine XQ.mul rfl ⟨by omega, by omega⟩ ?_ | refine XQ.inc rfl rfl rfl ⟨by omega, by omega⟩ ?_ | refine XQ.ms hM rfl rfl (by decide) (by omega) (by simp only [mLen]; omega) (fun S hM => ?_) | refine XQ.mp hM rfl rfl (fun S hM => ?_))
          · have e : aSprF all o f p = (p.1 || (aAdd p.2 (p.2 6 (4 * (o : Int) + f))).1, (aAdd p.2 (p.2 6 (4 * (o : Int) + f))).2) := by unfold aSprF; rw [if_pos ⟨q1, bI_1 q2, q3⟩]
            repeat (first | refine XQ.go rfl rfl ?_ | refine XQ.zeq0 rfl ?_ | refine XQ.zeq1 rfl ?_ | refine XQ.zne0 rfl ?_ | refine XQ.zne1 rfl ?_ | refine XQ.mg hM rfl rfl ?_ | refine XQ.ml hM rfl rfl (by decide) (by omega) (by simp only [mLen]; omega) ?_ | refine XQ.add rfl ⟨by omega, by omega⟩ ?_ | refine XQ.sub rfl ⟨by omega, by omega⟩ ?_ | refine XQ.mul rfl ⟨by omega, by omega⟩ ?_ | refine XQ.inc rfl rfl rfl ⟨by omega, by omega⟩ ?_ | refine XQ.ms hM rfl rfl (by decide) (by omega) (by simp only [mLen]; omega) (fun S hM => ?_) | refine XQ.mp hM rfl rfl (fun S hM => ?_))
            refine XQ.v2 rfl hM.1.1 rfl (le8 rfl) (M_add hM hBp.1) (fun r S hq => ?_)
            obtain ⟨rfl, hM⟩ := hq
            have ih3 := fun x5 x6 => ih2 S x5 x6 (by rw [e]; exact hM)
            rw [e] at ih3
            repeat (first | refine XQ.go rfl rfl ?_ | refine XQ.zeq0 rfl ?_ | refine XQ.zeq1 rfl ?_ | refine XQ.zne0 rfl ?_ | refine XQ.zne1 rfl ?_ | refine XQ.mg hM rfl rfl ?_ | refine XQ.ml hM rfl rfl (by decide) (by omega) (by simp only [mLen]; omega) ?_ | refine XQ.add rfl ⟨by omega, by omega⟩ ?_ | refine XQ.sub rfl ⟨by omega, by omega⟩ ?_ | refine XQ.mul rfl ⟨by omega, by omega⟩ ?_ | refine XQ.inc rfl rfl rfl ⟨by omega, by omega⟩ ?_ | refine XQ.ms hM rfl rfl (by decide) (by omega) (by simp only [mLen]; omega) (fun S hM => ?_) | refine XQ.mp hM rfl rfl (fun S hM => ?_))
            refine XQ.zne rfl (fun q4 => ?_) (fun q4 => ?_)
            · rw [bI_1 q4] at ih3
              repeat (first | exact ih3 _ _ | refine XQ.go rfl rfl ?_ | refine XQ.zeq0 rfl ?_ | refine XQ.zeq1 rfl ?_ | refine XQ.zne0 rfl ?_ | refine XQ.zne1 rfl ?_ | refine XQ.mg hM rfl rfl ?_ | refine XQ.ml hM rfl rfl (by decide) (by omega) (by simp only [mLen]; omega) ?_ | refine XQ.add rfl ⟨by omega, by omega⟩ ?_ | refine XQ.sub rfl ⟨by omega, by omega⟩ ?_ | refine XQ.mul rfl ⟨by omega, by omega⟩ ?_ | refine XQ.inc rfl rfl rfl ⟨by omega, by omega⟩ ?_ | refine XQ.ms hM rfl rfl (by decide) (by omega) (by simp only [mLen]; omega) (fun S hM => ?_) | refine XQ.mp hM rfl rfl (fun S hM => ?_))
            · rw [bI_0 q4] at ih3
              repeat (first | refine XQ.go rfl rfl ?_ | refine XQ.zeq0 rfl ?_ | refine XQ.zeq1 rfl ?_ | refine XQ.zne0 rfl ?_ | refine XQ.zne1 rfl ?_ | refine XQ.mg hM rfl rfl ?_ | refine XQ.ml hM rfl rfl (by decide) (by omega) (by simp only [mLen]; omega) ?_ | refine XQ.add rfl ⟨by omega, by omega⟩ ?_ | refine XQ.sub rfl ⟨by omega, by omega⟩ ?_ | refine XQ.mul rfl ⟨by omega, by omega⟩ ?_ | refine XQ.inc rfl rfl rfl ⟨by omega, by omega⟩ ?_ | refine XQ.ms hM rfl rfl (by decide) (by omega) (by simp only [mLen]; omega) (fun S hM => ?_) | refine XQ.mp hM rfl rfl (fun S hM => ?_))
              refine XQ.zeq rfl (fun q5 => ?_) (fun q5 => ?_)
              · rw [bI_0 q5] at ih3
                repeat (first | exact ih3 _ _ | refine XQ.go rfl rfl ?_ | refine XQ.zeq0 rfl ?_ | refine XQ.zeq1 rfl ?_ | refine XQ.zne0 rfl ?_ | refine XQ.zne1 rfl ?_ | refine XQ.mg hM rfl rfl ?_ | refine XQ.ml hM rfl rfl (by decide) (by omega) (by simp only [mLen]; omega) ?_ | refine XQ.add rfl ⟨by omega, by omega⟩ ?_ | refine XQ.sub rfl ⟨by omega, by omega⟩ ?_ | refine XQ.mul rfl ⟨by omega, by omega⟩ ?_ | refine XQ.inc rfl rfl rfl ⟨by omega, by omega⟩ ?_ | refine XQ.ms hM rfl rfl (by decide) (by omega) (by simp only [mLen]; omega) (fun S hM => ?_) | refine XQ.mp hM rfl rfl (fun S hM => ?_))
              · rw [bI_1 q5] at ih3
                repeat (first | exact ih3 _ _ | refine XQ.go rfl rfl ?_ | refine XQ.zeq0 rfl ?_ | refine XQ.zeq1 rfl ?_ | refine XQ.zne0 rfl ?_ | refine XQ.zne1 rfl ?_ | refine XQ.mg hM rfl rfl ?_ | refine XQ.ml hM rfl rfl (by decide) (by omega) (by simp only [mLen]; omega) ?_ | refine XQ.add rfl ⟨by omega, by omega⟩ ?_ | refine XQ.sub rfl ⟨by omega, by omega⟩ ?_ | refine XQ.mul rfl ⟨by omega, by omega⟩ ?_ | refine XQ.inc rfl rfl rfl ⟨by omega, by omega⟩ ?_ | refine XQ.ms hM rfl rfl (by decide) (by omega) (by simp only [mLen]; omega) (fun S hM => ?_) | refine XQ.mp hM rfl rfl (fun S hM => ?_))
    repeat (first | refine XQ.go rfl rfl ?_ | refine XQ.zeq0 rfl ?_ | refine XQ.zeq1 rfl ?_ | refine XQ.zne0 rfl ?_ | refine XQ.zne1 rfl ?_ | refine XQ.mg hM rfl rfl ?_ | refine XQ.ml hM rfl rfl (by decide) (by omega) (by simp only [mLen]; omega) ?_ | refine XQ.add rfl ⟨by omega, by omega⟩ ?_ | refine XQ.sub rfl ⟨by omega, by omega⟩ ?_ | refine XQ.mul rfl ⟨by omega, by omega⟩ ?_ | refine XQ.inc rfl rfl rfl ⟨by omega, by omega⟩ ?_ | refine XQ.ms hM rfl rfl (by decide) (by omega) (by simp only [mLen]; omega) (fun S hM => ?_) | refine XQ.mp hM rfl rfl (fun S hM => ?_))
    refine XQ.cge rfl (fun q => by omega) (fun q => ?_)
    repeat (first | refine XQ.go rfl rfl ?_ | refine XQ.zeq0 rfl ?_ | refine XQ.zeq1 rfl ?_ | refine XQ.zne0 rfl ?_ | refine XQ.zne1 rfl ?_ | refine XQ.mg hM rfl rfl ?_ | refine XQ.ml hM rfl rfl (by decide) (by omega) (by simp only [mLen]; omega) ?_ | refine XQ.add rfl ⟨by omega, by omega⟩ ?_ | refine XQ.sub rfl ⟨by omega, by omega⟩ ?_ | refine XQ.mul rfl ⟨by omega, by omega⟩ ?_ | refine XQ.inc rfl rfl rfl ⟨by omega, by omega⟩ ?_ | refine XQ.ms hM rfl rfl (by decide) (by omega) (by simp only [mLen]; omega) (fun S hM => ?_) | refine XQ.mp hM rfl rfl (fun S hM => ?_))
    refine XQ.ceq rfl (fun q1 => ?_) (fun q1 => ?_)
    · have e : aCnt all p.2 o f = true := by unfold aCnt; rw [decide_eq_true q1]; rfl
      rw [e] at k73
      repeat (first | exact k73 _ | refine XQ.go rfl rfl ?_ | refine XQ.zeq0 rfl ?_ | refine XQ.zeq1 rfl ?_ | refine XQ.zne0 rfl ?_ | refine XQ.zne1 rfl ?_ | refine XQ.mg hM rfl rfl ?_ | refine XQ.ml hM rfl rfl (by decide) (by omega) (by simp only [mLen]; omega) ?_ | refine XQ.add rfl ⟨by omega, by omega⟩ ?_ | refine XQ.sub rfl ⟨by omega, by omega⟩ ?_ | refine XQ.mul rfl ⟨by omega, by omega⟩ ?_ | refine XQ.inc rfl rfl rfl ⟨by omega, by omega⟩ ?_ | refine XQ.ms hM rfl rfl (by decide) (by omega) (by simp only [mLen]; omega) (fun S hM => ?_) | refine XQ.mp hM rfl rfl (fun S hM => ?_))
    · repeat (first | refine XQ.go rfl rfl ?_ | refine XQ.zeq0 rfl ?_ | refine XQ.zeq1 rfl ?_ | refine XQ.zne0 rfl ?_ | refine XQ.zne1 rfl ?_ | refine XQ.mg hM rfl rfl ?_ | refine XQ.ml hM rfl rfl (by decide) (by omega) (by simp only [mLen]; omega) ?_ | refine XQ.add rfl ⟨by omega, by omega⟩ ?_ | refine XQ.sub rfl ⟨by omega, by omega⟩ ?_ | refine XQ.mul rfl ⟨by omega, by omega⟩ ?_ | refine XQ.inc rfl rfl rfl ⟨by omega, by omega⟩ ?_ | refine XQ.ms hM rfl rfl (by decide) (by omega) (by simp only [mLen]; omega) (fun S hM => ?_) | refine XQ.mp hM rfl rfl (fun S hM => ?_))
      refine XQ.cne rfl (fun q2 => ?_) (fun q2 => ?_)
      · have e : aCnt all p.2 o f = false := by unfold aCnt; rw [decide_eq_false q1, decide_eq_false q2]; rfl
        rw [e] at k73
        repeat (first | exact k73 _ | refine XQ.go rfl rfl ?_ | refine XQ.zeq0 rfl ?_ | refine XQ.zeq1 rfl ?_ | refine XQ.zne0 rfl ?_ | refine XQ.zne1 rfl ?_ | refine XQ.mg hM rfl rfl ?_ | refine XQ.ml hM rfl rfl (by decide) (by omega) (by simp only [mLen]; omega) ?_ | refine XQ.add rfl ⟨by omega, by omega⟩ ?_ | refine XQ.sub rfl ⟨by omega, by omega⟩ ?_ | refine XQ.mul rfl ⟨by omega, by omega⟩ ?_ | refine XQ.inc rfl rfl rfl ⟨by omega, by omega⟩ ?_ | refine XQ.ms hM rfl rfl (by decide) (by omega) (by simp only [mLen]; omega) (fun S hM => ?_) | refine XQ.mp hM rfl rfl (fun S hM => ?_))
      · repeat (first | refine XQ.go rfl rfl ?_ | refine XQ.zeq0 rfl ?_ | refine XQ.zeq1 rfl ?_ | refine XQ.zne0 rfl ?_ | refine XQ.zne1 rfl ?_ | refine XQ.mg hM rfl rfl ?_ | refine XQ.ml hM rfl rfl (by decide) (by omega) (by simp only [mLen]; omega) ?_ | refine XQ.add rfl ⟨by omega, by omega⟩ ?_ | refine XQ.sub rfl ⟨by omega, by omega⟩ ?_ | refine XQ.mul rfl ⟨by omega, by omega⟩ ?_ | refine XQ.inc rfl rfl rfl ⟨by omega, by omega⟩ ?_ | refine XQ.ms hM rfl rfl (by decide) (by omega) (by simp only [mLen]; omega) (fun S hM => ?_) | refine XQ.mp hM rfl rfl (fun S hM => ?_))
        refine XQ.zne rfl (fun q3 => ?_) (fun q3 => ?_)
        · have e : aCnt all p.2 o f = true := by unfold aCnt; rw [decide_eq_false q1, decide_eq_true q2, bI_1 q3]; rfl
          rw [e] at k73
          repeat (first | exact k73 _ | refine XQ.go rfl rfl ?_ | refine XQ.zeq0 rfl ?_ | refine XQ.zeq1 rfl ?_ | refine XQ.zne0 rfl ?_ | refine XQ.zne1 rfl ?_ | refine XQ.mg hM rfl rfl ?_ | refine XQ.ml hM rfl rfl (by decide) (by omega) (by simp only [mLen]; omega) ?_ | refine XQ.add rfl ⟨by omega, by omega⟩ ?_ | refine XQ.sub rfl ⟨by omega, by omega⟩ ?_ | refine XQ.mul rfl ⟨by omega, by omega⟩ ?_ | refine XQ.inc rfl rfl rfl ⟨by omega, by omega⟩ ?_ | refine XQ.ms hM rfl rfl (by decide) (by omega) (by simp only [mLen]; omega) (fun S hM => ?_) | refine XQ.mp hM rfl rfl (fun S hM => ?_))
        · repeat (first | refine XQ.go rfl rfl ?_ | refine XQ.zeq0 rfl ?_ | refine XQ.zeq1 rfl ?_ | refine XQ.zne0 rfl ?_ | refine XQ.zne1 rfl ?_ | refine XQ.mg hM rfl rfl ?_ | refine XQ.ml hM rfl rfl (by decide) (by omega) (by simp only [mLen]; omega) ?_ | refine XQ.add rfl ⟨by omega, by omega⟩ ?_ | refine XQ.sub rfl ⟨by omega, by omega⟩ ?_ | refine XQ.mul rfl ⟨by omega, by omega⟩ ?_ | refine XQ.inc rfl rfl rfl ⟨by omega, by omega⟩ ?_ | refine XQ.ms hM rfl rfl (by decide) (by omega) (by simp only [mLen]; omega) (fun S hM => ?_) | refine XQ.mp hM rfl rfl (fun S hM => ?_))
          refine XQ.v2 rfl hM.1.1 rfl (le8 rfl) (M_isMarked hM hBp.1) (fun r S' hq => ?_)
          obtain ⟨rfl, rfl⟩ := hq
          have e : aCnt all p.2 o f = aIsM p.2 (p.2 7 (4 * (o : Int) + f)) := by unfold aCnt; rw [decide_eq_false q1, decide_eq_true q2, bI_0 q3]; simp
          refine XQ.zeq rfl (fun q4 => ?_) (fun q4 => ?_)
          · rw [e, bI_0 q4] at k73
            repeat (first | exact k73 _ | refine XQ.go rfl rfl ?_ | refine XQ.zeq0 rfl ?_ | refine XQ.zeq1 rfl ?_ | refine XQ.zne0 rfl ?_ | refine XQ.zne1 rfl ?_ | refine XQ.mg hM rfl rfl ?_ | refine XQ.ml hM rfl rfl (by decide) (by omega) (by simp only [mLen]; omega) ?_ | refine XQ.add rfl ⟨by omega, by omega⟩ ?_ | refine XQ.sub rfl ⟨by omega, by omega⟩ ?_ | refine XQ.mul rfl ⟨by omega, by omega⟩ ?_ | refine XQ.inc rfl rfl rfl ⟨by omega, by omega⟩ ?_ | refine XQ.ms hM rfl rfl (by decide) (by omega) (by simp only [mLen]; omega) (fun S hM => ?_) | refine XQ.mp hM rfl rfl (fun S hM => ?_))
          · rw [e, bI_1 q4] at k73
            repeat (first | exact k73 _ | refine XQ.go rfl rfl ?_ | refine XQ.zeq0 rfl ?_ | refine XQ.zeq1 rfl ?_ | refine XQ.zne0 rfl ?_ | refine XQ.zne1 rfl ?_ | refine XQ.mg hM rfl rfl ?_ | refine XQ.ml hM rfl rfl (by decide) (by omega) (by simp only [mLen]; omega) ?_ | refine XQ.add rfl ⟨by omega, by omega⟩ ?_ | refine XQ.sub rfl ⟨by omega, by omega⟩ ?_ | refine XQ.mul rfl ⟨by omega, by omega⟩ ?_ | refine XQ.inc rfl rfl rfl ⟨by omega, by omega⟩ ?_ | refine XQ.ms hM rfl rfl (by decide) (by omega) (by simp only [mLen]; omega) (fun S hM => ?_) | refine XQ.mp hM rfl rfl (fun S hM => ?_))
theorem M_spr_o {all : Bool} (hB : BW M) : ∀ (j o : Nat) (S : MS) (x4 x5 x6 : Option MV), ((o + j : Nat) : Int) = M 13 0 → MO m S0 S (lp (aSprO all) o (false, M)).2 → XQ (d + 3) k_M_spread 4 [some (.inr (some m)), some (.inl (bI all)), some (.inl (bI (lp (aSprO all) o (false, M)).1)), some (.inl (o : Int)), x4, x5, x6] [] S (fun r S' => r = some (.inl (bI (aSpr all M).1)) ∧ MO m S0 S' (aSpr all M).2) := by
  have hb := hB.1
  intro j
  induction j with
  | zero =>
    intro o S x4 x5 x6 ho hM
    have e : aSpr all M = lp (aSprO all) o (false, M) := by unfold aSpr; rw [← ho]; rfl
    have hoff : offM M (lp (aSprO all) o (false, M)).2 := lp_off2 (p := (false, M)) (fun o p => aSprO_off all o p) o
    have e0 := hoff 13 0 (by decide)
    rw [e]
    repeat (first | refine XQ.go rfl rfl ?_ | refine XQ.zeq0 rfl ?_ | refine XQ.zeq1 rfl ?_ | refine XQ.zne0 rfl ?_ | refine XQ.zne1 rfl ?_ | refine XQ.mg hM rfl rfl ?_ | refine XQ.ml hM rfl rfl (by decide) (by omega) (by simp only [mLen]; omega) ?_ | refine XQ.add rfl ⟨by omega, by omega⟩ ?_ | refine XQ.sub rfl ⟨by omega, by omega⟩ ?_ | refine XQ.mul rfl ⟨by omega, by omega⟩ ?_ | refine XQ.inc rfl rfl rfl ⟨by omega, by omega⟩ ?_ | refine XQ.ms hM rfl rfl (by decide) (by omega) (by simp only [mLen]; omega) (fun S hM => ?_) | refine XQ.mp hM rfl rfl (fun S hM => ?_))
    refine XQ.cge rfl (fun q => ?_) (fun q => by omega)
    repeat (first | refine XQ.go rfl rfl ?_ | refine XQ.zeq0 rfl ?_ | refine XQ.zeq1 rfl ?_ | refine XQ.zne0 rfl ?_ | refine XQ.zne1 rfl ?_ | refine XQ.mg hM rfl rfl ?_ | refine XQ.ml hM rfl rfl (by decide) (by omega) (by simp only [mLen]; omega) ?_ | refine XQ.add rfl ⟨by omega, by omega⟩ ?_ | refine XQ.sub rfl ⟨by omega, by omega⟩ ?_ | refine XQ.mul rfl ⟨by omega, by omega⟩ ?_ | refine XQ.inc rfl rfl rfl ⟨by omega, by omega⟩ ?_ | refine XQ.ms hM rfl rfl (by decide) (by omega) (by simp only [mLen]; omega) (fun S hM => ?_) | refine XQ.mp hM rfl rfl (fun S hM => ?_))
    refine XQ.ret rfl ?_ ⟨rfl, hM⟩
    cases (lp (aSprO all) o (false, M)).1 <;> rfl
  | succ j ih =>
    intro o S x4 x5 x6 ho hM
    have hoff : offM M (lp (aSprO all) o (false, M)).2 := lp_off2 (p := (false, M)) (fun o p => aSprO_off all o p) o
    have e0 := hoff 13 0 (by decide)
    have hBp := hB.off hoff
    have en : lp (aSprO all) (o + 1) (false, M) = aSprO all o (lp (aSprO all) o (false, M)) := rfl
    have ih2 := fun S x4 x5 x6 hM => ih (o + 1) S x4 x5 x6 (by omega) hM
    rw [en] at ih2
    generalize lp (aSprO all) o (false, M) = p at hM hoff e0 ih2 hBp ⊢
    have hm := hBp.2.2.1 o (by omega) (by omega)
    have K : ∀ (S : MS) (x4 x5 x6 : Option MV), MO m S0 S (aSprO all o p).2 → XQ (d + 3) k_M_spread 143 [some (.inr (some m)), some (.inl (bI all)), some (.inl (bI (aSprO all o p).1)), some (.inl (o : Int)), x4, x5, x6] [] S (fun r S' => r = some (.inl (bI (aSpr all M).1)) ∧ MO m S0 S' (aSpr all M).2) := by
      intro S x4 x5 x6 hM
      have ih3 := ih2 S x4 x5 x6 hM
      repeat (first | exact ih3 | refine XQ.go rfl rfl ?_ | refine XQ.zeq0 rfl ?_ | refine XQ.zeq1 rfl ?_ | refine XQ.zne0 rfl ?_ | refine XQ.zne1 rfl ?_ | refine XQ.mg hM rfl rfl ?_ | refine XQ.ml hM rfl rfl (by decide) (by omega) (by simp only [mLen]; omega) ?_ | refine XQ.add rfl ⟨by omega, by omega⟩ ?_ | refine XQ.sub rfl ⟨by omega, by omega⟩ ?_ | refine XQ.mul rfl ⟨by omega, by omega⟩ ?_ | refine XQ.inc rfl rfl rfl ⟨by omega, by omega⟩ ?_ | refine XQ.ms hM rfl rfl (by decide) (by omega) (by simp only [mLen]; omega) (fun S hM => ?_) | refine XQ.mp hM rfl rfl (fun S hM => ?_))
    have hi := M_spr_i hBp (by omega) K (p.2 4 (o : Int)).toNat 0 S x5 x6 (by omega) hM
    repeat (first | refine XQ.go rfl rfl ?_ | refine XQ.zeq0 rfl ?_ | refine XQ.zeq1 rfl ?_ | refine XQ.zne0 rfl ?_ | refine XQ.zne1 rfl ?_ | refine XQ.mg hM rfl rfl ?_ | refine XQ.ml hM rfl rfl (by decide) (by omega) (by simp only [mLen]; omega) ?_ | refine XQ.add rfl ⟨by omega, by omega⟩ ?_ | refine XQ.sub rfl ⟨by omega, by omega⟩ ?_ | refine XQ.mul rfl ⟨by omega, by omega⟩ ?_ | refine XQ.inc rfl rfl rfl ⟨by omega, by omega⟩ ?_ | refine XQ.ms hM rfl rfl (by decide) (by omega) (by simp only [mLen]; omega) (fun S hM => ?_) | refine XQ.mp hM rfl rfl (fun S hM => ?_))
    refine XQ.cge rfl (fun q => by omega) (fun q => ?_)
    repeat (first | exact hi | refine XQ.go rfl rfl ?_ | refine XQ.zeq0 rfl ?_ | refine XQ.zeq1 rfl ?_ | refine XQ.zne0 rfl ?_ | refine XQ.zne1 rfl ?_ | refine XQ.mg hM rfl rfl ?_ | refine XQ.ml hM rfl rfl (by decide) (by omega) (by simp only [mLen]; omega) ?_ | refine XQ.add rfl ⟨by omega, by omega⟩ ?_ | refine XQ.sub rfl ⟨by omega, by omega⟩ ?_ | refine XQ.mul rfl ⟨by omega, by omega⟩ ?_ | refine XQ.inc rfl rfl rfl ⟨by omega, by omega⟩ ?_ | refine XQ.ms hM rfl rfl (by decide) (by omega) (by simp only [mLen]; omega) (fun S hM => ?_) | refine XQ.mp hM rfl rfl (fun S hM => ?_))
theorem M_spread {all : Bool} (hM : MO m S0 S M) (hB : BW M) : XQ (d + 3) k_M_spread 0 (mentry (mL k_M_spread) [.inr (some m), .inl (bI all)]) [] S (fun r S' => r = some (.inl (bI (aSpr all M).1)) ∧ MO m S0 S' (aSpr all M).2) := by
  have h0 := M_spr_o (d := d) (m := m) (S0 := S0) (all := all) hB (M 13 0).toNat 0 S none none none (by have := hB.1; omega) hM
  repeat (first | exact h0 | refine XQ.go rfl rfl ?_ | refine XQ.zeq0 rfl ?_ | refine XQ.zeq1 rfl ?_ | refine XQ.zne0 rfl ?_ | refine XQ.zne1 rfl ?_ | refine XQ.mg hM rfl rfl ?_ | refine XQ.ml hM rfl rfl (by decide) (by omega) (by simp only [mLen]; omega) ?_ | refine XQ.add rfl ⟨by omega, by omega⟩ ?_ | refine XQ.sub rfl ⟨by omega, by omega⟩ ?_ | refine XQ.mul rfl ⟨by omega, by omega⟩ ?_ | refine XQ.inc rfl rfl rfl ⟨by omega, by omega⟩ ?_ | refine XQ.ms hM rfl rfl (by decide) (by omega) (by simp only [mLen]; omega) (fun S hM => ?_) | refine XQ.mp hM rfl rfl (fun S hM => ?_))
theorem M_clo_l {all : Bool} : ∀ (j r : Nat) (M : MM) (S : MS), r + j = 21 → BW M → MO m S0 S M → XQ (d + 4) k_M_close 2 [some (.inr (some m)), some (.inl (bI all)), some (.inl (r : Int))] [] S (fun q S' => q = none ∧ MO m S0 S' (aClo all j M)) := by
  intro j
  induction j with
  | zero =>
    intro r M S hr hB hM
    repeat (first | refine XQ.go rfl rfl ?_ | refine XQ.zeq0 rfl ?_ | refine XQ.zeq1 rfl ?_ | refine XQ.zne0 rfl ?_ | refine XQ.zne1 rfl ?_ | refine XQ.mg hM rfl rfl ?_ | refine XQ.ml hM rfl rfl (by decide) (by omega) (by simp only [mLen]; omega) ?_ | refine XQ.add rfl ⟨by omega, by omega⟩ ?_ | refine XQ.sub rfl ⟨by omega, by omega⟩ ?_ | refine XQ.mul rfl ⟨by omega, by omega⟩ ?_ | refine XQ.inc rfl rfl rfl ⟨by omega, by omega⟩ ?_ | refine XQ.ms hM rfl rfl (by decide) (by omega) (by simp only [mLen]; omega) (fun S hM => ?_) | refine XQ.mp hM rfl rfl (fun S hM => ?_))
    refine XQ.cge rfl (fun q => ?_) (fun q => by omega)
    exact XQ.ret rfl rfl ⟨rfl, hM⟩
  | succ j ih =>
    intro r M S hr hB hM
    repeat (first | refine XQ.go rfl rfl ?_ | refine XQ.zeq0 rfl ?_ | refine XQ.zeq1 rfl ?_ | refine XQ.zne0 rfl ?_ | refine XQ.zne1 rfl ?_ | refine XQ.mg hM rfl rfl ?_ | refine XQ.ml hM rfl rfl (by decide) (by omega) (by simp only [mLen]; omega) ?_ | refine XQ.add rfl ⟨by omega, by omega⟩ ?_ | refine XQ.sub rfl ⟨by omega, by omega⟩ ?_ | refine XQ.mul rfl ⟨by omega, by omega⟩ ?_ | refine XQ.inc rfl rfl rfl ⟨by omega, by omega⟩ ?_ | refine XQ.ms hM rfl rfl (by decide) (by omega) (by simp only [mLen]; omega) (fun S hM => ?_) | refine XQ.mp hM rfl rfl (fun S hM => ?_))
    refine XQ.cge rfl (fun q => by omega) (fun q => ?_)
    repeat (first | refine XQ.go rfl rfl ?_ | refine XQ.zeq0 rfl ?_ | refine XQ.zeq1 rfl ?_ | refine XQ.zne0 rfl ?_ | refine XQ.zne1 rfl ?_ | refine XQ.mg hM rfl rfl ?_ | refine XQ.ml hM rfl rfl (by decide) (by omega) (by simp only [mLen]; omega) ?_ | refine XQ.add rfl ⟨by omega, by omega⟩ ?_ | refine XQ.sub rfl ⟨by omega, by omega⟩ ?_ | refine XQ.mul rfl ⟨by omega, by omega⟩ ?_ | refine XQ.inc rfl rfl rfl ⟨by omega, by omega⟩ ?_ | refine XQ.ms hM rfl rfl (by decide) (by omega) (by simp only [mLen]; omega) (fun S hM => ?_) | refine XQ.mp hM rfl rfl (fun S hM => ?_))
    refine XQ.v2 rfl hM.1.1 rfl (le8 rfl) (M_spread hM hB) (fun x S hq => ?_)
    obtain ⟨rfl, hM⟩ := hq
    refine XQ.zne rfl (fun q2 => ?_) (fun q2 => ?_)
    · have e : aClo all (j + 1) M = aClo all j (aSpr all M).2 := by rw [aClo, if_pos (bI_1 q2)]
      rw [e]
      have ih2 := ih (r + 1) (aSpr all M).2 S (by omega) (hB.off (aSpr_off all M)) hM
      repeat (first | exact ih2 | refine XQ.go rfl rfl ?_ | refine XQ.zeq0 rfl ?_ | refine XQ.zeq1 rfl ?_ | refine XQ.zne0 rfl ?_ | refine XQ.zne1 rfl ?_ | refine XQ.mg hM rfl rfl ?_ | refine XQ.ml hM rfl rfl (by decide) (by omega) (by simp only [mLen]; omega) ?_ | refine XQ.add rfl ⟨by omega, by omega⟩ ?_ | refine XQ.sub rfl ⟨by omega, by omega⟩ ?_ | refine XQ.mul rfl ⟨by omega, by omega⟩ ?_ | refine XQ.inc rfl rfl rfl ⟨by omega, by omega⟩ ?_ | refine XQ.ms hM rfl rfl (by decide) (by omega) (by simp only [mLen]; omega) (fun S hM => ?_) | refine XQ.mp hM rfl rfl (fun S hM => ?_))
    · have e : aClo all (j + 1) M = (aSpr all M).2 := by rw [aClo, if_neg (by rw [bI_0 q2]; decide)]
      rw [e]
      exact XQ.ret rfl rfl ⟨rfl, hM⟩
theorem M_close {all : Bool} (hM : MO m S0 S M) (hB : BW M) : XQ (d + 4) k_M_close 0 (mentry (mL k_M_close) [.inr (some m), .inl (bI all)]) [] S (fun q S' => q = none ∧ MO m S0 S' (aClo all 21 M)) := by
  have h0 := M_clo_l (d := d) (m := m) (S0 := S0) (all := all) 21 0 M S rfl hB hM
  repeat (first | exact h0 | refine XQ.go rfl rfl ?_ | refine XQ.zeq0 rfl ?_ | refine XQ.zeq1 rfl ?_ | refine XQ.zne0 rfl ?_ | refine XQ.zne1 rfl ?_ | refine XQ.mg hM rfl rfl ?_ | refine XQ.ml hM rfl rfl (by decide) (by omega) (by simp only [mLen]; omega) ?_ | refine XQ.add rfl ⟨by omega, by omega⟩ ?_ | refine XQ.sub rfl ⟨by omega, by omega⟩ ?_ | refine XQ.mul rfl ⟨by omega, by omega⟩ ?_ | refine XQ.inc rfl rfl rfl ⟨by omega, by omega⟩ ?_ | refine XQ.ms hM rfl rfl (by decide) (by omega) (by simp only [mLen]; omega) (fun S hM => ?_) | refine XQ.mp hM rfl rfl (fun S hM => ?_))
end M3
end
section
/-! what the steps of a collection leave as it is -/
def offS (R : List Nat) (M M' : MM) : Prop := ∀ j i, R.contains j = false → M' j i = M j i
theorem offS.rf {R : List Nat} {M : MM} : offS R M M := fun _ _ _ => rfl
theorem offS.tr {R : List Nat} {M M1 M2 : MM} (h : offS R M M1) (h2 : offS R M1 M2) : offS R M M2 := fun j i hj => (h2 j i hj).trans (h j i hj)
theorem offS.u {R : List Nat} {M M1 : MM} (h : offS R M M1) {j0 : Nat} (hr : R.contains j0 = true) (i v : Int) : offS R M (u2 M1 j0 i v) := fun j i' hj => (u2_n M1 v (Or.inl (fun e => by subst e; rw [hr] at hj; cases hj))).trans (h j i' hj)
theorem offS.of {M M' : MM} (h : offM M M') : offS [8] M M' := fun j i hj => h j i (fun e => by subst e; cases hj)
theorem BW.offS {R : List Nat} {M M' : MM} (h : BW M) (ho : offS R M M') (h13 : R.contains 13 = false) (h3 : R.contains 3 = false) (h4 : R.contains 4 = false) : BW M' := by
  obtain ⟨g1, g2, g3, g4⟩ := h
  unfold BW
  rw [ho 13 0 h13, ho 13 1 h13, ho 13 2 h13, ho 13 3 h13, ho 13 4 h13]
  refine ⟨g1, g2, fun o a b => ?_, g4⟩
  rw [ho 4 o h4, ho 3 o h3]
  exact g3 o a b
theorem aLsW_off (o : Nat) (M : MM) : offS [5, 6] M (aLsW o M) := by
  unfold aLsW
  split
  · exact (offS.rf.u rfl _ _).u rfl _ _
  · exact offS.rf
theorem aLsE_off (o e : Nat) (p : Int × MM) : offS [5, 6, 7] p.2 (aLsE o e p).2 := by
  unfold aLsE
  split
  · exact ((offS.rf.u rfl _ _).u rfl _ _).u rfl _ _
  · exact offS.rf
/-- the loop over a table's entries -/
theorem aLsE_lp (o : Nat) (M : MM) (n : Nat) : offS [5, 6, 7] M (lp (aLsE o) n (0, M)).2 ∧ 0 ≤ (lp (aLsE o) n (0, M)).1 ∧ (lp (aLsE o) n (0, M)).1 ≤ (n : Int) := by
  refine lp_inv (fun i (q : Int × MM) => offS [5, 6, 7] M q.2 ∧ 0 ≤ q.1 ∧ q.1 ≤ (i : Int)) ⟨offS.rf, by show (0 : Int) ≤ 0; omega, by show (0 : Int) ≤ 0; omega⟩ n (fun i x _ hx => ?_)
  refine ⟨hx.1.tr (aLsE_off o i x), ?_⟩
  unfold aLsE
  split
  · show 0 ≤ x.1 + 1 ∧ x.1 + 1 ≤ ((i + 1 : Nat) : Int)
    omega
  · omega
theorem aLsT_row (o : Nat) (M : MM) (h0 : 0 ≤ M 4 (o : Int)) : offS [4, 5, 6, 7] M (aLsT o M) ∧ (∀ i, i ≠ (o : Int) → aLsT o M 4 i = M 4 i) ∧ 0 ≤ aLsT o M 4 (o : Int) ∧ aLsT o M 4 (o : Int) ≤ M 4 (o : Int) := by
  unfold aLsT
  split
  · obtain ⟨g1, g2, g3⟩ := aLsE_lp o M (M 4 (o : Int)).toNat
    refine ⟨offS.u (fun j i hj => g1 j i ?_) rfl _ _, fun i hi => ?_, ?_, ?_⟩
    · simp at hj ⊢
      exact hj.2
    · rw [u2_n _ _ (Or.inr hi)]; exact g1 4 i rfl
    · rw [u2_s]; exact g2
    · rw [u2_s]; omega
  · exact ⟨offS.rf, fun _ _ => rfl, h0, Int.le_refl _⟩
theorem aLsS_ok {o : Nat} {M : MM} (hB : BW M) (ho : (o : Int) < M 13 0) : BW (aLsS o M) ∧ offS [4, 5, 6, 7] M (aLsS o M) := by
  have h1 := aLsW_off o M
  have hB1 := hB.offS h1 rfl rfl rfl
  have e0 := h1 13 0 rfl
  have hm := hB1.2.2.1 o (by omega) (by omega)
  obtain ⟨g1, g2, g3, g4⟩ := aLsT_row o (aLsW o M) hm.1
  have hoff : offS [4, 5, 6, 7] M (aLsS o M) := fun j i hj => (g1 j i hj).trans (h1 j i (by simp at hj ⊢; omega))
  refine ⟨?_, hoff⟩
  obtain ⟨k1, k2, k3, k4⟩ := hB
  unfold BW
  rw [hoff 13 0 rfl, hoff 13 1 rfl, hoff 13 2 rfl, hoff 13 3 rfl, hoff 13 4 rfl]
  refine ⟨k1, k2, fun i a b => ?_, k4⟩
  rw [hoff 3 i rfl]
  have hk := k3 i a b
  by_cases e : i = (o : Int)
  · subst e
    have e4 := h1 4 (o : Int) rfl
    show 0 ≤ aLsT o (aLsW o M) 4 (o : Int) ∧ aLsT o (aLsW o M) 4 (o : Int) ≤ 4 ∧ _
    exact ⟨g3, by omega, hk.2.2⟩
  · have e4 : aLsS o M 4 i = M 4 i := (g2 i e).trans (h1 4 i rfl)
    rw [e4]
    exact hk
theorem aLoose_lp {M : MM} (hB : BW M) : ∀ k : Nat, (k : Int) ≤ M 13 0 → BW (lp aLsS k M) ∧ offS [4, 5, 6, 7] M (lp aLsS k M)
  | 0, _ => ⟨hB, offS.rf⟩
  | k + 1, hk => by
    obtain ⟨g1, g2⟩ := aLoose_lp hB k (by omega)
    have e0 := g2 13 0 rfl
    obtain ⟨g3, g4⟩ := aLsS_ok (o := k) g1 (by omega)
    exact ⟨g3, g2.tr g4⟩
theorem aCwK_lp {M : MM} : ∀ k : Nat, offS [9, 10, 11, 12, 13] M (lp aCwK k (0, M)).2 ∧ 0 ≤ (lp aCwK k (0, M)).1 ∧ (lp aCwK k (0, M)).1 ≤ (k : Int) ∧ (∀ q, q ≠ 3 → (lp aCwK k (0, M)).2 13 q = M 13 q) ∧ (lp aCwK k (0, M)).2 13 3 = M 13 3 + ((k : Int) - (lp aCwK k (0, M)).1)
  | 0 => ⟨offS.rf, by show (0 : Int) ≤ 0; omega, by show (0 : Int) ≤ 0; omega, fun _ _ => rfl, by show M 13 3 = M 13 3 + ((0 : Int) - 0); omega⟩
  | k + 1 => by
    obtain ⟨g1, g2, g3, g4, g5⟩ := aCwK_lp (M := M) k
    show offS _ M (aCwK k (lp aCwK k (0, M))).2 ∧ 0 ≤ (aCwK k (lp aCwK k (0, M))).1 ∧ (aCwK k (lp aCwK k (0, M))).1 ≤ _ ∧ (∀ q, q ≠ 3 → (aCwK k (lp aCwK k (0, M))).2 13 q = M 13 q) ∧ (aCwK k (lp aCwK k (0, M))).2 13 3 = M 13 3 + (((k + 1 : Nat) : Int) - (aCwK k (lp aCwK k (0, M))).1)
    generalize lp aCwK k (0, M) = p at g1 g2 g3 g4 g5 ⊢
    unfold aCwK
    split
    · refine ⟨(g1.u rfl _ _).u rfl _ _, by show 0 ≤ p.1 + 1; omega, by show p.1 + 1 ≤ _; omega, fun q hq => ?_, ?_⟩
      · show u2 (u2 p.2 9 p.1 (p.2 9 (k : Int))) 10 p.1 (p.2 10 (k : Int)) 13 q = _
        exact (u2_n _ _ (Or.inl (by decide))).trans ((u2_n _ _ (Or.inl (by decide))).trans (g4 q hq))
      · show u2 (u2 p.2 9 p.1 (p.2 9 (k : Int))) 10 p.1 (p.2 10 (k : Int)) 13 3 = M 13 3 + (((k + 1 : Nat) : Int) - (p.1 + 1))
        refine (u2_n _ _ (Or.inl (by decide))).trans ((u2_n _ _ (Or.inl (by decide))).trans (g5.trans ?_))
        omega
    · refine ⟨((g1.u rfl _ _).u rfl _ _).u rfl _ _, g2, by show p.1 ≤ _; omega, fun q hq => ?_, ?_⟩
      · exact (u2_n _ _ (Or.inr hq)).trans ((u2_n _ _ (Or.inl (by decide))).trans ((u2_n _ _ (Or.inl (by decide))).trans (g4 q hq)))
      · show u2 (u2 (u2 p.2 11 (p.2 13 3) (p.2 9 (k : Int))) 12 (p.2 13 3) (p.2 10 (k : Int))) 13 3 (p.2 13 3 + 1) 13 3 = _
        refine (u2_s _ _ _ _).trans ?_
        show p.2 13 3 + 1 = M 13 3 + (((k + 1 : Nat) : Int) - p.1)
        omega
theorem aCallW_ok {M : MM} (hB : BW M) : BW (aCallW M) ∧ offS [9, 10, 11, 12, 13] M (aCallW M) ∧ (aCallW M 13 0 = M 13 0 ∧ aCallW M 13 1 = M 13 1 ∧ aCallW M 13 4 = M 13 4) := by
  obtain ⟨g1, g2, g3, g4, g5⟩ := aCwK_lp (M := M) (M 13 2).toNat
  unfold aCallW
  generalize lp aCwK (M 13 2).toNat (0, M) = p at g1 g2 g3 g4 g5 ⊢
  have hoff : offS [9, 10, 11, 12, 13] M (u2 p.2 13 2 p.1) := g1.u rfl _ _
  have e0 : u2 p.2 13 2 p.1 13 0 = M 13 0 := (u2_n _ _ (Or.inr (by decide))).trans (g4 0 (by decide))
  have e1 : u2 p.2 13 2 p.1 13 1 = M 13 1 := (u2_n _ _ (Or.inr (by decide))).trans (g4 1 (by decide))
  have e4 : u2 p.2 13 2 p.1 13 4 = M 13 4 := (u2_n _ _ (Or.inr (by decide))).trans (g4 4 (by decide))
  have e2 : u2 p.2 13 2 p.1 13 2 = p.1 := u2_s _ _ _ _
  have e3 : u2 p.2 13 2 p.1 13 3 = M 13 3 + (((M 13 2).toNat : Int) - p.1) := (u2_n _ _ (Or.inr (by decide))).trans g5
  refine ⟨?_, hoff, e0, e1, e4⟩
  obtain ⟨k1, k2, k3, k4⟩ := hB
  unfold BW
  rw [e0, e1, e2, e3, e4]
  refine ⟨k1, by omega, fun i a b => ?_, k4⟩
  rw [hoff 4 i rfl, hoff 3 i rfl]
  exact k3 i a b
theorem aSwF_off (o : Nat) (l : Int) (f : Nat) (M : MM) : offS [5, 6, 7] M (aSwF o l f M) := ((offS.rf.u rfl _ _).u rfl _ _).u rfl _ _
theorem aSwF_lp (o : Nat) (l : Int) (n : Nat) (M : MM) : offS [5, 6, 7] M (lp (aSwF o l) n M) := lp_inv (fun _ q => offS [5, 6, 7] M q) offS.rf n (fun i x _ hx => hx.tr (aSwF_off o l i x))
/-- a sweep: what lies ahead is untouched, what lies behind is a copy of something ahead of it -/
theorem aSwO_lp {M : MM} : ∀ k : Nat, offS [2, 3, 4, 5, 6, 7] M (lp aSwO k (0, M)).2 ∧ 0 ≤ (lp aSwO k (0, M)).1 ∧ (lp aSwO k (0, M)).1 ≤ (k : Int) ∧ (∀ j i, (j = 2 ∨ j = 3 ∨ j = 4) → (lp aSwO k (0, M)).1 ≤ i → (lp aSwO k (0, M)).2 j i = M j i) ∧ (∀ i, 0 ≤ i → i < (lp aSwO k (0, M)).1 → ∃ i', 0 ≤ i' ∧ i' < (k : Int) ∧ (lp aSwO k (0, M)).2 3 i = M 3 i' ∧ (lp aSwO k (0, M)).2 4 i = M 4 i')
  | 0 => ⟨offS.rf, by show (0 : Int) ≤ 0; omega, by show (0 : Int) ≤ 0; omega, fun _ _ _ _ => rfl, fun i h0 h1 => absurd h1 (by show ¬ i < (0 : Int); omega)⟩
  | k + 1 => by
    obtain ⟨g1, g2, g3, g4, g5⟩ := aSwO_lp (M := M) k
    show offS _ M (aSwO k (lp aSwO k (0, M))).2 ∧ 0 ≤ (aSwO k (lp aSwO k (0, M))).1 ∧ (aSwO k (lp aSwO k (0, M))).1 ≤ _ ∧ (∀ j i, (j = 2 ∨ j = 3 ∨ j = 4) → (aSwO k (lp aSwO k (0, M))).1 ≤ i → (aSwO k (lp aSwO k (0, M))).2 j i = M j i) ∧ (∀ i, 0 ≤ i → i < (aSwO k (lp aSwO k (0, M))).1 → ∃ i', 0 ≤ i' ∧ i' < ((k + 1 : Nat) : Int) ∧ (aSwO k (lp aSwO k (0, M))).2 3 i = M 3 i' ∧ (aSwO k (lp aSwO k (0, M))).2 4 i = M 4 i')
    generalize lp aSwO k (0, M) = p at g1 g2 g3 g4 g5 ⊢
    unfold aSwO
    split
    · have hf := aSwF_lp k p.1 4 (u2 (u2 (u2 p.2 2 p.1 (p.2 2 (k : Int))) 3 p.1 (p.2 3 (k : Int))) 4 p.1 (p.2 4 (k : Int)))
      generalize lp (aSwF k p.1) 4 (u2 (u2 (u2 p.2 2 p.1 (p.2 2 (k : Int))) 3 p.1 (p.2 3 (k : Int))) 4 p.1 (p.2 4 (k : Int))) = N at hf ⊢
      have c2 := fun i => hf 2 i rfl
      have c3 := fun i => hf 3 i rfl
      have c4 := fun i => hf 4 i rfl
      refine ⟨fun j i hj => ?_, by show 0 ≤ p.1 + 1; omega, by show p.1 + 1 ≤ _; omega, fun j i hj hi => ?_, fun i h0 h1 => ?_⟩
      · refine (hf j i ?_).trans (((g1.u rfl _ _).u rfl _ _).u rfl _ _ j i hj)
        simp at hj ⊢
        omega
      · have hi : p.1 + 1 ≤ i := hi
        have hne : i ≠ p.1 := by omega
        rcases hj with rfl | rfl | rfl
        · exact (c2 i).trans ((u2_n _ _ (Or.inl (by decide))).trans ((u2_n _ _ (Or.inl (by decide))).trans ((u2_n _ _ (Or.inr hne)).trans (g4 2 i (by omega) (by omega)))))
        · exact (c3 i).trans ((u2_n _ _ (Or.inl (by decide))).trans ((u2_n _ _ (Or.inr hne)).trans ((u2_n _ _ (Or.inl (by decide))).trans (g4 3 i (by omega) (by omega)))))
        · exact (c4 i).trans ((u2_n _ _ (Or.inr hne)).trans ((u2_n _ _ (Or.inl (by decide))).trans ((u2_n _ _ (Or.inl (by decide))).trans (g4 4 i (by omega) (by omega)))))
      · have h1 : i < p.1 + 1 := h1
        by_cases e : i = p.1
        · subst e
          refine ⟨(k : Int), by omega, by omega, ?_, ?_⟩
          · exact (c3 _).trans ((u2_n _ _ (Or.inl (by decide))).trans ((u2_s _ _ _ _).trans (g4 3 _ (by omega) (by omega))))
          · exact (c4 _).trans ((u2_s _ _ _ _).trans (g4 4 _ (by omega) (by omega)))
        · obtain ⟨i', a1, a2, a3, a4⟩ := g5 i h0 (by omega)
          refine ⟨i', a1, by omega, ?_, ?_⟩
          · exact (c3 _).trans ((u2_n _ _ (Or.inl (by decide))).trans ((u2_n _ _ (Or.inr e)).trans ((u2_n _ _ (Or.inl (by decide))).trans a3)))
          · exact (c4 _).trans ((u2_n _ _ (Or.inr e)).trans ((u2_n _ _ (Or.inl (by decide))).trans ((u2_n _ _ (Or.inl (by decide))).trans a4)))
    · refine ⟨g1, g2, by show p.1 ≤ _; omega, g4, fun i h0 h1 => ?_⟩
      obtain ⟨i', a1, a2, a3, a4⟩ := g5 i h0 h1
      exact ⟨i', a1, by omega, a3, a4⟩
theorem aSweep_ok {M : MM} (hB : BW M) : BW (aSweep M).2 ∧ (∀ q, q ≠ 0 → (aSweep M).2 13 q = M 13 q) := by
  obtain ⟨g1, g2, g3, g4, g5⟩ := aSwO_lp (M := M) (M 13 0).toNat
  unfold aSweep
  generalize lp aSwO (M 13 0).toNat (0, M) = p at g1 g2 g3 g4 g5 ⊢
  have e : ∀ q, q ≠ 0 → u2 p.2 13 0 p.1 13 q = M 13 q := fun q hq => (u2_n _ _ (Or.inr hq)).trans (g1 13 q rfl)
  refine ⟨?_, e⟩
  obtain ⟨k1, k2, k3, k4⟩ := hB
  show BW (u2 p.2 13 0 p.1)
  unfold BW
  rw [e 1 (by decide), e 2 (by decide), e 3 (by decide), e 4 (by decide), u2_s]
  refine ⟨by omega, k2, fun i a b => ?_, k4⟩
  rw [u2_n _ _ (Or.inl (by decide)), u2_n _ _ (Or.inl (by decide))]
  obtain ⟨i', a1, a2, a3, a4⟩ := g5 i a b
  rw [a3, a4]
  exact k3 i' a1 (by omega)
end
section
/-! the reference's methods, walked: loosening, calling, sweeping, a whole collection -/
section M4
variable {d m : Nat} {S0 S : MS} {M : MM} {Q : Option MV → MS → Prop}
set_option maxHeartbeats 1000000 in
theorem M_ls_i {o : Nat} (hB : BW M) (ho : (o : Int) < M 13 0)
    (K : ∀ (S : MS) (x3 : Option MV), MO m S0 S (lp (aLsE o) (M 4 (o : Int)).toNat (0, M)).2 → XQ (d + 2) k_M_loosen 176 [some (.inr (some m)), some (.inl (o : Int)), some (.inl (lp (aLsE o) (M 4 (o : Int)).toNat (0, M)).1), x3] [] S Q) :
    ∀ (j e : Nat) (S : MS), ((e + j : Nat) : Int) = M 4 (o : Int) → MO m S0 S (lp (aLsE o) e (0, M)).2 → XQ (d + 2) k_M_loosen 80 [some (.inr (some m)), some (.inl (o : Int)), some (.inl (lp (aLsE o) e (0, M)).1), some (.inl (e : Int))] [] S Q := by
  have hb := hB.1
  have hm := hB.2.2.1 o (by omega) ho
  intro j
  induction j with
  | zero =>
    intro e S he hM
    have ee : (M 4 (o : Int)).toNat = e := by omega
    rw [ee] at K
    obtain ⟨hoff, -, -⟩ := aLsE_lp o M e
    have e4 := hoff 4 (o : Int) rfl
    have K2 := K S (some (.inl (e : Int))) hM
    repeat (first | refine XQ.go rfl rfl ?_ | refine XQ.zeq0 rfl ?_ | refine XQ.zeq1 rfl ?_ | refine XQ.zne0 rfl ?_ | refine XQ.zne1 rfl ?_ | refine XQ.mg hM rfl rfl ?_ | refine XQ.ml hM rfl rfl (by decide) (by omega) (by simp only [mLen]; omega) ?_ | refine XQ.add rfl ⟨by omega, by omega⟩ ?_ | refine XQ.sub rfl ⟨by omega, by omega⟩ ?_ | refine XQ.mul rfl ⟨by omega, by omega⟩ ?_ | refine XQ.inc rfl rfl rfl ⟨by omega, by omega⟩ ?_ | refine XQ.ms hM rfl rfl (by decide) (by omega) (by simp only [mLen]; omega) (fun S hM => ?_) | refine XQ.mp hM rfl rfl (fun S hM => ?_))
    refine XQ.cge rfl (fun q => ?_) (fun q => by omega)
    exact K2
  | succ j ih =>
    intro e S he hM
    obtain ⟨hoff, hl0, hl1⟩ := aLsE_lp o M e
    have e4 := hoff 4 (o : Int) rfl
    have hBp := hB.offS hoff rfl rfl rfl
    have en : lp (aLsE o) (e + 1) (0, M) = aLsE o e (lp (aLsE o) e (0, M)) := rfl
    have ih2 := fun S hM => ih (e + 1) S (by omega) hM
    rw [en] at ih2
    generalize lp (aLsE o) e (0, M) = p at hM hoff hl0 hl1 e4 hBp ih2 ⊢
    repeat (first | refine XQ.go rfl rfl ?_ | refine XQ.zeq0 rfl ?_ | refine XQ.zeq1 rfl ?_ | refine XQ.zne0 rfl ?_ | refine XQ.zne1 rfl ?_ | refine XQ.mg hM rfl rfl ?_ | refine XQ.ml hM rfl rfl (by decide) (by omega) (by simp only [mLen]; omega) ?_ | refine XQ.add rfl ⟨by omega, by omega⟩ ?_ | refine XQ.sub rfl ⟨by omega, by omega⟩ ?_ | refine XQ.mul rfl ⟨by omega, by omega⟩ ?_ | refine XQ.inc rfl rfl rfl ⟨by omega, by omega⟩ ?_ | refine XQ.ms hM rfl rfl (by decide) (by omega) (by simp only [mLen]; omega) (fun S hM => ?_) | refine XQ.mp hM rfl rfl (fun S hM => ?_))
    refine XQ.cge rfl (fun q => by omega) (fun q => ?_)
    repeat (first | refine XQ.go rfl rfl ?_ | refine XQ.zeq0 rfl ?_ | refine XQ.zeq1 rfl ?_ | refine XQ.zne0 rfl ?_ | refine XQ.zne1 rfl ?_ | refine XQ.mg hM rfl rfl ?_ | refine XQ.ml hM rfl rfl (by decide) (by omega) (by simp only [mLen]; omega) ?_ | refine XQ.add rfl ⟨by omega, by omega⟩ ?_ | refine XQ.sub rfl ⟨by omega, by omega⟩ ?_ | refine XQ.mul rfl ⟨by omega, by omega⟩ ?_ | refine XQ.inc rfl rfl rfl ⟨by omega, by omega⟩ ?_ | refine XQ.ms hM rfl rfl (by decide) (by omega) (by simp only [mLen]; omega) (fun S hM => ?_) | refine XQ.mp hM rfl rfl (fun S hM => ?_))
    refine XQ.v2 rfl hM.1.1 rfl (le8 rfl) (M_isMarked hM hBp.1) (fun r S' hq => ?_)
    obtain ⟨rfl, rfl⟩ := hq
    refine XQ.zeq rfl (fun q1 => ?_) (fun q1 => ?_)
    · have e1 : aLsE o e p = p := by unfold aLsE; rw [if_neg (by rw [bI_0 q1]; decide)]
      rw [e1] at ih2
      have ih3 := ih2 _ hM
      repeat (first | exact ih3 | refine XQ.go rfl rfl ?_ | refine XQ.zeq0 rfl ?_ | refine XQ.zeq1 rfl ?_ | refine XQ.zne0 rfl ?_ | refine XQ.zne1 rfl ?_ | refine XQ.mg hM rfl rfl ?_ | refine XQ.ml hM rfl rfl (by decide) (by omega) (by simp only [mLen]; omega) ?_ | refine XQ.add rfl ⟨by omega, by omega⟩ ?_ | refine XQ.sub rfl ⟨by omega, by omega⟩ ?_ | refine XQ.mul rfl ⟨by omega, by omega⟩ ?_ | refine XQ.inc rfl rfl rfl ⟨by omega, by omega⟩ ?_ | refine XQ.ms hM rfl rfl (by decide) (by omega) (by simp only [mLen]; omega) (fun S hM => ?_) | refine XQ.mp hM rfl rfl (fun S hM => ?_))
    · have e1 : aLsE o e p = (p.1 + 1, u2 (u2 (u2 p.2 7 (4 * (o : Int) + p.1) (p.2 7 (4 * (o : Int) + e))) 5 (4 * (o : Int) + p.1) (p.2 5 (4 * (o : Int) + e))) 6 (4 * (o : Int) + p.1) (p.2 6 (4 * (o : Int) + e))) := by unfold aLsE; rw [if_pos (bI_1 q1)]
      rw [e1] at ih2
      repeat (first | exact ih2 _ hM | refine XQ.go rfl rfl ?_ | refine XQ.zeq0 rfl ?_ | refine XQ.zeq1 rfl ?_ | refine XQ.zne0 rfl ?_ | refine XQ.zne1 rfl ?_ | refine XQ.mg hM rfl rfl ?_ | refine XQ.ml hM rfl rfl (by decide) (by omega) (by simp only [mLen]; omega) ?_ | refine XQ.add rfl ⟨by omega, by omega⟩ ?_ | refine XQ.sub rfl ⟨by omega, by omega⟩ ?_ | refine XQ.mul rfl ⟨by omega, by omega⟩ ?_ | refine XQ.inc rfl rfl rfl ⟨by omega, by omega⟩ ?_ | refine XQ.ms hM rfl rfl (by decide) (by omega) (by simp only [mLen]; omega) (fun S hM => ?_) | refine XQ.mp hM rfl rfl (fun S hM => ?_))
theorem M_ls_o (hB : BW M) : ∀ (j o : Nat) (S : MS) (x2 x3 : Option MV), ((o + j : Nat) : Int) = M 13 0 → MO m S0 S (lp aLsS o M) → XQ (d + 2) k_M_loosen 2 [some (.inr (some m)), some (.inl (o : Int)), x2, x3] [] S (fun r S' => r = none ∧ MO m S0 S' (aLoose M)) := by
  have hb := hB.1
  intro j
  induction j with
  | zero =>
    intro o S x2 x3 ho hM
    have e : aLoose M = lp aLsS o M := by unfold aLoose; rw [← ho]; rfl
    obtain ⟨-, hoff⟩ := aLoose_lp hB o (by omega)
    have e0 := hoff 13 0 rfl
    rw [e]
    repeat (first | refine XQ.go rfl rfl ?_ | refine XQ.zeq0 rfl ?_ | refine XQ.zeq1 rfl ?_ | refine XQ.zne0 rfl ?_ | refine XQ.zne1 rfl ?_ | refine XQ.mg hM rfl rfl ?_ | refine XQ.ml hM rfl rfl (by decide) (by omega) (by simp only [mLen]; omega) ?_ | refine XQ.add rfl ⟨by omega, by omega⟩ ?_ | refine XQ.sub rfl ⟨by omega, by omega⟩ ?_ | refine XQ.mul rfl ⟨by omega, by omega⟩ ?_ | refine XQ.inc rfl rfl rfl ⟨by omega, by omega⟩ ?_ | refine XQ.ms hM rfl rfl (by decide) (by omega) (by simp only [mLen]; omega) (fun S hM => ?_) | refine XQ.mp hM rfl rfl (fun S hM => ?_))
    refine XQ.cge rfl (fun q => ?_) (fun q => by omega)
    exact XQ.ret rfl rfl ⟨rfl, hM⟩
  | succ j ih =>
    intro o S x2 x3 ho hM
    obtain ⟨hBp, hoff⟩ := aLoose_lp hB o (by omega)
    have e0 := hoff 13 0 rfl
    have en : lp aLsS (o + 1) M = aLsT o (aLsW o (lp aLsS o M)) := rfl
    have ih2 := fun S x2 x3 hM => ih (o + 1) S x2 x3 (by omega) hM
    rw [en] at ih2
    generalize lp aLsS o M = N at hM hoff hBp e0 ih2 ⊢
    have hk := hBp.1
    have w0 := aLsW_off o N
    have hBw := hBp.offS w0 rfl rfl rfl
    have hmw := hBw.2.2.1 o (by omega) (by rw [w0 13 0 rfl]; omega)
    -- the second half, from 66 on
    have k66 : ∀ S x2 x3, MO m S0 S (aLsW o N) → XQ (d + 2) k_M_loosen 66 [some (.inr (some m)), some (.inl (o : Int)), x2, x3] [] S (fun r S' => r = none ∧ MO m S0 S' (aLoose M)) := by
      intro S x2 x3 hM
      have w13 := w0 13 0 rfl
      generalize aLsW o N = N1 at hM ih2 hBw hmw w13
      repeat (first | refine XQ.go rfl rfl ?_ | refine XQ.zeq0 rfl ?_ | refine XQ.zeq1 rfl ?_ | refine XQ.zne0 rfl ?_ | refine XQ.zne1 rfl ?_ | refine XQ.mg hM rfl rfl ?_ | refine XQ.ml hM rfl rfl (by decide) (by omega) (by simp only [mLen]; omega) ?_ | refine XQ.add rfl ⟨by omega, by omega⟩ ?_ | refine XQ.sub rfl ⟨by omega, by omega⟩ ?_ | refine XQ.mul rfl ⟨by omega, by omega⟩ ?_ | refine XQ.inc rfl rfl rfl ⟨by omega, by omega⟩ ?_ | refine XQ.ms hM rfl rfl (by decide) (by omega) (by simp only [mLen]; omega) (fun S hM => ?_) | refine XQ.mp hM rfl rfl (fun S hM => ?_))
      refine XQ.cne rfl (fun q => ?_) (fun q => ?_)
      · have e1 : aLsT o N1 = N1 := by unfold aLsT; rw [if_neg q]
        rw [e1] at ih2
        have ih3 := ih2 S x2 x3 hM
        repeat (first | exact ih3 | refine XQ.go rfl rfl ?_ | refine XQ.zeq0 rfl ?_ | refine XQ.zeq1 rfl ?_ | refine XQ.zne0 rfl ?_ | refine XQ.zne1 rfl ?_ | refine XQ.mg hM rfl rfl ?_ | refine XQ.ml hM rfl rfl (by decide) (by omega) (by simp only [mLen]; omega) ?_ | refine XQ.add rfl ⟨by omega, by omega⟩ ?_ | refine XQ.sub rfl ⟨by omega, by omega⟩ ?_ | refine XQ.mul rfl ⟨by omega, by omega⟩ ?_ | refine XQ.inc rfl rfl rfl ⟨by omega, by omega⟩ ?_ | refine XQ.ms hM rfl rfl (by decide) (by omega) (by simp only [mLen]; omega) (fun S hM => ?_) | refine XQ.mp hM rfl rfl (fun S hM => ?_))
      · have e1 : aLsT o N1 = u2 (lp (aLsE o) (N1 4 (o : Int)).toNat (0, N1)).2 4 (o : Int) (lp (aLsE o) (N1 4 (o : Int)).toNat (0, N1)).1 := by unfold aLsT; rw [if_pos q]
        rw [e1] at ih2
        have hi := M_ls_i (d := d) (m := m) (S0 := S0) (Q := fun r S' => r = none ∧ MO m S0 S' (aLoose M)) (o := o) hBw (by omega) (fun S x3 hM => by
          repeat (first | refine XQ.go rfl rfl ?_ | refine XQ.mg hM rfl rfl ?_)
          refine XQ.ms hM rfl rfl (by decide) (by omega) (by simp only [mLen]; omega) (fun S hM => ?_)
          have ih3 := ih2 S (some (.inl (lp (aLsE o) (N1 4 (o : Int)).toNat (0, N1)).1)) x3 hM
          refine XQ.inc rfl rfl rfl ⟨by omega, by omega⟩ ?_
          refine XQ.go rfl rfl ?_
          exact ih3) (N1 4 (o : Int)).toNat 0 S (by omega) hM
        repeat (first | exact hi | refine XQ.go rfl rfl ?_ | refine XQ.zeq0 rfl ?_ | refine XQ.zeq1 rfl ?_ | refine XQ.zne0 rfl ?_ | refine XQ.zne1 rfl ?_ | refine XQ.mg hM rfl rfl ?_ | refine XQ.ml hM rfl rfl (by decide) (by omega) (by simp only [mLen]; omega) ?_ | refine XQ.add rfl ⟨by omega, by omega⟩ ?_ | refine XQ.sub rfl ⟨by omega, by omega⟩ ?_ | refine XQ.mul rfl ⟨by omega, by omega⟩ ?_ | refine XQ.inc rfl rfl rfl ⟨by omega, by omega⟩ ?_ | refine XQ.ms hM rfl rfl (by decide) (by omega) (by simp only [mLen]; omega) (fun S hM => ?_) | refine XQ.mp hM rfl rfl (fun S hM => ?_))
    repeat (first | refine XQ.go rfl rfl ?_ | refine XQ.zeq0 rfl ?_ | refine XQ.zeq1 rfl ?_ | refine XQ.zne0 rfl ?_ | refine XQ.zne1 rfl ?_ | refine XQ.mg hM rfl rfl ?_ | refine XQ.ml hM rfl rfl (by decide) (by omega) (by simp only [mLen]; omega) ?_ | refine XQ.add rfl ⟨by omega, by omega⟩ ?_ | refine XQ.sub rfl ⟨by omega, by omega⟩ ?_ | refine XQ.mul rfl ⟨by omega, by omega⟩ ?_ | refine XQ.inc rfl rfl rfl ⟨by omega, by omega⟩ ?_ | refine XQ.ms hM rfl rfl (by decide) (by omega) (by simp only [mLen]; omega) (fun S hM => ?_) | refine XQ.mp hM rfl rfl (fun S hM => ?_))
    refine XQ.cge rfl (fun q => by omega) (fun q => ?_)
    repeat (first | refine XQ.go rfl rfl ?_ | refine XQ.zeq0 rfl ?_ | refine XQ.zeq1 rfl ?_ | refine XQ.zne0 rfl ?_ | refine XQ.zne1 rfl ?_ | refine XQ.mg hM rfl rfl ?_ | refine XQ.ml hM rfl rfl (by decide) (by omega) (by simp only [mLen]; omega) ?_ | refine XQ.add rfl ⟨by omega, by omega⟩ ?_ | refine XQ.sub rfl ⟨by omega, by omega⟩ ?_ | refine XQ.mul rfl ⟨by omega, by omega⟩ ?_ | refine XQ.inc rfl rfl rfl ⟨by omega, by omega⟩ ?_ | refine XQ.ms hM rfl rfl (by decide) (by omega) (by simp only [mLen]; omega) (fun S hM => ?_) | refine XQ.mp hM rfl rfl (fun S hM => ?_))
    refine XQ.cne rfl (fun q1 => ?_) (fun q1 => ?_)
    · have e1 : aLsW o N = N := by unfold aLsW; rw [if_neg (fun z => q1 z.1)]
      rw [e1] at k66
      exact k66 _ _ _ hM
    · repeat (first | refine XQ.go rfl rfl ?_ | refine XQ.zeq0 rfl ?_ | refine XQ.zeq1 rfl ?_ | refine XQ.zne0 rfl ?_ | refine XQ.zne1 rfl ?_ | refine XQ.mg hM rfl rfl ?_ | refine XQ.ml hM rfl rfl (by decide) (by omega) (by simp only [mLen]; omega) ?_ | refine XQ.add rfl ⟨by omega, by omega⟩ ?_ | refine XQ.sub rfl ⟨by omega, by omega⟩ ?_ | refine XQ.mul rfl ⟨by omega, by omega⟩ ?_ | refine XQ.inc rfl rfl rfl ⟨by omega, by omega⟩ ?_ | refine XQ.ms hM rfl rfl (by decide) (by omega) (by simp only [mLen]; omega) (fun S hM => ?_) | refine XQ.mp hM rfl rfl (fun S hM => ?_))
      refine XQ.cne rfl (fun q2 => ?_) (fun q2 => ?_)
      · have e1 : aLsW o N = N := by unfold aLsW; rw [if_neg (fun z => q2 z.2.1)]
        rw [e1] at k66
        exact k66 _ _ _ hM
      · repeat (first | refine XQ.go rfl rfl ?_ | refine XQ.zeq0 rfl ?_ | refine XQ.zeq1 rfl ?_ | refine XQ.zne0 rfl ?_ | refine XQ.zne1 rfl ?_ | refine XQ.mg hM rfl rfl ?_ | refine XQ.ml hM rfl rfl (by decide) (by omega) (by simp only [mLen]; omega) ?_ | refine XQ.add rfl ⟨by omega, by omega⟩ ?_ | refine XQ.sub rfl ⟨by omega, by omega⟩ ?_ | refine XQ.mul rfl ⟨by omega, by omega⟩ ?_ | refine XQ.inc rfl rfl rfl ⟨by omega, by omega⟩ ?_ | refine XQ.ms hM rfl rfl (by decide) (by omega) (by simp only [mLen]; omega) (fun S hM => ?_) | refine XQ.mp hM rfl rfl (fun S hM => ?_))
        refine XQ.v2 rfl hM.1.1 rfl (le8 rfl) (M_isMarked hM hBp.1) (fun r S' hq => ?_)
        obtain ⟨rfl, rfl⟩ := hq
        refine XQ.zne rfl (fun q3 => ?_) (fun q3 => ?_)
        · have e1 : aLsW o N = N := by unfold aLsW; rw [if_neg (fun z => by rw [bI_1 q3] at z; cases z.2.2)]
          rw [e1] at k66
          exact k66 _ _ _ hM
        · have e1 : aLsW o N = u2 (u2 N 5 (4 * (o : Int)) 0) 6 (4 * (o : Int)) 0 := by unfold aLsW; rw [if_pos ⟨q1, q2, bI_0 q3⟩]
          rw [e1] at k66
          repeat (first | exact k66 _ _ _ hM | refine XQ.go rfl rfl ?_ | refine XQ.zeq0 rfl ?_ | refine XQ.zeq1 rfl ?_ | refine XQ.zne0 rfl ?_ | refine XQ.zne1 rfl ?_ | refine XQ.mg hM rfl rfl ?_ | refine XQ.ml hM rfl rfl (by decide) (by omega) (by simp only [mLen]; omega) ?_ | refine XQ.add rfl ⟨by omega, by omega⟩ ?_ | refine XQ.sub rfl ⟨by omega, by omega⟩ ?_ | refine XQ.mul rfl ⟨by omega, by omega⟩ ?_ | refine XQ.inc rfl rfl rfl ⟨by omega, by omega⟩ ?_ | refine XQ.ms hM rfl rfl (by decide) (by omega) (by simp only [mLen]; omega) (fun S hM => ?_) | refine XQ.mp hM rfl rfl (fun S hM => ?_))
theorem M_loosen (hM : MO m S0 S M) (hB : BW M) : XQ (d + 2) k_M_loosen 0 (mentry (mL k_M_loosen) [.inr (some m)]) [] S (fun r S' => r = none ∧ MO m S0 S' (aLoose M)) := by
  have h0 := M_ls_o (d := d) (m := m) (S0 := S0) hB (M 13 0).toNat 0 S none none (by have := hB.1; omega) hM
  repeat (first | exact h0 | refine XQ.go rfl rfl ?_ | refine XQ.zeq0 rfl ?_ | refine XQ.zeq1 rfl ?_ | refine XQ.zne0 rfl ?_ | refine XQ.zne1 rfl ?_ | refine XQ.mg hM rfl rfl ?_ | refine XQ.ml hM rfl rfl (by decide) (by omega) (by simp only [mLen]; omega) ?_ | refine XQ.add rfl ⟨by omega, by omega⟩ ?_ | refine XQ.sub rfl ⟨by omega, by omega⟩ ?_ | refine XQ.mul rfl ⟨by omega, by omega⟩ ?_ | refine XQ.inc rfl rfl rfl ⟨by omega, by omega⟩ ?_ | refine XQ.ms hM rfl rfl (by decide) (by omega) (by simp only [mLen]; omega) (fun S hM => ?_) | refine XQ.mp hM rfl rfl (fun S hM => ?_))
theorem M_cw_l (hB : BW M) : ∀ (j k : Nat) (S : MS), ((k + j : Nat) : Int) = M 13 2 → MO m S0 S (lp aCwK k (0, M)).2 → XQ (d + 2) k_M_callWaiting 4 [some (.inr (some m)), some (.inl (lp aCwK k (0, M)).1), some (.inl (k : Int))] [] S (fun r S' => r = none ∧ MO m S0 S' (aCallW M)) := by
  have hb := hB.1
  have hb2 := hB.2.1
  intro j
  induction j with
  | zero =>
    intro k S hk hM
    have e : aCallW M = u2 (lp aCwK k (0, M)).2 13 2 (lp aCwK k (0, M)).1 := by unfold aCallW; rw [← hk]; rfl
    obtain ⟨g1, g2, g3, g4, g5⟩ := aCwK_lp (M := M) k
    have e2 := g4 2 (by decide)
    rw [e]
    repeat (first | refine XQ.go rfl rfl ?_ | refine XQ.mg hM rfl rfl ?_)
    refine XQ.cge rfl (fun q => ?_) (fun q => by omega)
    repeat (first | refine XQ.go rfl rfl ?_ | refine XQ.zeq0 rfl ?_ | refine XQ.zeq1 rfl ?_ | refine XQ.zne0 rfl ?_ | refine XQ.zne1 rfl ?_ | refine XQ.mg hM rfl rfl ?_ | refine XQ.ml hM rfl rfl (by decide) (by omega) (by simp only [mLen]; omega) ?_ | refine XQ.add rfl ⟨by omega, by omega⟩ ?_ | refine XQ.sub rfl ⟨by omega, by omega⟩ ?_ | refine XQ.mul rfl ⟨by omega, by omega⟩ ?_ | refine XQ.inc rfl rfl rfl ⟨by omega, by omega⟩ ?_ | refine XQ.ms hM rfl rfl (by decide) (by omega) (by simp only [mLen]; omega) (fun S hM => ?_) | refine XQ.mp hM rfl rfl (fun S hM => ?_))
    exact XQ.ret rfl rfl ⟨rfl, hM⟩
  | succ j ih =>
    intro k S hk hM
    obtain ⟨g1, g2, g3, g4, g5⟩ := aCwK_lp (M := M) k
    have e2 := g4 2 (by decide)
    have e0 := g4 0 (by decide)
    have en : lp aCwK (k + 1) (0, M) = aCwK k (lp aCwK k (0, M)) := rfl
    have ih2 := fun S hM => ih (k + 1) S (by omega) hM
    rw [en] at ih2
    generalize lp aCwK k (0, M) = p at hM g1 g2 g3 g5 e2 e0 ih2 ⊢
    have hN : BN p.2 := by unfold BN; omega
    repeat (first | refine XQ.go rfl rfl ?_ | refine XQ.zeq0 rfl ?_ | refine XQ.zeq1 rfl ?_ | refine XQ.zne0 rfl ?_ | refine XQ.zne1 rfl ?_ | refine XQ.mg hM rfl rfl ?_ | refine XQ.ml hM rfl rfl (by decide) (by omega) (by simp only [mLen]; omega) ?_ | refine XQ.add rfl ⟨by omega, by omega⟩ ?_ | refine XQ.sub rfl ⟨by omega, by omega⟩ ?_ | refine XQ.mul rfl ⟨by omega, by omega⟩ ?_ | refine XQ.inc rfl rfl rfl ⟨by omega, by omega⟩ ?_ | refine XQ.ms hM rfl rfl (by decide) (by omega) (by simp only [mLen]; omega) (fun S hM => ?_) | refine XQ.mp hM rfl rfl (fun S hM => ?_))
    refine XQ.cge rfl (fun q => by omega) (fun q => ?_)
    repeat (first | refine XQ.go rfl rfl ?_ | refine XQ.zeq0 rfl ?_ | refine XQ.zeq1 rfl ?_ | refine XQ.zne0 rfl ?_ | refine XQ.zne1 rfl ?_ | refine XQ.mg hM rfl rfl ?_ | refine XQ.ml hM rfl rfl (by decide) (by omega) (by simp only [mLen]; omega) ?_ | refine XQ.add rfl ⟨by omega, by omega⟩ ?_ | refine XQ.sub rfl ⟨by omega, by omega⟩ ?_ | refine XQ.mul rfl ⟨by omega, by omega⟩ ?_ | refine XQ.inc rfl rfl rfl ⟨by omega, by omega⟩ ?_ | refine XQ.ms hM rfl rfl (by decide) (by omega) (by simp only [mLen]; omega) (fun S hM => ?_) | refine XQ.mp hM rfl rfl (fun S hM => ?_))
    refine XQ.v2 rfl hM.1.1 rfl (le8 rfl) (M_isMarked hM hN) (fun r S' hq => ?_)
    obtain ⟨rfl, rfl⟩ := hq
    refine XQ.zeq rfl (fun q1 => ?_) (fun q1 => ?_)
    · have e1 : aCwK k p = (p.1, u2 (u2 (u2 p.2 11 (p.2 13 3) (p.2 9 (k : Int))) 12 (p.2 13 3) (p.2 10 (k : Int))) 13 3 (p.2 13 3 + 1)) := by unfold aCwK; rw [if_neg (by rw [bI_0 q1]; decide)]
      rw [e1] at ih2
      repeat (first | refine XQ.go rfl rfl ?_ | refine XQ.mg hM rfl rfl ?_)
      refine XQ.ml hM rfl rfl (by decide) (by omega) (by simp only [mLen]; omega) ?_
      refine XQ.ms hM rfl rfl (by decide) (by omega) (by simp only [mLen]; omega) (fun S hM => ?_)
      have u3 : u2 p.2 11 (p.2 13 3) (p.2 9 (k : Int)) 13 3 = p.2 13 3 := rfl
      repeat (first | refine XQ.go rfl rfl ?_ | refine XQ.mg hM rfl rfl ?_)
      refine XQ.ml hM rfl rfl (by decide) (by omega) (by simp only [mLen]; omega) ?_
      refine XQ.ms hM rfl rfl (by decide) (by omega) (by simp only [mLen]; omega) (fun S hM => ?_)
      have u4 : u2 (u2 p.2 11 (p.2 13 3) (p.2 9 (k : Int))) 12 (p.2 13 3) (p.2 10 (k : Int)) 13 3 = p.2 13 3 := rfl
      repeat (first | refine XQ.go rfl rfl ?_ | refine XQ.mg hM rfl rfl ?_)
      refine XQ.add rfl (show inR (p.2 13 3 + 1) from ⟨by omega, by omega⟩) ?_
      refine XQ.mp hM rfl rfl (fun S hM => ?_)
      have ih3 := ih2 S hM
      repeat (first | exact ih3 | refine XQ.go rfl rfl ?_ | refine XQ.zeq0 rfl ?_ | refine XQ.zeq1 rfl ?_ | refine XQ.zne0 rfl ?_ | refine XQ.zne1 rfl ?_ | refine XQ.mg hM rfl rfl ?_ | refine XQ.ml hM rfl rfl (by decide) (by omega) (by simp only [mLen]; omega) ?_ | refine XQ.add rfl ⟨by omega, by omega⟩ ?_ | refine XQ.sub rfl ⟨by omega, by omega⟩ ?_ | refine XQ.mul rfl ⟨by omega, by omega⟩ ?_ | refine XQ.inc rfl rfl rfl ⟨by omega, by omega⟩ ?_ | refine XQ.ms hM rfl rfl (by decide) (by omega) (by simp only [mLen]; omega) (fun S hM => ?_) | refine XQ.mp hM rfl rfl (fun S hM => ?_))
    · have e1 : aCwK k p = (p.1 + 1, u2 (u2 p.2 9 p.1 (p.2 9 (k : Int))) 10 p.1 (p.2 10 (k : Int))) := by unfold aCwK; rw [if_pos (bI_1 q1)]
      rw [e1] at ih2
      repeat (first | exact ih2 _ hM | refine XQ.go rfl rfl ?_ | refine XQ.zeq0 rfl ?_ | refine XQ.zeq1 rfl ?_ | refine XQ.zne0 rfl ?_ | refine XQ.zne1 rfl ?_ | refine XQ.mg hM rfl rfl ?_ | refine XQ.ml hM rfl rfl (by decide) (by omega) (by simp only [mLen]; omega) ?_ | refine XQ.add rfl ⟨by omega, by omega⟩ ?_ | refine XQ.sub rfl ⟨by omega, by omega⟩ ?_ | refine XQ.mul rfl ⟨by omega, by omega⟩ ?_ | refine XQ.inc rfl rfl rfl ⟨by omega, by omega⟩ ?_ | refine XQ.ms hM rfl rfl (by decide) (by omega) (by simp only [mLen]; omega) (fun S hM => ?_) | refine XQ.mp hM rfl rfl (fun S hM => ?_))
theorem M_callWaiting (hM : MO m S0 S M) (hB : BW M) : XQ (d + 2) k_M_callWaiting 0 (mentry (mL k_M_callWaiting) [.inr (some m)]) [] S (fun r S' => r = none ∧ MO m S0 S' (aCallW M)) := by
  have h0 := M_cw_l (d := d) (m := m) (S0 := S0) hB (M 13 2).toNat 0 S (by have := hB.2.1; omega) hM
  repeat (first | exact h0 | refine XQ.go rfl rfl ?_ | refine XQ.zeq0 rfl ?_ | refine XQ.zeq1 rfl ?_ | refine XQ.zne0 rfl ?_ | refine XQ.zne1 rfl ?_ | refine XQ.mg hM rfl rfl ?_ | refine XQ.ml hM rfl rfl (by decide) (by omega) (by simp only [mLen]; omega) ?_ | refine XQ.add rfl ⟨by omega, by omega⟩ ?_ | refine XQ.sub rfl ⟨by omega, by omega⟩ ?_ | refine XQ.mul rfl ⟨by omega, by omega⟩ ?_ | refine XQ.inc rfl rfl rfl ⟨by omega, by omega⟩ ?_ | refine XQ.ms hM rfl rfl (by decide) (by omega) (by simp only [mLen]; omega) (fun S hM => ?_) | refine XQ.mp hM rfl rfl (fun S hM => ?_))
theorem M_sw_i {o : Nat} {l : Int} (ho : (o : Int) < 20) (hl0 : 0 ≤ l) (hl1 : l ≤ (o : Int))
    (K : ∀ (S : MS) (x3 : Option MV), MO m S0 S (lp (aSwF o l) 4 M) → XQ d k_M_sweep 130 [some (.inr (some m)), some (.inl l), some (.inl (o : Int)), x3] [] S Q) :
    ∀ (j f : Nat) (S : MS), f + j = 4 → MO m S0 S (lp (aSwF o l) f M) → XQ d k_M_sweep 59 [some (.inr (some m)), some (.inl l), some (.inl (o : Int)), some (.inl (f : Int))] [] S Q := by
  intro j
  induction j with
  | zero =>
    intro f S hf hM
    have ef : f = 4 := by omega
    subst ef
    have K2 := K S (some (.inl ((4 : Nat) : Int))) hM
    repeat (first | refine XQ.go rfl rfl ?_ | refine XQ.zeq0 rfl ?_ | refine XQ.zeq1 rfl ?_ | refine XQ.zne0 rfl ?_ | refine XQ.zne1 rfl ?_ | refine XQ.mg hM rfl rfl ?_ | refine XQ.ml hM rfl rfl (by decide) (by omega) (by simp only [mLen]; omega) ?_ | refine XQ.add rfl ⟨by omega, by omega⟩ ?_ | refine XQ.sub rfl ⟨by omega, by omega⟩ ?_ | refine XQ.mul rfl ⟨by omega, by omega⟩ ?_ | refine XQ.inc rfl rfl rfl ⟨by omega, by omega⟩ ?_ | refine XQ.ms hM rfl rfl (by decide) (by omega) (by simp only [mLen]; omega) (fun S hM => ?_) | refine XQ.mp hM rfl rfl (fun S hM => ?_))
    refine XQ.cge rfl (fun q => ?_) (fun q => by omega)
    exact K2
  | succ j ih =>
    intro f S hf hM
    have en : lp (aSwF o l) (f + 1) M = aSwF o l f (lp (aSwF o l) f M) := rfl
    have ih2 := fun S hM => ih (f + 1) S (by omega) hM
    rw [en] at ih2
    generalize lp (aSwF o l) f M = N at hM ih2
    repeat (first | refine XQ.go rfl rfl ?_ | refine XQ.zeq0 rfl ?_ | refine XQ.zeq1 rfl ?_ | refine XQ.zne0 rfl ?_ | refine XQ.zne1 rfl ?_ | refine XQ.mg hM rfl rfl ?_ | refine XQ.ml hM rfl rfl (by decide) (by omega) (by simp only [mLen]; omega) ?_ | refine XQ.add rfl ⟨by omega, by omega⟩ ?_ | refine XQ.sub rfl ⟨by omega, by omega⟩ ?_ | refine XQ.mul rfl ⟨by omega, by omega⟩ ?_ | refine XQ.inc rfl rfl rfl ⟨by omega, by omega⟩ ?_ | refine XQ.ms hM rfl rfl (by decide) (by omega) (by simp only [mLen]; omega) (fun S hM => ?_) | refine XQ.mp hM rfl rfl (fun S hM => ?_))
    refine XQ.cge rfl (fun q => by omega) (fun q => ?_)
    repeat (first | exact ih2 _ hM | refine XQ.go rfl rfl ?_ | refine XQ.zeq0 rfl ?_ | refine XQ.zeq1 rfl ?_ | refine XQ.zne0 rfl ?_ | refine XQ.zne1 rfl ?_ | refine XQ.mg hM rfl rfl ?_ | refine XQ.ml hM rfl rfl (by decide) (by omega) (by simp only [mLen]; omega) ?_ | refine XQ.add rfl ⟨by omega, by omega⟩ ?_ | refine XQ.sub rfl ⟨by omega, by omega⟩ ?_ | refine XQ.mul rfl ⟨by omega, by omega⟩ ?_ | refine XQ.inc rfl rfl rfl ⟨by omega, by omega⟩ ?_ | refine XQ.ms hM rfl rfl (by decide) (by omega) (by simp only [mLen]; omega) (fun S hM => ?_) | refine XQ.mp hM rfl rfl (fun S hM => ?_))
theorem M_sw_o (hB : BW M) : ∀ (j o : Nat) (S : MS) (x3 : Option MV), ((o + j : Nat) : Int) = M 13 0 → MO m S0 S (lp aSwO o (0, M)).2 → XQ d k_M_sweep 4 [some (.inr (some m)), some (.inl (lp aSwO o (0, M)).1), some (.inl (o : Int)), x3] [] S (fun r S' => r = some (.inl (aSweep M).1) ∧ MO m S0 S' (aSweep M).2) := by
  have hb := hB.1
  intro j
  induction j with
  | zero =>
    intro o S x3 ho hM
    have e : aSweep M = (M 13 0 - (lp aSwO o (0, M)).1, u2 (lp aSwO o (0, M)).2 13 0 (lp aSwO o (0, M)).1) := by unfold aSweep; rw [show (M 13 0).toNat = o by omega]
    obtain ⟨g1, g2, g3, -, -⟩ := aSwO_lp (M := M) o
    have e0 := g1 13 0 rfl
    rw [e, ← e0]
    repeat (first | refine XQ.go rfl rfl ?_ | refine XQ.mg hM rfl rfl ?_)
    refine XQ.cge rfl (fun q => ?_) (fun q => by omega)
    repeat (first | refine XQ.go rfl rfl ?_ | refine XQ.zeq0 rfl ?_ | refine XQ.zeq1 rfl ?_ | refine XQ.zne0 rfl ?_ | refine XQ.zne1 rfl ?_ | refine XQ.mg hM rfl rfl ?_ | refine XQ.ml hM rfl rfl (by decide) (by omega) (by simp only [mLen]; omega) ?_ | refine XQ.add rfl ⟨by omega, by omega⟩ ?_ | refine XQ.sub rfl ⟨by omega, by omega⟩ ?_ | refine XQ.mul rfl ⟨by omega, by omega⟩ ?_ | refine XQ.inc rfl rfl rfl ⟨by omega, by omega⟩ ?_ | refine XQ.ms hM rfl rfl (by decide) (by omega) (by simp only [mLen]; omega) (fun S hM => ?_) | refine XQ.mp hM rfl rfl (fun S hM => ?_))
    exact XQ.ret rfl rfl ⟨rfl, hM⟩
  | succ j ih =>
    intro o S x3 ho hM
    obtain ⟨g1, g2, g3, -, -⟩ := aSwO_lp (M := M) o
    have e0 := g1 13 0 rfl
    have en : lp aSwO (o + 1) (0, M) = aSwO o (lp aSwO o (0, M)) := rfl
    have ih2 := fun S x3 hM => ih (o + 1) S x3 (by omega) hM
    rw [en] at ih2
    generalize lp aSwO o (0, M) = p at hM g1 g2 g3 e0 ih2 ⊢
    repeat (first | refine XQ.go rfl rfl ?_ | refine XQ.zeq0 rfl ?_ | refine XQ.zeq1 rfl ?_ | refine XQ.zne0 rfl ?_ | refine XQ.zne1 rfl ?_ | refine XQ.mg hM rfl rfl ?_ | refine XQ.ml hM rfl rfl (by decide) (by omega) (by simp only [mLen]; omega) ?_ | refine XQ.add rfl ⟨by omega, by omega⟩ ?_ | refine XQ.sub rfl ⟨by omega, by omega⟩ ?_ | refine XQ.mul rfl ⟨by omega, by omega⟩ ?_ | refine XQ.inc rfl rfl rfl ⟨by omega, by omega⟩ ?_ | refine XQ.ms hM rfl rfl (by decide) (by omega) (by simp only [mLen]; omega) (fun S hM => ?_) | refine XQ.mp hM rfl rfl (fun S hM => ?_))
    refine XQ.cge rfl (fun q => by omega) (fun q => ?_)
    repeat (first | refine XQ.go rfl rfl ?_ | refine XQ.zeq0 rfl ?_ | refine XQ.zeq1 rfl ?_ | refine XQ.zne0 rfl ?_ | refine XQ.zne1 rfl ?_ | refine XQ.mg hM rfl rfl ?_ | refine XQ.ml hM rfl rfl (by decide) (by omega) (by simp only [mLen]; omega) ?_ | refine XQ.add rfl ⟨by omega, by omega⟩ ?_ | refine XQ.sub rfl ⟨by omega, by omega⟩ ?_ | refine XQ.mul rfl ⟨by omega, by omega⟩ ?_ | refine XQ.inc rfl rfl rfl ⟨by omega, by omega⟩ ?_ | refine XQ.ms hM rfl rfl (by decide) (by omega) (by simp only [mLen]; omega) (fun S hM => ?_) | refine XQ.mp hM rfl rfl (fun S hM => ?_))
    refine XQ.zeq rfl (fun q1 => ?_) (fun q1 => ?_)
    · have e1 : aSwO o p = p := by unfold aSwO; rw [if_neg (fun z => z q1)]
      rw [e1] at ih2
      have ih3 := ih2 S x3 hM
      repeat (first | exact ih3 | refine XQ.go rfl rfl ?_ | refine XQ.zeq0 rfl ?_ | refine XQ.zeq1 rfl ?_ | refine XQ.zne0 rfl ?_ | refine XQ.zne1 rfl ?_ | refine XQ.mg hM rfl rfl ?_ | refine XQ.ml hM rfl rfl (by decide) (by omega) (by simp only [mLen]; omega) ?_ | refine XQ.add rfl ⟨by omega, by omega⟩ ?_ | refine XQ.sub rfl ⟨by omega, by omega⟩ ?_ | refine XQ.mul rfl ⟨by omega, by omega⟩ ?_ | refine XQ.inc rfl rfl rfl ⟨by omega, by omega⟩ ?_ | refine XQ.ms hM rfl rfl (by decide) (by omega) (by simp only [mLen]; omega) (fun S hM => ?_) | refine XQ.mp hM rfl rfl (fun S hM => ?_))
    · have e1 : aSwO o p = (p.1 + 1, lp (aSwF o p.1) 4 (u2 (u2 (u2 p.2 2 p.1 (p.2 2 (o : Int))) 3 p.1 (p.2 3 (o : Int))) 4 p.1 (p.2 4 (o : Int)))) := by unfold aSwO; rw [if_pos q1]
      rw [e1] at ih2
      have hi := fun S hM => M_sw_i (d := d) (m := m) (S0 := S0) (M := u2 (u2 (u2 p.2 2 p.1 (p.2 2 (o : Int))) 3 p.1 (p.2 3 (o : Int))) 4 p.1 (p.2 4 (o : Int))) (Q := fun r S' => r = some (.inl (aSweep M).1) ∧ MO m S0 S' (aSweep M).2) (o := o) (l := p.1) (by omega) g2 g3 (fun S x3 hM => by
        have ih3 := ih2 S x3 hM
        refine XQ.inc rfl rfl rfl ⟨by omega, by omega⟩ ?_
        refine XQ.inc rfl rfl rfl ⟨by omega, by omega⟩ ?_
        refine XQ.go rfl rfl ?_
        exact ih3) 4 0 S rfl hM
      repeat (first | exact hi _ hM | refine XQ.go rfl rfl ?_ | refine XQ.zeq0 rfl ?_ | refine XQ.zeq1 rfl ?_ | refine XQ.zne0 rfl ?_ | refine XQ.zne1 rfl ?_ | refine XQ.mg hM rfl rfl ?_ | refine XQ.ml hM rfl rfl (by decide) (by omega) (by simp only [mLen]; omega) ?_ | refine XQ.add rfl ⟨by omega, by omega⟩ ?_ | refine XQ.sub rfl ⟨by omega, by omega⟩ ?_ | refine XQ.mul rfl ⟨by omega, by omega⟩ ?_ | refine XQ.inc rfl rfl rfl ⟨by omega, by omega⟩ ?_ | refine XQ.ms hM rfl rfl (by decide) (by omega) (by simp only [mLen]; omega) (fun S hM => ?_) | refine XQ.mp hM rfl rfl (fun S hM => ?_))
theorem M_sweep (hM : MO m S0 S M) (hB : BW M) : XQ d k_M_sweep 0 (mentry (mL k_M_sweep) [.inr (some m)]) [] S (fun r S' => r = some (.inl (aSweep M).1) ∧ MO m S0 S' (aSweep M).2) := by
  have h0 := M_sw_o (d := d) (m := m) (S0 := S0) hB (M 13 0).toNat 0 S none (by have := hB.1; omega) hM
  repeat (first | exact h0 | refine XQ.go rfl rfl ?_ | refine XQ.zeq0 rfl ?_ | refine XQ.zeq1 rfl ?_ | refine XQ.zne0 rfl ?_ | refine XQ.zne1 rfl ?_ | refine XQ.mg hM rfl rfl ?_ | refine XQ.ml hM rfl rfl (by decide) (by omega) (by simp only [mLen]; omega) ?_ | refine XQ.add rfl ⟨by omega, by omega⟩ ?_ | refine XQ.sub rfl ⟨by omega, by omega⟩ ?_ | refine XQ.mul rfl ⟨by omega, by omega⟩ ?_ | refine XQ.inc rfl rfl rfl ⟨by omega, by omega⟩ ?_ | refine XQ.ms hM rfl rfl (by decide) (by omega) (by simp only [mLen]; omega) (fun S hM => ?_) | refine XQ.mp hM rfl rfl (fun S hM => ?_))
end M4
end
section
/-! the reference's methods, walked: a whole collection, making -/
theorem aClear_off (M : MM) : offM M (aClear M) := lp_off (fun i M => offM.rf.u _ _) _
theorem BW.run {M : MM} (h : BW M) (hr : M 13 4 < 100000) : BW (u2 M 13 4 (M 13 4 + 1)) := by
  obtain ⟨h1, h2, h3, h4⟩ := h
  exact ⟨h1, h2, h3, h4.1, h4.2.1, by show 0 ≤ M 13 4 + 1; omega, by show M 13 4 + 1 ≤ 100000; omega⟩
theorem aC1_ok {M : MM} (hB : BW M) (hr : M 13 4 < 100000) : BW (aC1 M) := (hB.run hr).off (aClear_off _)
theorem aC2_ok {M : MM} (hB : BW M) (hr : M 13 4 < 100000) : BW (aC2 M) := ((aC1_ok hB hr).off (aRoots_off _)).off (aClo_off _ _ _)
theorem aLoose_ok {M : MM} (hB : BW M) : BW (aLoose M) ∧ offS [4, 5, 6, 7] M (aLoose M) := aLoose_lp hB (M 13 0).toNat (by have := hB.1; omega)
theorem aC3_ok {M : MM} (hB : BW M) (hr : M 13 4 < 100000) : BW (aC3 M) := (aCallW_ok (aLoose_ok (aC2_ok hB hr)).1).1
theorem aC4_ok {M : MM} (hB : BW M) (hr : M 13 4 < 100000) : BW (aC4 M) := ((aC3_ok hB hr).off (aWaits_off _)).off (aClo_off _ _ _)
theorem aColl_ok {M : MM} (hB : BW M) (hr : M 13 4 < 100000) : BW (aColl M).2 := (aSweep_ok (aC4_ok hB hr)).1
theorem aC4_13 {M : MM} (hB : BW M) (hr : M 13 4 < 100000) : aC4 M 13 1 = M 13 1 ∧ aC4 M 13 4 = M 13 4 + 1 := by
  have a1 := (aClear_off (u2 M 13 4 (M 13 4 + 1))).tr ((aRoots_off _).tr (aClo_off false 21 _))
  have a2 := (aLoose_ok (aC2_ok hB hr)).2
  have a3 := (aCallW_ok (aLoose_ok (aC2_ok hB hr)).1).2.2
  have a4 := (aWaits_off (aC3 M)).tr (aClo_off true 21 _)
  refine ⟨?_, ?_⟩
  · exact (a4 13 1 (by decide)).trans (a3.2.1.trans ((a2 13 1 rfl).trans ((a1 13 1 (by decide)).trans (u2_n _ _ (Or.inr (by decide))))))
  · exact (a4 13 4 (by decide)).trans (a3.2.2.trans ((a2 13 4 rfl).trans ((a1 13 4 (by decide)).trans (u2_s _ _ _ _))))
theorem aColl_13 {M : MM} (hB : BW M) (hr : M 13 4 < 100000) : (aColl M).2 13 1 = M 13 1 ∧ (aColl M).2 13 4 = M 13 4 + 1 := by
  have h1 := (aSweep_ok (aC4_ok hB hr)).2
  have h2 := aC4_13 hB hr
  exact ⟨(h1 1 (by decide)).trans h2.1, (h1 4 (by decide)).trans h2.2⟩
section M5
variable {d m : Nat} {S0 S : MS} {M : MM} {Q : Option MV → MS → Prop}
theorem M_clr {M : MM} (hB : BW M) (K : ∀ (S : MS) (x1 : Option MV), MO m S0 S (aClear M) → XQ d k_M_collect 33 [some (.inr (some m)), x1] [] S Q) : ∀ (j o : Nat) (S : MS), ((o + j : Nat) : Int) = M 13 0 → MO m S0 S (lp (fun o M => u2 M 8 (o : Int) 0) o M) → XQ d k_M_collect 12 [some (.inr (some m)), some (.inl (o : Int))] [] S Q := by
  have hb := hB.1
  intro j
  induction j with
  | zero =>
    intro o S ho hM
    have e : aClear M = lp (fun o M => u2 M 8 (o : Int) 0) o M := by unfold aClear; rw [← ho]; rfl
    rw [e] at K
    have hoff : offM M (lp (fun o M => u2 M 8 (o : Int) 0) o M) := lp_off (fun i M => offM.rf.u _ _) _
    have e0 := hoff 13 0 (by decide)
    repeat (first | refine XQ.go rfl rfl ?_ | refine XQ.zeq0 rfl ?_ | refine XQ.zeq1 rfl ?_ | refine XQ.zne0 rfl ?_ | refine XQ.zne1 rfl ?_ | refine XQ.mg hM rfl rfl ?_ | refine XQ.ml hM rfl rfl (by decide) (by omega) (by simp only [mLen]; omega) ?_ | refine XQ.add rfl ⟨by omega, by omega⟩ ?_ | refine XQ.sub rfl ⟨by omega, by omega⟩ ?_ | refine XQ.mul rfl ⟨by omega, by omega⟩ ?_ | refine XQ.inc rfl rfl rfl ⟨by omega, by omega⟩ ?_ | refine XQ.ms hM rfl rfl (by decide) (by omega) (by simp only [mLen]; omega) (fun S hM => ?_) | refine XQ.mp hM rfl rfl (fun S hM => ?_))
    refine XQ.cge rfl (fun q => ?_) (fun q => by omega)
    exact K _ _ hM
  | succ j ih =>
    intro o S ho hM
    have hoff : offM M (lp (fun o M => u2 M 8 (o : Int) 0) o M) := lp_off (fun i M => offM.rf.u _ _) _
    have e0 := hoff 13 0 (by decide)
    have ih2 := fun S hM => ih (o + 1) S (by omega) hM
    repeat (first | refine XQ.go rfl rfl ?_ | refine XQ.zeq0 rfl ?_ | refine XQ.zeq1 rfl ?_ | refine XQ.zne0 rfl ?_ | refine XQ.zne1 rfl ?_ | refine XQ.mg hM rfl rfl ?_ | refine XQ.ml hM rfl rfl (by decide) (by omega) (by simp only [mLen]; omega) ?_ | refine XQ.add rfl ⟨by omega, by omega⟩ ?_ | refine XQ.sub rfl ⟨by omega, by omega⟩ ?_ | refine XQ.mul rfl ⟨by omega, by omega⟩ ?_ | refine XQ.inc rfl rfl rfl ⟨by omega, by omega⟩ ?_ | refine XQ.ms hM rfl rfl (by decide) (by omega) (by simp only [mLen]; omega) (fun S hM => ?_) | refine XQ.mp hM rfl rfl (fun S hM => ?_))
    refine XQ.cge rfl (fun q => by omega) (fun q => ?_)
    repeat (first | refine XQ.go rfl rfl ?_ | refine XQ.zeq0 rfl ?_ | refine XQ.zeq1 rfl ?_ | refine XQ.zne0 rfl ?_ | refine XQ.zne1 rfl ?_ | refine XQ.mg hM rfl rfl ?_ | refine XQ.ml hM rfl rfl (by decide) (by omega) (by simp only [mLen]; omega) ?_ | refine XQ.add rfl ⟨by omega, by omega⟩ ?_ | refine XQ.sub rfl ⟨by omega, by omega⟩ ?_ | refine XQ.mul rfl ⟨by omega, by omega⟩ ?_ | refine XQ.inc rfl rfl rfl ⟨by omega, by omega⟩ ?_ | refine XQ.ms hM rfl rfl (by decide) (by omega) (by simp only [mLen]; omega) (fun S hM => ?_) | refine XQ.mp hM rfl rfl (fun S hM => ?_))
    refine XQ.mz hM rfl (Or.inl rfl) (by omega) (by omega) (fun S hM => ?_)
    have ih3 := ih2 S hM
    repeat (first | exact ih3 | refine XQ.go rfl rfl ?_ | refine XQ.zeq0 rfl ?_ | refine XQ.zeq1 rfl ?_ | refine XQ.zne0 rfl ?_ | refine XQ.zne1 rfl ?_ | refine XQ.mg hM rfl rfl ?_ | refine XQ.ml hM rfl rfl (by decide) (by omega) (by simp only [mLen]; omega) ?_ | refine XQ.add rfl ⟨by omega, by omega⟩ ?_ | refine XQ.sub rfl ⟨by omega, by omega⟩ ?_ | refine XQ.mul rfl ⟨by omega, by omega⟩ ?_ | refine XQ.inc rfl rfl rfl ⟨by omega, by omega⟩ ?_ | refine XQ.ms hM rfl rfl (by decide) (by omega) (by simp only [mLen]; omega) (fun S hM => ?_) | refine XQ.mp hM rfl rfl (fun S hM => ?_))
theorem M_collect (hM : MO m S0 S M) (hB : BW M) (hr : M 13 4 < 100000) : XQ (d + 5) k_M_collect 0 (mentry (mL k_M_collect) [.inr (some m)]) [] S (fun r S' => r = some (.inl (aColl M).1) ∧ MO m S0 S' (aColl M).2) := by
  have hb := hB.1
  have h4 := hB.2.2.2
  have h1 := aC1_ok hB hr
  have h2 := aC2_ok hB hr
  have hL := (aLoose_ok h2).1
  have h3 := aC3_ok hB hr
  have h5 := aC4_ok hB hr
  have K : ∀ (S : MS) (x1 : Option MV), MO m S0 S (aC1 M) → XQ (d + 5) k_M_collect 33 [some (.inr (some m)), x1] [] S (fun r S' => r = some (.inl (aColl M).1) ∧ MO m S0 S' (aColl M).2) := by
    intro S x1 hM
    repeat (first | refine XQ.go rfl rfl ?_ | refine XQ.zeq0 rfl ?_ | refine XQ.zeq1 rfl ?_ | refine XQ.zne0 rfl ?_ | refine XQ.zne1 rfl ?_ | refine XQ.mg hM rfl rfl ?_ | refine XQ.ml hM rfl rfl (by decide) (by omega) (by simp only [mLen]; omega) ?_ | refine XQ.add rfl ⟨by omega, by omega⟩ ?_ | refine XQ.sub rfl ⟨by omega, by omega⟩ ?_ | refine XQ.mul rfl ⟨by omega, by omega⟩ ?_ | refine XQ.inc rfl rfl rfl ⟨by omega, by omega⟩ ?_ | refine XQ.ms hM rfl rfl (by decide) (by omega) (by simp only [mLen]; omega) (fun S hM => ?_) | refine XQ.mp hM rfl rfl (fun S hM => ?_))
    refine XQ.v1 rfl hM.1.1 rfl (le8 rfl) (M_addRoots hM h1).deep (fun r S hq => ?_)
    obtain ⟨rfl, hM⟩ := hq
    repeat (first | refine XQ.go rfl rfl ?_ | refine XQ.zeq0 rfl ?_ | refine XQ.zeq1 rfl ?_ | refine XQ.zne0 rfl ?_ | refine XQ.zne1 rfl ?_ | refine XQ.mg hM rfl rfl ?_ | refine XQ.ml hM rfl rfl (by decide) (by omega) (by simp only [mLen]; omega) ?_ | refine XQ.add rfl ⟨by omega, by omega⟩ ?_ | refine XQ.sub rfl ⟨by omega, by omega⟩ ?_ | refine XQ.mul rfl ⟨by omega, by omega⟩ ?_ | refine XQ.inc rfl rfl rfl ⟨by omega, by omega⟩ ?_ | refine XQ.ms hM rfl rfl (by decide) (by omega) (by simp only [mLen]; omega) (fun S hM => ?_) | refine XQ.mp hM rfl rfl (fun S hM => ?_))
    refine XQ.v2 rfl hM.1.1 rfl (le8 rfl) (M_close (all := false) hM (h1.off (aRoots_off _))) (fun r S hq => ?_)
    obtain ⟨rfl, hM⟩ := hq
    repeat (first | refine XQ.go rfl rfl ?_ | refine XQ.zeq0 rfl ?_ | refine XQ.zeq1 rfl ?_ | refine XQ.zne0 rfl ?_ | refine XQ.zne1 rfl ?_ | refine XQ.mg hM rfl rfl ?_ | refine XQ.ml hM rfl rfl (by decide) (by omega) (by simp only [mLen]; omega) ?_ | refine XQ.add rfl ⟨by omega, by omega⟩ ?_ | refine XQ.sub rfl ⟨by omega, by omega⟩ ?_ | refine XQ.mul rfl ⟨by omega, by omega⟩ ?_ | refine XQ.inc rfl rfl rfl ⟨by omega, by omega⟩ ?_ | refine XQ.ms hM rfl rfl (by decide) (by omega) (by simp only [mLen]; omega) (fun S hM => ?_) | refine XQ.mp hM rfl rfl (fun S hM => ?_))
    refine XQ.v1 rfl hM.1.1 rfl (le8 rfl) (M_loosen (d := d + 2) hM h2) (fun r S hq => ?_)
    obtain ⟨rfl, hM⟩ := hq
    repeat (first | refine XQ.go rfl rfl ?_ | refine XQ.zeq0 rfl ?_ | refine XQ.zeq1 rfl ?_ | refine XQ.zne0 rfl ?_ | refine XQ.zne1 rfl ?_ | refine XQ.mg hM rfl rfl ?_ | refine XQ.ml hM rfl rfl (by decide) (by omega) (by simp only [mLen]; omega) ?_ | refine XQ.add rfl ⟨by omega, by omega⟩ ?_ | refine XQ.sub rfl ⟨by omega, by omega⟩ ?_ | refine XQ.mul rfl ⟨by omega, by omega⟩ ?_ | refine XQ.inc rfl rfl rfl ⟨by omega, by omega⟩ ?_ | refine XQ.ms hM rfl rfl (by decide) (by omega) (by simp only [mLen]; omega) (fun S hM => ?_) | refine XQ.mp hM rfl rfl (fun S hM => ?_))
    refine XQ.v1 rfl hM.1.1 rfl (le8 rfl) (M_callWaiting (d := d + 2) hM hL) (fun r S hq => ?_)
    obtain ⟨rfl, hM⟩ := hq
    repeat (first | refine XQ.go rfl rfl ?_ | refine XQ.zeq0 rfl ?_ | refine XQ.zeq1 rfl ?_ | refine XQ.zne0 rfl ?_ | refine XQ.zne1 rfl ?_ | refine XQ.mg hM rfl rfl ?_ | refine XQ.ml hM rfl rfl (by decide) (by omega) (by simp only [mLen]; omega) ?_ | refine XQ.add rfl ⟨by omega, by omega⟩ ?_ | refine XQ.sub rfl ⟨by omega, by omega⟩ ?_ | refine XQ.mul rfl ⟨by omega, by omega⟩ ?_ | refine XQ.inc rfl rfl rfl ⟨by omega, by omega⟩ ?_ | refine XQ.ms hM rfl rfl (by decide) (by omega) (by simp only [mLen]; omega) (fun S hM => ?_) | refine XQ.mp hM rfl rfl (fun S hM => ?_))
    refine XQ.v1 rfl hM.1.1 rfl (le8 rfl) (M_addWaiting (d := d + 2) hM h3) (fun r S hq => ?_)
    obtain ⟨rfl, hM⟩ := hq
    repeat (first | refine XQ.go rfl rfl ?_ | refine XQ.zeq0 rfl ?_ | refine XQ.zeq1 rfl ?_ | refine XQ.zne0 rfl ?_ | refine XQ.zne1 rfl ?_ | refine XQ.mg hM rfl rfl ?_ | refine XQ.ml hM rfl rfl (by decide) (by omega) (by simp only [mLen]; omega) ?_ | refine XQ.add rfl ⟨by omega, by omega⟩ ?_ | refine XQ.sub rfl ⟨by omega, by omega⟩ ?_ | refine XQ.mul rfl ⟨by omega, by omega⟩ ?_ | refine XQ.inc rfl rfl rfl ⟨by omega, by omega⟩ ?_ | refine XQ.ms hM rfl rfl (by decide) (by omega) (by simp only [mLen]; omega) (fun S hM => ?_) | refine XQ.mp hM rfl rfl (fun S hM => ?_))
    refine XQ.v2 rfl hM.1.1 rfl (le8 rfl) (M_close (all := true) hM (h3.off (aWaits_off _))) (fun r S hq => ?_)
    obtain ⟨rfl, hM⟩ := hq
    repeat (first | refine XQ.go rfl rfl ?_ | refine XQ.zeq0 rfl ?_ | refine XQ.zeq1 rfl ?_ | refine XQ.zne0 rfl ?_ | refine XQ.zne1 rfl ?_ | refine XQ.mg hM rfl rfl ?_ | refine XQ.ml hM rfl rfl (by decide) (by omega) (by simp only [mLen]; omega) ?_ | refine XQ.add rfl ⟨by omega, by omega⟩ ?_ | refine XQ.sub rfl ⟨by omega, by omega⟩ ?_ | refine XQ.mul rfl ⟨by omega, by omega⟩ ?_ | refine XQ.inc rfl rfl rfl ⟨by omega, by omega⟩ ?_ | refine XQ.ms hM rfl rfl (by decide) (by omega) (by simp only [mLen]; omega) (fun S hM => ?_) | refine XQ.mp hM rfl rfl (fun S hM => ?_))
    refine XQ.v1 rfl hM.1.1 rfl (le8 rfl) (M_sweep (d := d + 4) hM h5) (fun r S hq => ?_)
    obtain ⟨rfl, hM⟩ := hq
    exact XQ.ret rfl rfl ⟨rfl, hM⟩
  have h0 := fun S hM => M_clr (d := d + 5) (m := m) (S0 := S0) (hB.run hr) K (M 13 0).toNat 0 S (by show ((0 + (M 13 0).toNat : Nat) : Int) = M 13 0; omega) hM
  repeat (first | exact h0 _ hM | refine XQ.go rfl rfl ?_ | refine XQ.zeq0 rfl ?_ | refine XQ.zeq1 rfl ?_ | refine XQ.zne0 rfl ?_ | refine XQ.zne1 rfl ?_ | refine XQ.mg hM rfl rfl ?_ | refine XQ.ml hM rfl rfl (by decide) (by omega) (by simp only [mLen]; omega) ?_ | refine XQ.add rfl ⟨by omega, by omega⟩ ?_ | refine XQ.sub rfl ⟨by omega, by omega⟩ ?_ | refine XQ.mul rfl ⟨by omega, by omega⟩ ?_ | refine XQ.inc rfl rfl rfl ⟨by omega, by omega⟩ ?_ | refine XQ.ms hM rfl rfl (by decide) (by omega) (by simp only [mLen]; omega) (fun S hM => ?_) | refine XQ.mp hM rfl rfl (fun S hM => ?_))
theorem M_mk_l {M : MM} {o s n r0 : Int} (ho : 0 ≤ o) (ho2 : o < 20) : ∀ (j f : Nat) (S : MS), f + j = 4 → MO m S0 S (lp (aMkF o) f M) → XQ d k_M_make 93 [some (.inr (some m)), some (.inl s), some (.inl n), some (.inl r0), some (.inl o), some (.inl (f : Int))] [] S (fun r S' => r = some (.inl o) ∧ MO m S0 S' (lp (aMkF o) 4 M)) := by
  intro j
  induction j with
  | zero =>
    intro f S hf hM
    have ef : f = 4 := by omega
    subst ef
    repeat (first | refine XQ.go rfl rfl ?_ | refine XQ.zeq0 rfl ?_ | refine XQ.zeq1 rfl ?_ | refine XQ.zne0 rfl ?_ | refine XQ.zne1 rfl ?_ | refine XQ.mg hM rfl rfl ?_ | refine XQ.ml hM rfl rfl (by decide) (by omega) (by simp only [mLen]; omega) ?_ | refine XQ.add rfl ⟨by omega, by omega⟩ ?_ | refine XQ.sub rfl ⟨by omega, by omega⟩ ?_ | refine XQ.mul rfl ⟨by omega, by omega⟩ ?_ | refine XQ.inc rfl rfl rfl ⟨by omega, by omega⟩ ?_ | refine XQ.ms hM rfl rfl (by decide) (by omega) (by simp only [mLen]; omega) (fun S hM => ?_) | refine XQ.mp hM rfl rfl (fun S hM => ?_))
    refine XQ.cge rfl (fun q => ?_) (fun q => by omega)
    repeat (first | refine XQ.go rfl rfl ?_ | refine XQ.zeq0 rfl ?_ | refine XQ.zeq1 rfl ?_ | refine XQ.zne0 rfl ?_ | refine XQ.zne1 rfl ?_ | refine XQ.mg hM rfl rfl ?_ | refine XQ.ml hM rfl rfl (by decide) (by omega) (by simp only [mLen]; omega) ?_ | refine XQ.add rfl ⟨by omega, by omega⟩ ?_ | refine XQ.sub rfl ⟨by omega, by omega⟩ ?_ | refine XQ.mul rfl ⟨by omega, by omega⟩ ?_ | refine XQ.inc rfl rfl rfl ⟨by omega, by omega⟩ ?_ | refine XQ.ms hM rfl rfl (by decide) (by omega) (by simp only [mLen]; omega) (fun S hM => ?_) | refine XQ.mp hM rfl rfl (fun S hM => ?_))
    exact XQ.ret rfl rfl ⟨rfl, hM⟩
  | succ j ih =>
    intro f S hf hM
    have en : lp (aMkF o) (f + 1) M = aMkF o f (lp (aMkF o) f M) := rfl
    have ih2 := fun S hM => ih (f + 1) S (by omega) hM
    rw [en] at ih2
    generalize lp (aMkF o) f M = N at hM ih2
    repeat (first | refine XQ.go rfl rfl ?_ | refine XQ.zeq0 rfl ?_ | refine XQ.zeq1 rfl ?_ | refine XQ.zne0 rfl ?_ | refine XQ.zne1 rfl ?_ | refine XQ.mg hM rfl rfl ?_ | refine XQ.ml hM rfl rfl (by decide) (by omega) (by simp only [mLen]; omega) ?_ | refine XQ.add rfl ⟨by omega, by omega⟩ ?_ | refine XQ.sub rfl ⟨by omega, by omega⟩ ?_ | refine XQ.mul rfl ⟨by omega, by omega⟩ ?_ | refine XQ.inc rfl rfl rfl ⟨by omega, by omega⟩ ?_ | refine XQ.ms hM rfl rfl (by decide) (by omega) (by simp only [mLen]; omega) (fun S hM => ?_) | refine XQ.mp hM rfl rfl (fun S hM => ?_))
    refine XQ.cge rfl (fun q => by omega) (fun q => ?_)
    repeat (first | exact ih2 _ hM | refine XQ.go rfl rfl ?_ | refine XQ.zeq0 rfl ?_ | refine XQ.zeq1 rfl ?_ | refine XQ.zne0 rfl ?_ | refine XQ.zne1 rfl ?_ | refine XQ.mg hM rfl rfl ?_ | refine XQ.ml hM rfl rfl (by decide) (by omega) (by simp only [mLen]; omega) ?_ | refine XQ.add rfl ⟨by omega, by omega⟩ ?_ | refine XQ.sub rfl ⟨by omega, by omega⟩ ?_ | refine XQ.mul rfl ⟨by omega, by omega⟩ ?_ | refine XQ.inc rfl rfl rfl ⟨by omega, by omega⟩ ?_ | refine XQ.ms hM rfl rfl (by decide) (by omega) (by simp only [mLen]; omega) (fun S hM => ?_) | refine XQ.mp hM rfl rfl (fun S hM => ?_))
theorem M_mk2 {M : MM} {s n r0 : Int} {x4 x5 : Option MV} (hM : MO m S0 S M) (hB : BW M) (hn : M 13 0 < 20) (hm : M 13 1 < 100000) : XQ d k_M_make 37 [some (.inr (some m)), some (.inl s), some (.inl n), some (.inl r0), x4, x5] [] S (fun r S' => r = some (.inl (M 13 0)) ∧ MO m S0 S' (aMkO M s n)) := by
  have hb := hB.1
  have h4 := hB.2.2.2
  repeat (first | refine XQ.go rfl rfl ?_ | refine XQ.mg hM rfl rfl ?_)
  refine XQ.add rfl ⟨by omega, by omega⟩ ?_
  refine XQ.mp hM rfl rfl (fun S hM => ?_)
  repeat (first | refine XQ.go rfl rfl ?_ | refine XQ.mg hM rfl rfl ?_)
  refine XQ.add rfl (show inR (M 13 1 + 1) from ⟨by omega, by omega⟩) ?_
  refine XQ.mp hM rfl rfl (fun S hM => ?_)
  repeat (first | refine XQ.go rfl rfl ?_ | refine XQ.mg hM rfl rfl ?_)
  refine XQ.ms hM rfl rfl (by decide) (by omega) (by simp only [mLen]; omega) (fun S hM => ?_)
  repeat (first | refine XQ.go rfl rfl ?_ | refine XQ.mg hM rfl rfl ?_)
  refine XQ.ms hM rfl rfl (by decide) (by omega) (by simp only [mLen]; omega) (fun S hM => ?_)
  repeat (first | refine XQ.go rfl rfl ?_ | refine XQ.mg hM rfl rfl ?_)
  refine XQ.ms hM rfl rfl (by decide) (by omega) (by simp only [mLen]; omega) (fun S hM => ?_)
  have h0 := M_mk_l (d := d) (m := m) (S0 := S0) (s := s) (n := n) (r0 := r0) (M := u2 (u2 (u2 (u2 (u2 M 13 0 (M 13 0 + 1)) 13 1 (M 13 1 + 1)) 2 (M 13 0) (M 13 1 + 1)) 3 (M 13 0) s) 4 (M 13 0) n) hb.1 hn 4 0 S rfl hM
  repeat (first | exact h0 | refine XQ.go rfl rfl ?_)
/-- room for an object: fewer than twenty lie there -/
theorem aCb_ge {M : MM} (hB : BW M) (h3 : ∀ o, 0 ≤ o → o < M 13 0 → 3 ≤ aCells M o) : ∀ k : Nat, (k : Int) ≤ M 13 0 → 3 * (k : Int) ≤ aCb M k
  | 0, _ => by unfold aCb; omega
  | k + 1, hk => by
    have g1 := aCb_ge hB h3 k (by omega)
    have g2 := h3 (k : Int) (by omega) (by omega)
    unfold aCb
    omega
end M5
end
