/-! facts of the tables that the instructions rest on (by program) -/
theorem ly_H : ∀ w ∈ u_ws "ResurrectingHeap" F_H 7, w ∈ mWS := (List.forall_mem_cons.mpr ⟨inW 72 (by decide +kernel) (by decide +kernel), List.forall_mem_cons.mpr ⟨inW 74 (by decide +kernel) (by decide +kernel), List.forall_mem_cons.mpr ⟨inW 76 (by decide +kernel) (by decide +kernel), List.forall_mem_cons.mpr ⟨inW 78 (by decide +kernel) (by decide +kernel), List.forall_mem_cons.mpr ⟨inW 80 (by decide +kernel) (by decide +kernel), List.forall_mem_cons.mpr ⟨inW 82 (by decide +kernel) (by decide +kernel), List.forall_mem_cons.mpr ⟨inW 84 (by decide +kernel) (by decide +kernel), fun _ h => absurd h List.not_mem_nil⟩⟩⟩⟩⟩⟩⟩)
theorem ly_N : ∀ w ∈ u_ws "ResurrectingHeap$Numeral" F_N 1, w ∈ mWS := (List.forall_mem_cons.mpr ⟨inW 107 (by decide +kernel) (by decide +kernel), fun _ h => absurd h List.not_mem_nil⟩)
theorem ly_V : ∀ w ∈ u_ws "ResurrectingHeap$Vector" F_V 7, w ∈ mWS := (List.forall_mem_cons.mpr ⟨inW 234 (by decide +kernel) (by decide +kernel), List.forall_mem_cons.mpr ⟨inW 236 (by decide +kernel) (by decide +kernel), List.forall_mem_cons.mpr ⟨inW 238 (by decide +kernel) (by decide +kernel), List.forall_mem_cons.mpr ⟨inW 240 (by decide +kernel) (by decide +kernel), List.forall_mem_cons.mpr ⟨inW 242 (by decide +kernel) (by decide +kernel), List.forall_mem_cons.mpr ⟨inW 244 (by decide +kernel) (by decide +kernel), List.forall_mem_cons.mpr ⟨inW 232 (by decide +kernel) (by decide +kernel), fun _ h => absurd h List.not_mem_nil⟩⟩⟩⟩⟩⟩⟩)
theorem ly_K : ∀ w ∈ u_ws "ResurrectingHeap$Weak" F_K 7, w ∈ mWS := (List.forall_mem_cons.mpr ⟨inW 269 (by decide +kernel) (by decide +kernel), List.forall_mem_cons.mpr ⟨inW 270 (by decide +kernel) (by decide +kernel), List.forall_mem_cons.mpr ⟨inW 271 (by decide +kernel) (by decide +kernel), List.forall_mem_cons.mpr ⟨inW 272 (by decide +kernel) (by decide +kernel), List.forall_mem_cons.mpr ⟨inW 273 (by decide +kernel) (by decide +kernel), List.forall_mem_cons.mpr ⟨inW 274 (by decide +kernel) (by decide +kernel), List.forall_mem_cons.mpr ⟨inW 267 (by decide +kernel) (by decide +kernel), fun _ h => absurd h List.not_mem_nil⟩⟩⟩⟩⟩⟩⟩)
theorem ly_T : ∀ w ∈ u_ws "ResurrectingHeap$Table" F_T 9, w ∈ mWS := (List.forall_mem_cons.mpr ⟨inW 297 (by decide +kernel) (by decide +kernel), List.forall_mem_cons.mpr ⟨inW 298 (by decide +kernel) (by decide +kernel), List.forall_mem_cons.mpr ⟨inW 299 (by decide +kernel) (by decide +kernel), List.forall_mem_cons.mpr ⟨inW 300 (by decide +kernel) (by decide +kernel), List.forall_mem_cons.mpr ⟨inW 301 (by decide +kernel) (by decide +kernel), List.forall_mem_cons.mpr ⟨inW 302 (by decide +kernel) (by decide +kernel), List.forall_mem_cons.mpr ⟨inW 291 (by decide +kernel) (by decide +kernel), List.forall_mem_cons.mpr ⟨inW 293 (by decide +kernel) (by decide +kernel), List.forall_mem_cons.mpr ⟨inW 295 (by decide +kernel) (by decide +kernel), fun _ h => absurd h List.not_mem_nil⟩⟩⟩⟩⟩⟩⟩⟩⟩)
theorem ly_R : ∀ w ∈ u_ws "ResurrectingHeap$Row" F_R 2, w ∈ mWS := (List.forall_mem_cons.mpr ⟨inW 60 (by decide +kernel) (by decide +kernel), List.forall_mem_cons.mpr ⟨inW 62 (by decide +kernel) (by decide +kernel), fun _ h => absurd h List.not_mem_nil⟩⟩)
theorem ly_M : ∀ w ∈ u_ws "ResurrectingHeapModel" F_M 18, w ∈ mWS := (List.forall_mem_cons.mpr ⟨inW 435 (by decide +kernel) (by decide +kernel), List.forall_mem_cons.mpr ⟨inW 437 (by decide +kernel) (by decide +kernel), List.forall_mem_cons.mpr ⟨inW 439 (by decide +kernel) (by decide +kernel), List.forall_mem_cons.mpr ⟨inW 441 (by decide +kernel) (by decide +kernel), List.forall_mem_cons.mpr ⟨inW 443 (by decide +kernel) (by decide +kernel), List.forall_mem_cons.mpr ⟨inW 445 (by decide +kernel) (by decide +kernel), List.forall_mem_cons.mpr ⟨inW 447 (by decide +kernel) (by decide +kernel), List.forall_mem_cons.mpr ⟨inW 449 (by decide +kernel) (by decide +kernel), List.forall_mem_cons.mpr ⟨inW 451 (by decide +kernel) (by decide +kernel), List.forall_mem_cons.mpr ⟨inW 453 (by decide +kernel) (by decide +kernel), List.forall_mem_cons.mpr ⟨inW 455 (by decide +kernel) (by decide +kernel), List.forall_mem_cons.mpr ⟨inW 457 (by decide +kernel) (by decide +kernel), List.forall_mem_cons.mpr ⟨inW 459 (by decide +kernel) (by decide +kernel), List.forall_mem_cons.mpr ⟨inW 461 (by decide +kernel) (by decide +kernel), List.forall_mem_cons.mpr ⟨inW 463 (by decide +kernel) (by decide +kernel), List.forall_mem_cons.mpr ⟨inW 465 (by decide +kernel) (by decide +kernel), List.forall_mem_cons.mpr ⟨inW 467 (by decide +kernel) (by decide +kernel), List.forall_mem_cons.mpr ⟨inW 469 (by decide +kernel) (by decide +kernel), fun _ h => absurd h List.not_mem_nil⟩⟩⟩⟩⟩⟩⟩⟩⟩⟩⟩⟩⟩⟩⟩⟩⟩⟩)
theorem fo_H_variables : ∀ t ∈ ([1] : List Nat), FOK t 0 "ResurrectingHeap" "variables" "[LResurrectingHeap$Value;" := (List.forall_mem_cons.mpr ⟨⟨0, ("ResurrectingHeap", F_H, 7), rfl, by decide, rfl, by decide, rfl, rfl, Or.inl rfl, ly_H⟩, fun _ h => absurd h List.not_mem_nil⟩)
theorem fo_H_objects : ∀ t ∈ ([1] : List Nat), FOK t 1 "ResurrectingHeap" "objects" "LResurrectingHeap$Row;" := (List.forall_mem_cons.mpr ⟨⟨0, ("ResurrectingHeap", F_H, 7), rfl, by decide, rfl, by decide, rfl, rfl, Or.inl rfl, ly_H⟩, fun _ h => absurd h List.not_mem_nil⟩)
theorem fo_H_registered : ∀ t ∈ ([1] : List Nat), FOK t 2 "ResurrectingHeap" "registered" "LResurrectingHeap$Row;" := (List.forall_mem_cons.mpr ⟨⟨0, ("ResurrectingHeap", F_H, 7), rfl, by decide, rfl, by decide, rfl, rfl, Or.inl rfl, ly_H⟩, fun _ h => absurd h List.not_mem_nil⟩)
theorem fo_H_waitingRow : ∀ t ∈ ([1] : List Nat), FOK t 3 "ResurrectingHeap" "waitingRow" "LResurrectingHeap$Row;" := (List.forall_mem_cons.mpr ⟨⟨0, ("ResurrectingHeap", F_H, 7), rfl, by decide, rfl, by decide, rfl, rfl, Or.inl rfl, ly_H⟩, fun _ h => absurd h List.not_mem_nil⟩)
theorem fo_H_objectsMade : ∀ t ∈ ([1] : List Nat), FOK t 5 "ResurrectingHeap" "objectsMade" "I" := (List.forall_mem_cons.mpr ⟨⟨0, ("ResurrectingHeap", F_H, 7), rfl, by decide, rfl, by decide, rfl, rfl, Or.inl rfl, ly_H⟩, fun _ h => absurd h List.not_mem_nil⟩)
theorem fo_V_fields : ∀ t ∈ ([3] : List Nat), FOK t 6 "ResurrectingHeap$Vector" "fields" "[LResurrectingHeap$Value;" := (List.forall_mem_cons.mpr ⟨⟨2, ("ResurrectingHeap$Vector", F_V, 7), rfl, by decide, rfl, by decide, rfl, rfl, Or.inl rfl, ly_V⟩, fun _ h => absurd h List.not_mem_nil⟩)
theorem fo_K_target : ∀ t ∈ ([4] : List Nat), FOK t 6 "ResurrectingHeap$Weak" "target" "LResurrectingHeap$Thing;" := (List.forall_mem_cons.mpr ⟨⟨3, ("ResurrectingHeap$Weak", F_K, 7), rfl, by decide, rfl, by decide, rfl, rfl, Or.inl rfl, ly_K⟩, fun _ h => absurd h List.not_mem_nil⟩)
theorem fo_G_tagged : ∀ t ∈ ([3, 4, 5] : List Nat), FOK t 4 "ResurrectingHeap$Thing" "tagged" "Z" := (List.forall_mem_cons.mpr ⟨⟨2, ("ResurrectingHeap$Vector", F_V, 7), rfl, by decide, rfl, by decide, rfl, rfl, Or.inl rfl, ly_V⟩, List.forall_mem_cons.mpr ⟨⟨3, ("ResurrectingHeap$Weak", F_K, 7), rfl, by decide, rfl, by decide, rfl, rfl, Or.inl rfl, ly_K⟩, List.forall_mem_cons.mpr ⟨⟨4, ("ResurrectingHeap$Table", F_T, 9), rfl, by decide, rfl, by decide, rfl, rfl, Or.inl rfl, ly_T⟩, fun _ h => absurd h List.not_mem_nil⟩⟩⟩)
theorem fo_G_tag : ∀ t ∈ ([3, 4, 5] : List Nat), FOK t 5 "ResurrectingHeap$Thing" "tag" "I" := (List.forall_mem_cons.mpr ⟨⟨2, ("ResurrectingHeap$Vector", F_V, 7), rfl, by decide, rfl, by decide, rfl, rfl, Or.inl rfl, ly_V⟩, List.forall_mem_cons.mpr ⟨⟨3, ("ResurrectingHeap$Weak", F_K, 7), rfl, by decide, rfl, by decide, rfl, rfl, Or.inl rfl, ly_K⟩, List.forall_mem_cons.mpr ⟨⟨4, ("ResurrectingHeap$Table", F_T, 9), rfl, by decide, rfl, by decide, rfl, rfl, Or.inl rfl, ly_T⟩, fun _ h => absurd h List.not_mem_nil⟩⟩⟩)
theorem fo_N_amount : ∀ t ∈ ([2] : List Nat), FOK t 0 "ResurrectingHeap$Numeral" "amount" "I" := (List.forall_mem_cons.mpr ⟨⟨1, ("ResurrectingHeap$Numeral", F_N, 1), rfl, by decide, rfl, by decide, rfl, rfl, Or.inl rfl, ly_N⟩, fun _ h => absurd h List.not_mem_nil⟩)
theorem fo_G_hash : ∀ t ∈ ([3, 4, 5] : List Nat), FOK t 0 "ResurrectingHeap$Thing" "hash" "I" := (List.forall_mem_cons.mpr ⟨⟨2, ("ResurrectingHeap$Vector", F_V, 7), rfl, by decide, rfl, by decide, rfl, rfl, Or.inl rfl, ly_V⟩, List.forall_mem_cons.mpr ⟨⟨3, ("ResurrectingHeap$Weak", F_K, 7), rfl, by decide, rfl, by decide, rfl, rfl, Or.inl rfl, ly_K⟩, List.forall_mem_cons.mpr ⟨⟨4, ("ResurrectingHeap$Table", F_T, 9), rfl, by decide, rfl, by decide, rfl, rfl, Or.inl rfl, ly_T⟩, fun _ h => absurd h List.not_mem_nil⟩⟩⟩)
theorem fo_G_place : ∀ t ∈ ([3, 4, 5] : List Nat), FOK t 2 "ResurrectingHeap$Thing" "place" "I" := (List.forall_mem_cons.mpr ⟨⟨2, ("ResurrectingHeap$Vector", F_V, 7), rfl, by decide, rfl, by decide, rfl, rfl, Or.inl rfl, ly_V⟩, List.forall_mem_cons.mpr ⟨⟨3, ("ResurrectingHeap$Weak", F_K, 7), rfl, by decide, rfl, by decide, rfl, rfl, Or.inl rfl, ly_K⟩, List.forall_mem_cons.mpr ⟨⟨4, ("ResurrectingHeap$Table", F_T, 9), rfl, by decide, rfl, by decide, rfl, rfl, Or.inl rfl, ly_T⟩, fun _ h => absurd h List.not_mem_nil⟩⟩⟩)
theorem fo_H_usedCells : ∀ t ∈ ([1] : List Nat), FOK t 4 "ResurrectingHeap" "usedCells" "I" := (List.forall_mem_cons.mpr ⟨⟨0, ("ResurrectingHeap", F_H, 7), rfl, by decide, rfl, by decide, rfl, rfl, Or.inl rfl, ly_H⟩, fun _ h => absurd h List.not_mem_nil⟩)
theorem fo_H_collectionsMade : ∀ t ∈ ([1] : List Nat), FOK t 6 "ResurrectingHeap" "collectionsMade" "I" := (List.forall_mem_cons.mpr ⟨⟨0, ("ResurrectingHeap", F_H, 7), rfl, by decide, rfl, by decide, rfl, rfl, Or.inl rfl, ly_H⟩, fun _ h => absurd h List.not_mem_nil⟩)
theorem fo_G_cells : ∀ t ∈ ([3, 4, 5] : List Nat), FOK t 1 "ResurrectingHeap$Thing" "cells" "I" := (List.forall_mem_cons.mpr ⟨⟨2, ("ResurrectingHeap$Vector", F_V, 7), rfl, by decide, rfl, by decide, rfl, rfl, Or.inl rfl, ly_V⟩, List.forall_mem_cons.mpr ⟨⟨3, ("ResurrectingHeap$Weak", F_K, 7), rfl, by decide, rfl, by decide, rfl, rfl, Or.inl rfl, ly_K⟩, List.forall_mem_cons.mpr ⟨⟨4, ("ResurrectingHeap$Table", F_T, 9), rfl, by decide, rfl, by decide, rfl, rfl, Or.inl rfl, ly_T⟩, fun _ h => absurd h List.not_mem_nil⟩⟩⟩)
theorem fo_G_marked : ∀ t ∈ ([3, 4, 5] : List Nat), FOK t 3 "ResurrectingHeap$Thing" "marked" "Z" := (List.forall_mem_cons.mpr ⟨⟨2, ("ResurrectingHeap$Vector", F_V, 7), rfl, by decide, rfl, by decide, rfl, rfl, Or.inl rfl, ly_V⟩, List.forall_mem_cons.mpr ⟨⟨3, ("ResurrectingHeap$Weak", F_K, 7), rfl, by decide, rfl, by decide, rfl, rfl, Or.inl rfl, ly_K⟩, List.forall_mem_cons.mpr ⟨⟨4, ("ResurrectingHeap$Table", F_T, 9), rfl, by decide, rfl, by decide, rfl, rfl, Or.inl rfl, ly_T⟩, fun _ h => absurd h List.not_mem_nil⟩⟩⟩)
theorem fo_M_varIs : ∀ t ∈ ([7] : List Nat), FOK t 0 "ResurrectingHeapModel" "varIs" "[I" := (List.forall_mem_cons.mpr ⟨⟨6, ("ResurrectingHeapModel", F_M, 18), rfl, by decide, rfl, by decide, rfl, rfl, Or.inl rfl, ly_M⟩, fun _ h => absurd h List.not_mem_nil⟩)
theorem fo_M_varHas : ∀ t ∈ ([7] : List Nat), FOK t 1 "ResurrectingHeapModel" "varHas" "[I" := (List.forall_mem_cons.mpr ⟨⟨6, ("ResurrectingHeapModel", F_M, 18), rfl, by decide, rfl, by decide, rfl, rfl, Or.inl rfl, ly_M⟩, fun _ h => absurd h List.not_mem_nil⟩)
theorem fo_M_name : ∀ t ∈ ([7] : List Nat), FOK t 4 "ResurrectingHeapModel" "name" "[I" := (List.forall_mem_cons.mpr ⟨⟨6, ("ResurrectingHeapModel", F_M, 18), rfl, by decide, rfl, by decide, rfl, rfl, Or.inl rfl, ly_M⟩, fun _ h => absurd h List.not_mem_nil⟩)
theorem fo_M_sort : ∀ t ∈ ([7] : List Nat), FOK t 5 "ResurrectingHeapModel" "sort" "[I" := (List.forall_mem_cons.mpr ⟨⟨6, ("ResurrectingHeapModel", F_M, 18), rfl, by decide, rfl, by decide, rfl, rfl, Or.inl rfl, ly_M⟩, fun _ h => absurd h List.not_mem_nil⟩)
theorem fo_M_many : ∀ t ∈ ([7] : List Nat), FOK t 6 "ResurrectingHeapModel" "many" "[I" := (List.forall_mem_cons.mpr ⟨⟨6, ("ResurrectingHeapModel", F_M, 18), rfl, by decide, rfl, by decide, rfl, rfl, Or.inl rfl, ly_M⟩, fun _ h => absurd h List.not_mem_nil⟩)
theorem fo_M_is : ∀ t ∈ ([7] : List Nat), FOK t 7 "ResurrectingHeapModel" "is" "[I" := (List.forall_mem_cons.mpr ⟨⟨6, ("ResurrectingHeapModel", F_M, 18), rfl, by decide, rfl, by decide, rfl, rfl, Or.inl rfl, ly_M⟩, fun _ h => absurd h List.not_mem_nil⟩)
theorem fo_M_has : ∀ t ∈ ([7] : List Nat), FOK t 8 "ResurrectingHeapModel" "has" "[I" := (List.forall_mem_cons.mpr ⟨⟨6, ("ResurrectingHeapModel", F_M, 18), rfl, by decide, rfl, by decide, rfl, rfl, Or.inl rfl, ly_M⟩, fun _ h => absurd h List.not_mem_nil⟩)
theorem fo_M_keys : ∀ t ∈ ([7] : List Nat), FOK t 9 "ResurrectingHeapModel" "keys" "[I" := (List.forall_mem_cons.mpr ⟨⟨6, ("ResurrectingHeapModel", F_M, 18), rfl, by decide, rfl, by decide, rfl, rfl, Or.inl rfl, ly_M⟩, fun _ h => absurd h List.not_mem_nil⟩)
theorem fo_M_mark : ∀ t ∈ ([7] : List Nat), FOK t 10 "ResurrectingHeapModel" "mark" "[Z" := (List.forall_mem_cons.mpr ⟨⟨6, ("ResurrectingHeapModel", F_M, 18), rfl, by decide, rfl, by decide, rfl, rfl, Or.inl rfl, ly_M⟩, fun _ h => absurd h List.not_mem_nil⟩)
theorem fo_M_regName : ∀ t ∈ ([7] : List Nat), FOK t 12 "ResurrectingHeapModel" "regName" "[I" := (List.forall_mem_cons.mpr ⟨⟨6, ("ResurrectingHeapModel", F_M, 18), rfl, by decide, rfl, by decide, rfl, rfl, Or.inl rfl, ly_M⟩, fun _ h => absurd h List.not_mem_nil⟩)
theorem fo_M_regTag : ∀ t ∈ ([7] : List Nat), FOK t 13 "ResurrectingHeapModel" "regTag" "[I" := (List.forall_mem_cons.mpr ⟨⟨6, ("ResurrectingHeapModel", F_M, 18), rfl, by decide, rfl, by decide, rfl, rfl, Or.inl rfl, ly_M⟩, fun _ h => absurd h List.not_mem_nil⟩)
theorem fo_M_waitName : ∀ t ∈ ([7] : List Nat), FOK t 15 "ResurrectingHeapModel" "waitName" "[I" := (List.forall_mem_cons.mpr ⟨⟨6, ("ResurrectingHeapModel", F_M, 18), rfl, by decide, rfl, by decide, rfl, rfl, Or.inl rfl, ly_M⟩, fun _ h => absurd h List.not_mem_nil⟩)
theorem fo_M_waitTag : ∀ t ∈ ([7] : List Nat), FOK t 16 "ResurrectingHeapModel" "waitTag" "[I" := (List.forall_mem_cons.mpr ⟨⟨6, ("ResurrectingHeapModel", F_M, 18), rfl, by decide, rfl, by decide, rfl, rfl, Or.inl rfl, ly_M⟩, fun _ h => absurd h List.not_mem_nil⟩)
theorem fo_M_objects : ∀ t ∈ ([7] : List Nat), FOK t 2 "ResurrectingHeapModel" "objects" "I" := (List.forall_mem_cons.mpr ⟨⟨6, ("ResurrectingHeapModel", F_M, 18), rfl, by decide, rfl, by decide, rfl, rfl, Or.inl rfl, ly_M⟩, fun _ h => absurd h List.not_mem_nil⟩)
theorem fo_M_made : ∀ t ∈ ([7] : List Nat), FOK t 3 "ResurrectingHeapModel" "made" "I" := (List.forall_mem_cons.mpr ⟨⟨6, ("ResurrectingHeapModel", F_M, 18), rfl, by decide, rfl, by decide, rfl, rfl, Or.inl rfl, ly_M⟩, fun _ h => absurd h List.not_mem_nil⟩)
theorem fo_M_registered : ∀ t ∈ ([7] : List Nat), FOK t 11 "ResurrectingHeapModel" "registered" "I" := (List.forall_mem_cons.mpr ⟨⟨6, ("ResurrectingHeapModel", F_M, 18), rfl, by decide, rfl, by decide, rfl, rfl, Or.inl rfl, ly_M⟩, fun _ h => absurd h List.not_mem_nil⟩)
theorem fo_M_waits : ∀ t ∈ ([7] : List Nat), FOK t 14 "ResurrectingHeapModel" "waits" "I" := (List.forall_mem_cons.mpr ⟨⟨6, ("ResurrectingHeapModel", F_M, 18), rfl, by decide, rfl, by decide, rfl, rfl, Or.inl rfl, ly_M⟩, fun _ h => absurd h List.not_mem_nil⟩)
theorem fo_M_runs : ∀ t ∈ ([7] : List Nat), FOK t 17 "ResurrectingHeapModel" "runs" "I" := (List.forall_mem_cons.mpr ⟨⟨6, ("ResurrectingHeapModel", F_M, 18), rfl, by decide, rfl, by decide, rfl, rfl, Or.inl rfl, ly_M⟩, fun _ h => absurd h List.not_mem_nil⟩)
theorem fo_R_things : ∀ t ∈ ([6] : List Nat), FOK t 0 "ResurrectingHeap$Row" "things" "[LResurrectingHeap$Thing;" := (List.forall_mem_cons.mpr ⟨⟨5, ("ResurrectingHeap$Row", F_R, 2), rfl, by decide, rfl, by decide, rfl, rfl, Or.inl rfl, ly_R⟩, fun _ h => absurd h List.not_mem_nil⟩)
theorem fo_R_count : ∀ t ∈ ([6] : List Nat), FOK t 1 "ResurrectingHeap$Row" "count" "I" := (List.forall_mem_cons.mpr ⟨⟨5, ("ResurrectingHeap$Row", F_R, 2), rfl, by decide, rfl, by decide, rfl, rfl, Or.inl rfl, ly_R⟩, fun _ h => absurd h List.not_mem_nil⟩)
theorem fo_T_keys : ∀ t ∈ ([5] : List Nat), FOK t 6 "ResurrectingHeap$Table" "keys" "[LResurrectingHeap$Thing;" := (List.forall_mem_cons.mpr ⟨⟨4, ("ResurrectingHeap$Table", F_T, 9), rfl, by decide, rfl, by decide, rfl, rfl, Or.inl rfl, ly_T⟩, fun _ h => absurd h List.not_mem_nil⟩)
theorem fo_T_values : ∀ t ∈ ([5] : List Nat), FOK t 7 "ResurrectingHeap$Table" "values" "[LResurrectingHeap$Value;" := (List.forall_mem_cons.mpr ⟨⟨4, ("ResurrectingHeap$Table", F_T, 9), rfl, by decide, rfl, by decide, rfl, rfl, Or.inl rfl, ly_T⟩, fun _ h => absurd h List.not_mem_nil⟩)
theorem fo_T_entryCount : ∀ t ∈ ([5] : List Nat), FOK t 8 "ResurrectingHeap$Table" "entryCount" "I" := (List.forall_mem_cons.mpr ⟨⟨4, ("ResurrectingHeap$Table", F_T, 9), rfl, by decide, rfl, by decide, rfl, rfl, Or.inl rfl, ly_T⟩, fun _ h => absurd h List.not_mem_nil⟩)
theorem po_1_H_variables : ∀ t ∈ ([1] : List Nat), POK 1 t 0 2 := (List.forall_mem_cons.mpr ⟨⟨0, ("ResurrectingHeap", F_H, 7), tf_H, rfl, rfl, tf_H_ok, nf_H, Or.inr ⟨_, rfl⟩, Or.inr ⟨rfl, rfl, rfl⟩⟩, fun _ h => absurd h List.not_mem_nil⟩)
theorem po_1_H_objects : ∀ t ∈ ([1] : List Nat), POK 1 t 1 2 := (List.forall_mem_cons.mpr ⟨⟨0, ("ResurrectingHeap", F_H, 7), tf_H, rfl, rfl, tf_H_ok, nf_H, Or.inl ⟨_, rfl⟩, Or.inr ⟨rfl, rfl, rfl⟩⟩, fun _ h => absurd h List.not_mem_nil⟩)
theorem po_1_H_registered : ∀ t ∈ ([1] : List Nat), POK 1 t 2 2 := (List.forall_mem_cons.mpr ⟨⟨0, ("ResurrectingHeap", F_H, 7), tf_H, rfl, rfl, tf_H_ok, nf_H, Or.inl ⟨_, rfl⟩, Or.inr ⟨rfl, rfl, rfl⟩⟩, fun _ h => absurd h List.not_mem_nil⟩)
theorem po_1_H_waitingRow : ∀ t ∈ ([1] : List Nat), POK 1 t 3 2 := (List.forall_mem_cons.mpr ⟨⟨0, ("ResurrectingHeap", F_H, 7), tf_H, rfl, rfl, tf_H_ok, nf_H, Or.inl ⟨_, rfl⟩, Or.inr ⟨rfl, rfl, rfl⟩⟩, fun _ h => absurd h List.not_mem_nil⟩)
theorem po_11_G_tagged : ∀ t ∈ ([3, 4, 5] : List Nat), POK 11 t 4 1 := (List.forall_mem_cons.mpr ⟨⟨2, ("ResurrectingHeap$Vector", F_V, 7), tf_V, rfl, rfl, tf_V_ok, nf_V, rfl, Or.inl rfl⟩, List.forall_mem_cons.mpr ⟨⟨3, ("ResurrectingHeap$Weak", F_K, 7), tf_K, rfl, rfl, tf_K_ok, nf_K, rfl, Or.inl rfl⟩, List.forall_mem_cons.mpr ⟨⟨4, ("ResurrectingHeap$Table", F_T, 9), tf_T, rfl, rfl, tf_T_ok, nf_T, rfl, Or.inl rfl⟩, fun _ h => absurd h List.not_mem_nil⟩⟩⟩)
theorem po_11_G_tag : ∀ t ∈ ([3, 4, 5] : List Nat), POK 11 t 5 0 := (List.forall_mem_cons.mpr ⟨⟨2, ("ResurrectingHeap$Vector", F_V, 7), tf_V, rfl, rfl, tf_V_ok, nf_V, rfl, Or.inl rfl⟩, List.forall_mem_cons.mpr ⟨⟨3, ("ResurrectingHeap$Weak", F_K, 7), tf_K, rfl, rfl, tf_K_ok, nf_K, rfl, Or.inl rfl⟩, List.forall_mem_cons.mpr ⟨⟨4, ("ResurrectingHeap$Table", F_T, 9), tf_T, rfl, rfl, tf_T_ok, nf_T, rfl, Or.inl rfl⟩, fun _ h => absurd h List.not_mem_nil⟩⟩⟩)
theorem po_12_G_tagged : ∀ t ∈ ([3, 4, 5] : List Nat), POK 12 t 4 1 := (List.forall_mem_cons.mpr ⟨⟨2, ("ResurrectingHeap$Vector", F_V, 7), tf_V, rfl, rfl, tf_V_ok, nf_V, rfl, Or.inl rfl⟩, List.forall_mem_cons.mpr ⟨⟨3, ("ResurrectingHeap$Weak", F_K, 7), tf_K, rfl, rfl, tf_K_ok, nf_K, rfl, Or.inl rfl⟩, List.forall_mem_cons.mpr ⟨⟨4, ("ResurrectingHeap$Table", F_T, 9), tf_T, rfl, rfl, tf_T_ok, nf_T, rfl, Or.inl rfl⟩, fun _ h => absurd h List.not_mem_nil⟩⟩⟩)
theorem po_26_H_objectsMade : ∀ t ∈ ([1] : List Nat), POK 26 t 5 0 := (List.forall_mem_cons.mpr ⟨⟨0, ("ResurrectingHeap", F_H, 7), tf_H, rfl, rfl, tf_H_ok, nf_H, rfl, Or.inl rfl⟩, fun _ h => absurd h List.not_mem_nil⟩)
theorem po_26_G_place : ∀ t ∈ ([3, 4, 5] : List Nat), POK 26 t 2 0 := (List.forall_mem_cons.mpr ⟨⟨2, ("ResurrectingHeap$Vector", F_V, 7), tf_V, rfl, rfl, tf_V_ok, nf_V, rfl, Or.inl rfl⟩, List.forall_mem_cons.mpr ⟨⟨3, ("ResurrectingHeap$Weak", F_K, 7), tf_K, rfl, rfl, tf_K_ok, nf_K, rfl, Or.inl rfl⟩, List.forall_mem_cons.mpr ⟨⟨4, ("ResurrectingHeap$Table", F_T, 9), tf_T, rfl, rfl, tf_T_ok, nf_T, rfl, Or.inl rfl⟩, fun _ h => absurd h List.not_mem_nil⟩⟩⟩)
theorem po_26_H_usedCells : ∀ t ∈ ([1] : List Nat), POK 26 t 4 0 := (List.forall_mem_cons.mpr ⟨⟨0, ("ResurrectingHeap", F_H, 7), tf_H, rfl, rfl, tf_H_ok, nf_H, rfl, Or.inl rfl⟩, fun _ h => absurd h List.not_mem_nil⟩)
theorem po_27_H_collectionsMade : ∀ t ∈ ([1] : List Nat), POK 27 t 6 0 := (List.forall_mem_cons.mpr ⟨⟨0, ("ResurrectingHeap", F_H, 7), tf_H, rfl, rfl, tf_H_ok, nf_H, rfl, Or.inl rfl⟩, fun _ h => absurd h List.not_mem_nil⟩)
theorem po_28_G_marked : ∀ t ∈ ([3, 4, 5] : List Nat), POK 28 t 3 1 := (List.forall_mem_cons.mpr ⟨⟨2, ("ResurrectingHeap$Vector", F_V, 7), tf_V, rfl, rfl, tf_V_ok, nf_V, rfl, Or.inl rfl⟩, List.forall_mem_cons.mpr ⟨⟨3, ("ResurrectingHeap$Weak", F_K, 7), tf_K, rfl, rfl, tf_K_ok, nf_K, rfl, Or.inl rfl⟩, List.forall_mem_cons.mpr ⟨⟨4, ("ResurrectingHeap$Table", F_T, 9), tf_T, rfl, rfl, tf_T_ok, nf_T, rfl, Or.inl rfl⟩, fun _ h => absurd h List.not_mem_nil⟩⟩⟩)
theorem po_34_H_usedCells : ∀ t ∈ ([1] : List Nat), POK 34 t 4 0 := (List.forall_mem_cons.mpr ⟨⟨0, ("ResurrectingHeap", F_H, 7), tf_H, rfl, rfl, tf_H_ok, nf_H, rfl, Or.inl rfl⟩, fun _ h => absurd h List.not_mem_nil⟩)
theorem po_34_G_place : ∀ t ∈ ([3, 4, 5] : List Nat), POK 34 t 2 0 := (List.forall_mem_cons.mpr ⟨⟨2, ("ResurrectingHeap$Vector", F_V, 7), tf_V, rfl, rfl, tf_V_ok, nf_V, rfl, Or.inl rfl⟩, List.forall_mem_cons.mpr ⟨⟨3, ("ResurrectingHeap$Weak", F_K, 7), tf_K, rfl, rfl, tf_K_ok, nf_K, rfl, Or.inl rfl⟩, List.forall_mem_cons.mpr ⟨⟨4, ("ResurrectingHeap$Table", F_T, 9), tf_T, rfl, rfl, tf_T_ok, nf_T, rfl, Or.inl rfl⟩, fun _ h => absurd h List.not_mem_nil⟩⟩⟩)
theorem po_35_G_marked : ∀ t ∈ ([3, 4, 5] : List Nat), POK 35 t 3 1 := (List.forall_mem_cons.mpr ⟨⟨2, ("ResurrectingHeap$Vector", F_V, 7), tf_V, rfl, rfl, tf_V_ok, nf_V, rfl, Or.inl rfl⟩, List.forall_mem_cons.mpr ⟨⟨3, ("ResurrectingHeap$Weak", F_K, 7), tf_K, rfl, rfl, tf_K_ok, nf_K, rfl, Or.inl rfl⟩, List.forall_mem_cons.mpr ⟨⟨4, ("ResurrectingHeap$Table", F_T, 9), tf_T, rfl, rfl, tf_T_ok, nf_T, rfl, Or.inl rfl⟩, fun _ h => absurd h List.not_mem_nil⟩⟩⟩)
theorem po_36_M_varIs : ∀ t ∈ ([7] : List Nat), POK 36 t 0 2 := (List.forall_mem_cons.mpr ⟨⟨6, ("ResurrectingHeapModel", F_M, 18), tf_M, rfl, rfl, tf_M_ok, nf_M, Or.inr ⟨_, rfl⟩, Or.inl rfl⟩, fun _ h => absurd h List.not_mem_nil⟩)
theorem po_36_M_varHas : ∀ t ∈ ([7] : List Nat), POK 36 t 1 2 := (List.forall_mem_cons.mpr ⟨⟨6, ("ResurrectingHeapModel", F_M, 18), tf_M, rfl, rfl, tf_M_ok, nf_M, Or.inr ⟨_, rfl⟩, Or.inl rfl⟩, fun _ h => absurd h List.not_mem_nil⟩)
theorem po_36_M_name : ∀ t ∈ ([7] : List Nat), POK 36 t 4 2 := (List.forall_mem_cons.mpr ⟨⟨6, ("ResurrectingHeapModel", F_M, 18), tf_M, rfl, rfl, tf_M_ok, nf_M, Or.inr ⟨_, rfl⟩, Or.inl rfl⟩, fun _ h => absurd h List.not_mem_nil⟩)
theorem po_36_M_sort : ∀ t ∈ ([7] : List Nat), POK 36 t 5 2 := (List.forall_mem_cons.mpr ⟨⟨6, ("ResurrectingHeapModel", F_M, 18), tf_M, rfl, rfl, tf_M_ok, nf_M, Or.inr ⟨_, rfl⟩, Or.inl rfl⟩, fun _ h => absurd h List.not_mem_nil⟩)
theorem po_36_M_many : ∀ t ∈ ([7] : List Nat), POK 36 t 6 2 := (List.forall_mem_cons.mpr ⟨⟨6, ("ResurrectingHeapModel", F_M, 18), tf_M, rfl, rfl, tf_M_ok, nf_M, Or.inr ⟨_, rfl⟩, Or.inl rfl⟩, fun _ h => absurd h List.not_mem_nil⟩)
theorem po_36_M_is : ∀ t ∈ ([7] : List Nat), POK 36 t 7 2 := (List.forall_mem_cons.mpr ⟨⟨6, ("ResurrectingHeapModel", F_M, 18), tf_M, rfl, rfl, tf_M_ok, nf_M, Or.inr ⟨_, rfl⟩, Or.inl rfl⟩, fun _ h => absurd h List.not_mem_nil⟩)
theorem po_36_M_has : ∀ t ∈ ([7] : List Nat), POK 36 t 8 2 := (List.forall_mem_cons.mpr ⟨⟨6, ("ResurrectingHeapModel", F_M, 18), tf_M, rfl, rfl, tf_M_ok, nf_M, Or.inr ⟨_, rfl⟩, Or.inl rfl⟩, fun _ h => absurd h List.not_mem_nil⟩)
theorem po_36_M_keys : ∀ t ∈ ([7] : List Nat), POK 36 t 9 2 := (List.forall_mem_cons.mpr ⟨⟨6, ("ResurrectingHeapModel", F_M, 18), tf_M, rfl, rfl, tf_M_ok, nf_M, Or.inr ⟨_, rfl⟩, Or.inl rfl⟩, fun _ h => absurd h List.not_mem_nil⟩)
theorem po_36_M_mark : ∀ t ∈ ([7] : List Nat), POK 36 t 10 2 := (List.forall_mem_cons.mpr ⟨⟨6, ("ResurrectingHeapModel", F_M, 18), tf_M, rfl, rfl, tf_M_ok, nf_M, Or.inr ⟨_, rfl⟩, Or.inl rfl⟩, fun _ h => absurd h List.not_mem_nil⟩)
theorem po_36_M_regName : ∀ t ∈ ([7] : List Nat), POK 36 t 12 2 := (List.forall_mem_cons.mpr ⟨⟨6, ("ResurrectingHeapModel", F_M, 18), tf_M, rfl, rfl, tf_M_ok, nf_M, Or.inr ⟨_, rfl⟩, Or.inl rfl⟩, fun _ h => absurd h List.not_mem_nil⟩)
theorem po_36_M_regTag : ∀ t ∈ ([7] : List Nat), POK 36 t 13 2 := (List.forall_mem_cons.mpr ⟨⟨6, ("ResurrectingHeapModel", F_M, 18), tf_M, rfl, rfl, tf_M_ok, nf_M, Or.inr ⟨_, rfl⟩, Or.inl rfl⟩, fun _ h => absurd h List.not_mem_nil⟩)
theorem po_36_M_waitName : ∀ t ∈ ([7] : List Nat), POK 36 t 15 2 := (List.forall_mem_cons.mpr ⟨⟨6, ("ResurrectingHeapModel", F_M, 18), tf_M, rfl, rfl, tf_M_ok, nf_M, Or.inr ⟨_, rfl⟩, Or.inl rfl⟩, fun _ h => absurd h List.not_mem_nil⟩)
theorem po_36_M_waitTag : ∀ t ∈ ([7] : List Nat), POK 36 t 16 2 := (List.forall_mem_cons.mpr ⟨⟨6, ("ResurrectingHeapModel", F_M, 18), tf_M, rfl, rfl, tf_M_ok, nf_M, Or.inr ⟨_, rfl⟩, Or.inl rfl⟩, fun _ h => absurd h List.not_mem_nil⟩)
theorem po_46_M_objects : ∀ t ∈ ([7] : List Nat), POK 46 t 2 0 := (List.forall_mem_cons.mpr ⟨⟨6, ("ResurrectingHeapModel", F_M, 18), tf_M, rfl, rfl, tf_M_ok, nf_M, rfl, Or.inl rfl⟩, fun _ h => absurd h List.not_mem_nil⟩)
theorem po_46_M_made : ∀ t ∈ ([7] : List Nat), POK 46 t 3 0 := (List.forall_mem_cons.mpr ⟨⟨6, ("ResurrectingHeapModel", F_M, 18), tf_M, rfl, rfl, tf_M_ok, nf_M, rfl, Or.inl rfl⟩, fun _ h => absurd h List.not_mem_nil⟩)
theorem po_55_M_registered : ∀ t ∈ ([7] : List Nat), POK 55 t 11 0 := (List.forall_mem_cons.mpr ⟨⟨6, ("ResurrectingHeapModel", F_M, 18), tf_M, rfl, rfl, tf_M_ok, nf_M, rfl, Or.inl rfl⟩, fun _ h => absurd h List.not_mem_nil⟩)
theorem po_56_M_waits : ∀ t ∈ ([7] : List Nat), POK 56 t 14 0 := (List.forall_mem_cons.mpr ⟨⟨6, ("ResurrectingHeapModel", F_M, 18), tf_M, rfl, rfl, tf_M_ok, nf_M, rfl, Or.inl rfl⟩, fun _ h => absurd h List.not_mem_nil⟩)
theorem po_64_M_waits : ∀ t ∈ ([7] : List Nat), POK 64 t 14 0 := (List.forall_mem_cons.mpr ⟨⟨6, ("ResurrectingHeapModel", F_M, 18), tf_M, rfl, rfl, tf_M_ok, nf_M, rfl, Or.inl rfl⟩, fun _ h => absurd h List.not_mem_nil⟩)
theorem po_64_M_registered : ∀ t ∈ ([7] : List Nat), POK 64 t 11 0 := (List.forall_mem_cons.mpr ⟨⟨6, ("ResurrectingHeapModel", F_M, 18), tf_M, rfl, rfl, tf_M_ok, nf_M, rfl, Or.inl rfl⟩, fun _ h => absurd h List.not_mem_nil⟩)
theorem po_65_M_objects : ∀ t ∈ ([7] : List Nat), POK 65 t 2 0 := (List.forall_mem_cons.mpr ⟨⟨6, ("ResurrectingHeapModel", F_M, 18), tf_M, rfl, rfl, tf_M_ok, nf_M, rfl, Or.inl rfl⟩, fun _ h => absurd h List.not_mem_nil⟩)
theorem po_66_M_runs : ∀ t ∈ ([7] : List Nat), POK 66 t 17 0 := (List.forall_mem_cons.mpr ⟨⟨6, ("ResurrectingHeapModel", F_M, 18), tf_M, rfl, rfl, tf_M_ok, nf_M, rfl, Or.inl rfl⟩, fun _ h => absurd h List.not_mem_nil⟩)
theorem po_75_N_amount : ∀ t ∈ ([2] : List Nat), POK 75 t 0 0 := (List.forall_mem_cons.mpr ⟨⟨1, ("ResurrectingHeap$Numeral", F_N, 1), tf_N, rfl, rfl, tf_N_ok, nf_N, rfl, Or.inr ⟨rfl, rfl, rfl⟩⟩, fun _ h => absurd h List.not_mem_nil⟩)
theorem po_77_R_things : ∀ t ∈ ([6] : List Nat), POK 77 t 0 2 := (List.forall_mem_cons.mpr ⟨⟨5, ("ResurrectingHeap$Row", F_R, 2), tf_R, rfl, rfl, tf_R_ok, nf_R, Or.inr ⟨_, rfl⟩, Or.inr ⟨rfl, rfl, rfl⟩⟩, fun _ h => absurd h List.not_mem_nil⟩)
theorem po_80_R_count : ∀ t ∈ ([6] : List Nat), POK 80 t 1 0 := (List.forall_mem_cons.mpr ⟨⟨5, ("ResurrectingHeap$Row", F_R, 2), tf_R, rfl, rfl, tf_R_ok, nf_R, rfl, Or.inl rfl⟩, fun _ h => absurd h List.not_mem_nil⟩)
theorem po_81_R_count : ∀ t ∈ ([6] : List Nat), POK 81 t 1 0 := (List.forall_mem_cons.mpr ⟨⟨5, ("ResurrectingHeap$Row", F_R, 2), tf_R, rfl, rfl, tf_R_ok, nf_R, rfl, Or.inl rfl⟩, fun _ h => absurd h List.not_mem_nil⟩)
theorem po_83_R_count : ∀ t ∈ ([6] : List Nat), POK 83 t 1 0 := (List.forall_mem_cons.mpr ⟨⟨5, ("ResurrectingHeap$Row", F_R, 2), tf_R, rfl, rfl, tf_R_ok, nf_R, rfl, Or.inl rfl⟩, fun _ h => absurd h List.not_mem_nil⟩)
theorem po_84_T_keys : ∀ t ∈ ([5] : List Nat), POK 84 t 6 2 := (List.forall_mem_cons.mpr ⟨⟨4, ("ResurrectingHeap$Table", F_T, 9), tf_T, rfl, rfl, tf_T_ok, nf_T, Or.inr ⟨_, rfl⟩, Or.inr ⟨rfl, rfl, rfl⟩⟩, fun _ h => absurd h List.not_mem_nil⟩)
theorem po_84_T_values : ∀ t ∈ ([5] : List Nat), POK 84 t 7 2 := (List.forall_mem_cons.mpr ⟨⟨4, ("ResurrectingHeap$Table", F_T, 9), tf_T, rfl, rfl, tf_T_ok, nf_T, Or.inr ⟨_, rfl⟩, Or.inr ⟨rfl, rfl, rfl⟩⟩, fun _ h => absurd h List.not_mem_nil⟩)
theorem po_85_T_entryCount : ∀ t ∈ ([5] : List Nat), POK 85 t 8 0 := (List.forall_mem_cons.mpr ⟨⟨4, ("ResurrectingHeap$Table", F_T, 9), tf_T, rfl, rfl, tf_T_ok, nf_T, rfl, Or.inl rfl⟩, fun _ h => absurd h List.not_mem_nil⟩)
theorem po_91_T_entryCount : ∀ t ∈ ([5] : List Nat), POK 91 t 8 0 := (List.forall_mem_cons.mpr ⟨⟨4, ("ResurrectingHeap$Table", F_T, 9), tf_T, rfl, rfl, tf_T_ok, nf_T, rfl, Or.inl rfl⟩, fun _ h => absurd h List.not_mem_nil⟩)
theorem po_92_G_hash : ∀ t ∈ ([3, 4, 5] : List Nat), POK 92 t 0 0 := (List.forall_mem_cons.mpr ⟨⟨2, ("ResurrectingHeap$Vector", F_V, 7), tf_V, rfl, rfl, tf_V_ok, nf_V, rfl, Or.inr ⟨rfl, rfl, rfl⟩⟩, List.forall_mem_cons.mpr ⟨⟨3, ("ResurrectingHeap$Weak", F_K, 7), tf_K, rfl, rfl, tf_K_ok, nf_K, rfl, Or.inr ⟨rfl, rfl, rfl⟩⟩, List.forall_mem_cons.mpr ⟨⟨4, ("ResurrectingHeap$Table", F_T, 9), tf_T, rfl, rfl, tf_T_ok, nf_T, rfl, Or.inr ⟨rfl, rfl, rfl⟩⟩, fun _ h => absurd h List.not_mem_nil⟩⟩⟩)
theorem po_92_G_cells : ∀ t ∈ ([3, 4, 5] : List Nat), POK 92 t 1 0 := (List.forall_mem_cons.mpr ⟨⟨2, ("ResurrectingHeap$Vector", F_V, 7), tf_V, rfl, rfl, tf_V_ok, nf_V, rfl, Or.inr ⟨rfl, rfl, rfl⟩⟩, List.forall_mem_cons.mpr ⟨⟨3, ("ResurrectingHeap$Weak", F_K, 7), tf_K, rfl, rfl, tf_K_ok, nf_K, rfl, Or.inr ⟨rfl, rfl, rfl⟩⟩, List.forall_mem_cons.mpr ⟨⟨4, ("ResurrectingHeap$Table", F_T, 9), tf_T, rfl, rfl, tf_T_ok, nf_T, rfl, Or.inr ⟨rfl, rfl, rfl⟩⟩, fun _ h => absurd h List.not_mem_nil⟩⟩⟩)
theorem po_94_V_fields : ∀ t ∈ ([3] : List Nat), POK 94 t 6 2 := (List.forall_mem_cons.mpr ⟨⟨2, ("ResurrectingHeap$Vector", F_V, 7), tf_V, rfl, rfl, tf_V_ok, nf_V, Or.inr ⟨_, rfl⟩, Or.inr ⟨rfl, rfl, rfl⟩⟩, fun _ h => absurd h List.not_mem_nil⟩)
theorem po_100_K_target : ∀ t ∈ ([4] : List Nat), POK 100 t 6 2 := (List.forall_mem_cons.mpr ⟨⟨3, ("ResurrectingHeap$Weak", F_K, 7), tf_K, rfl, rfl, tf_K_ok, nf_K, Or.inl ⟨_, rfl⟩, Or.inl rfl⟩, fun _ h => absurd h List.not_mem_nil⟩)
theorem po_104_K_target : ∀ t ∈ ([4] : List Nat), POK 104 t 6 2 := (List.forall_mem_cons.mpr ⟨⟨3, ("ResurrectingHeap$Weak", F_K, 7), tf_K, rfl, rfl, tf_K_ok, nf_K, Or.inl ⟨_, rfl⟩, Or.inl rfl⟩, fun _ h => absurd h List.not_mem_nil⟩)
theorem no_0_7 : NOK 0 7 1 7 df_H := ⟨0, ("ResurrectingHeap", F_H, 7), tf_H, rfl, by decide, rfl, rfl, tf_H_ok, by decide +kernel, fun j => (by unfold df_H; (repeat' split) <;> first | exact inR0 | exact trivial), ly_H, inW 40 (by decide +kernel) (by decide +kernel), inW 41 (by decide +kernel) (by decide +kernel), inW 31 (by decide +kernel) (by decide +kernel), by decide⟩
theorem no_0_10 : NOK 0 10 7 18 df_M := ⟨6, ("ResurrectingHeapModel", F_M, 18), tf_M, rfl, by decide, rfl, rfl, tf_M_ok, by decide +kernel, fun j => (by unfold df_M; (repeat' split) <;> first | exact inR0 | exact trivial), ly_M, inW 411 (by decide +kernel) (by decide +kernel), inW 412 (by decide +kernel) (by decide +kernel), inW 33 (by decide +kernel) (by decide +kernel), by decide⟩
theorem no_1_15 : NOK 1 15 6 2 df_R := ⟨5, ("ResurrectingHeap$Row", F_R, 2), tf_R, rfl, by decide, rfl, rfl, tf_R_ok, by decide +kernel, fun j => (by unfold df_R; (repeat' split) <;> first | exact inR0 | exact trivial), ly_R, inW 50 (by decide +kernel) (by decide +kernel), inW 51 (by decide +kernel) (by decide +kernel), inW 32 (by decide +kernel) (by decide +kernel), by decide⟩
theorem no_2_36 : NOK 2 36 2 1 df_N := ⟨1, ("ResurrectingHeap$Numeral", F_N, 1), tf_N, rfl, by decide, rfl, rfl, tf_N_ok, by decide +kernel, fun j => (by unfold df_N; (repeat' split) <;> first | exact inR0 | exact trivial), ly_N, inW 96 (by decide +kernel) (by decide +kernel), inW 97 (by decide +kernel) (by decide +kernel), inW 35 (by decide +kernel) (by decide +kernel), by decide⟩
theorem no_4_46 : NOK 4 46 3 7 df_V := ⟨2, ("ResurrectingHeap$Vector", F_V, 7), tf_V, rfl, by decide, rfl, rfl, tf_V_ok, by decide +kernel, fun j => (by unfold df_V; (repeat' split) <;> first | exact inR0 | exact trivial), ly_V, inW 209 (by decide +kernel) (by decide +kernel), inW 210 (by decide +kernel) (by decide +kernel), inW 37 (by decide +kernel) (by decide +kernel), by decide⟩
theorem no_5_63 : NOK 5 63 4 7 df_K := ⟨3, ("ResurrectingHeap$Weak", F_K, 7), tf_K, rfl, by decide, rfl, rfl, tf_K_ok, by decide +kernel, fun j => (by unfold df_K; (repeat' split) <;> first | exact inR0 | exact trivial), ly_K, inW 259 (by decide +kernel) (by decide +kernel), inW 260 (by decide +kernel) (by decide +kernel), inW 38 (by decide +kernel) (by decide +kernel), by decide⟩
theorem no_6_68 : NOK 6 68 5 9 df_T := ⟨4, ("ResurrectingHeap$Table", F_T, 9), tf_T, rfl, by decide, rfl, rfl, tf_T_ok, by decide +kernel, fun j => (by unfold df_T; (repeat' split) <;> first | exact inR0 | exact trivial), ly_T, inW 280 (by decide +kernel) (by decide +kernel), inW 281 (by decide +kernel) (by decide +kernel), inW 39 (by decide +kernel) (by decide +kernel), by decide⟩
theorem yo_G : YOK "ResurrectingHeap$Thing" [3, 4, 5] := (List.forall_mem_cons.mpr ⟨⟨2, ("ResurrectingHeap$Vector", F_V, 7), rfl, by decide, rfl, inW 629 (by decide +kernel) (by decide +kernel)⟩, List.forall_mem_cons.mpr ⟨⟨3, ("ResurrectingHeap$Weak", F_K, 7), rfl, by decide, rfl, inW 630 (by decide +kernel) (by decide +kernel)⟩, List.forall_mem_cons.mpr ⟨⟨4, ("ResurrectingHeap$Table", F_T, 9), rfl, by decide, rfl, inW 628 (by decide +kernel) (by decide +kernel)⟩, fun _ h => absurd h List.not_mem_nil⟩⟩⟩)
theorem zo_G : ZOK "ResurrectingHeap$Thing" [2] := (List.forall_mem_cons.mpr ⟨⟨1, ("ResurrectingHeap$Numeral", F_N, 1), rfl, by decide, rfl, by decide +kernel⟩, fun _ h => absurd h List.not_mem_nil⟩)
theorem yo_U : YOK "ResurrectingHeap$Value" [2, 3, 4, 5] := (List.forall_mem_cons.mpr ⟨⟨1, ("ResurrectingHeap$Numeral", F_N, 1), rfl, by decide, rfl, inW 635 (by decide +kernel) (by decide +kernel)⟩, List.forall_mem_cons.mpr ⟨⟨2, ("ResurrectingHeap$Vector", F_V, 7), rfl, by decide, rfl, inW 637 (by decide +kernel) (by decide +kernel)⟩, List.forall_mem_cons.mpr ⟨⟨3, ("ResurrectingHeap$Weak", F_K, 7), rfl, by decide, rfl, inW 638 (by decide +kernel) (by decide +kernel)⟩, List.forall_mem_cons.mpr ⟨⟨4, ("ResurrectingHeap$Table", F_T, 9), rfl, by decide, rfl, inW 636 (by decide +kernel) (by decide +kernel)⟩, fun _ h => absurd h List.not_mem_nil⟩⟩⟩⟩)
theorem yo_V : YOK "ResurrectingHeap$Vector" [3] := (List.forall_mem_cons.mpr ⟨⟨2, ("ResurrectingHeap$Vector", F_V, 7), rfl, by decide, rfl, inW 631 (by decide +kernel) (by decide +kernel)⟩, fun _ h => absurd h List.not_mem_nil⟩)
theorem zo_V : ZOK "ResurrectingHeap$Vector" [2, 4, 5] := (List.forall_mem_cons.mpr ⟨⟨1, ("ResurrectingHeap$Numeral", F_N, 1), rfl, by decide, rfl, by decide +kernel⟩, List.forall_mem_cons.mpr ⟨⟨3, ("ResurrectingHeap$Weak", F_K, 7), rfl, by decide, rfl, by decide +kernel⟩, List.forall_mem_cons.mpr ⟨⟨4, ("ResurrectingHeap$Table", F_T, 9), rfl, by decide, rfl, by decide +kernel⟩, fun _ h => absurd h List.not_mem_nil⟩⟩⟩)
theorem yo_K : YOK "ResurrectingHeap$Weak" [4] := (List.forall_mem_cons.mpr ⟨⟨3, ("ResurrectingHeap$Weak", F_K, 7), rfl, by decide, rfl, inW 632 (by decide +kernel) (by decide +kernel)⟩, fun _ h => absurd h List.not_mem_nil⟩)
theorem zo_K : ZOK "ResurrectingHeap$Weak" [2, 3, 5] := (List.forall_mem_cons.mpr ⟨⟨1, ("ResurrectingHeap$Numeral", F_N, 1), rfl, by decide, rfl, by decide +kernel⟩, List.forall_mem_cons.mpr ⟨⟨2, ("ResurrectingHeap$Vector", F_V, 7), rfl, by decide, rfl, by decide +kernel⟩, List.forall_mem_cons.mpr ⟨⟨4, ("ResurrectingHeap$Table", F_T, 9), rfl, by decide, rfl, by decide +kernel⟩, fun _ h => absurd h List.not_mem_nil⟩⟩⟩)
theorem yo_T : YOK "ResurrectingHeap$Table" [5] := (List.forall_mem_cons.mpr ⟨⟨4, ("ResurrectingHeap$Table", F_T, 9), rfl, by decide, rfl, inW 633 (by decide +kernel) (by decide +kernel)⟩, fun _ h => absurd h List.not_mem_nil⟩)
theorem zo_T : ZOK "ResurrectingHeap$Table" [2, 3, 4] := (List.forall_mem_cons.mpr ⟨⟨1, ("ResurrectingHeap$Numeral", F_N, 1), rfl, by decide, rfl, by decide +kernel⟩, List.forall_mem_cons.mpr ⟨⟨2, ("ResurrectingHeap$Vector", F_V, 7), rfl, by decide, rfl, by decide +kernel⟩, List.forall_mem_cons.mpr ⟨⟨3, ("ResurrectingHeap$Weak", F_K, 7), rfl, by decide, rfl, by decide +kernel⟩, fun _ h => absurd h List.not_mem_nil⟩⟩⟩)
theorem yo_N : YOK "ResurrectingHeap$Numeral" [2] := (List.forall_mem_cons.mpr ⟨⟨1, ("ResurrectingHeap$Numeral", F_N, 1), rfl, by decide, rfl, inW 634 (by decide +kernel) (by decide +kernel)⟩, fun _ h => absurd h List.not_mem_nil⟩)
theorem zo_N : ZOK "ResurrectingHeap$Numeral" [3, 4, 5] := (List.forall_mem_cons.mpr ⟨⟨2, ("ResurrectingHeap$Vector", F_V, 7), rfl, by decide, rfl, by decide +kernel⟩, List.forall_mem_cons.mpr ⟨⟨3, ("ResurrectingHeap$Weak", F_K, 7), rfl, by decide, rfl, by decide +kernel⟩, List.forall_mem_cons.mpr ⟨⟨4, ("ResurrectingHeap$Table", F_T, 9), rfl, by decide, rfl, by decide +kernel⟩, fun _ h => absurd h List.not_mem_nil⟩⟩⟩)
theorem ko_1 : COK 1 0 := ⟨inW 44 (by decide +kernel) (by decide +kernel), inW 31 (by decide +kernel) (by decide +kernel), by decide, by decide +kernel⟩
theorem mo_1 : MOK 1 := ⟨by decide +kernel, rfl, fun h => (by first | rfl | cases h), by decide⟩
theorem ko_2 : COK 2 2 := ⟨inW 90 (by decide +kernel) (by decide +kernel), inW 31 (by decide +kernel) (by decide +kernel), by decide, by decide +kernel⟩
theorem mo_2 : MOK 2 := ⟨by decide +kernel, rfl, fun h => (by first | rfl | cases h), by decide⟩
theorem ko_3 : COK 3 2 := ⟨inW 113 (by decide +kernel) (by decide +kernel), inW 31 (by decide +kernel) (by decide +kernel), by decide, by decide +kernel⟩
theorem mo_3 : MOK 3 := ⟨by decide +kernel, rfl, fun h => (by first | rfl | cases h), by decide⟩
theorem ko_4 : COK 4 2 := ⟨inW 121 (by decide +kernel) (by decide +kernel), inW 31 (by decide +kernel) (by decide +kernel), by decide, by decide +kernel⟩
theorem mo_4 : MOK 4 := ⟨by decide +kernel, rfl, fun h => (by first | rfl | cases h), by decide⟩
theorem ko_5 : COK 5 2 := ⟨inW 254 (by decide +kernel) (by decide +kernel), inW 31 (by decide +kernel) (by decide +kernel), by decide, by decide +kernel⟩
theorem mo_5 : MOK 5 := ⟨by decide +kernel, rfl, fun h => (by first | rfl | cases h), by decide⟩
theorem ko_6 : COK 6 1 := ⟨inW 279 (by decide +kernel) (by decide +kernel), inW 31 (by decide +kernel) (by decide +kernel), by decide, by decide +kernel⟩
theorem mo_6 : MOK 6 := ⟨by decide +kernel, rfl, fun h => (by first | rfl | cases h), by decide⟩
theorem ko_7 : COK 7 3 := ⟨inW 307 (by decide +kernel) (by decide +kernel), inW 31 (by decide +kernel) (by decide +kernel), by decide, by decide +kernel⟩
theorem mo_7 : MOK 7 := ⟨by decide +kernel, rfl, fun h => (by first | rfl | cases h), by decide⟩
theorem ko_8 : COK 8 3 := ⟨inW 315 (by decide +kernel) (by decide +kernel), inW 31 (by decide +kernel) (by decide +kernel), by decide, by decide +kernel⟩
theorem mo_8 : MOK 8 := ⟨by decide +kernel, rfl, fun h => (by first | rfl | cases h), by decide⟩
theorem ko_9 : COK 9 3 := ⟨inW 319 (by decide +kernel) (by decide +kernel), inW 31 (by decide +kernel) (by decide +kernel), by decide, by decide +kernel⟩
theorem mo_9 : MOK 9 := ⟨by decide +kernel, rfl, fun h => (by first | rfl | cases h), by decide⟩
theorem ko_10 : COK 10 3 := ⟨inW 331 (by decide +kernel) (by decide +kernel), inW 31 (by decide +kernel) (by decide +kernel), by decide, by decide +kernel⟩
theorem mo_10 : MOK 10 := ⟨by decide +kernel, rfl, fun h => (by first | rfl | cases h), by decide⟩
theorem ko_11 : COK 11 2 := ⟨inW 339 (by decide +kernel) (by decide +kernel), inW 31 (by decide +kernel) (by decide +kernel), by decide, by decide +kernel⟩
theorem mo_11 : MOK 11 := ⟨by decide +kernel, rfl, fun h => (by first | rfl | cases h), by decide⟩
theorem ko_12 : COK 12 1 := ⟨inW 343 (by decide +kernel) (by decide +kernel), inW 31 (by decide +kernel) (by decide +kernel), by decide, by decide +kernel⟩
theorem mo_12 : MOK 12 := ⟨by decide +kernel, rfl, fun h => (by first | rfl | cases h), by decide⟩
theorem ko_13 : COK 13 0 := ⟨inW 351 (by decide +kernel) (by decide +kernel), inW 31 (by decide +kernel) (by decide +kernel), by decide, by decide +kernel⟩
theorem mo_13 : MOK 13 := ⟨by decide +kernel, rfl, fun h => (by first | rfl | cases h), by decide⟩
theorem ko_14 : COK 14 1 := ⟨inW 355 (by decide +kernel) (by decide +kernel), inW 31 (by decide +kernel) (by decide +kernel), by decide, by decide +kernel⟩
theorem mo_14 : MOK 14 := ⟨by decide +kernel, rfl, fun h => (by first | rfl | cases h), by decide⟩
theorem ko_15 : COK 15 1 := ⟨inW 374 (by decide +kernel) (by decide +kernel), inW 31 (by decide +kernel) (by decide +kernel), by decide, by decide +kernel⟩
theorem mo_15 : MOK 15 := ⟨by decide +kernel, rfl, fun h => (by first | rfl | cases h), by decide⟩
theorem ko_16 : COK 16 1 := ⟨inW 378 (by decide +kernel) (by decide +kernel), inW 31 (by decide +kernel) (by decide +kernel), by decide, by decide +kernel⟩
theorem mo_16 : MOK 16 := ⟨by decide +kernel, rfl, fun h => (by first | rfl | cases h), by decide⟩
theorem ko_17 : COK 17 1 := ⟨inW 382 (by decide +kernel) (by decide +kernel), inW 31 (by decide +kernel) (by decide +kernel), by decide, by decide +kernel⟩
theorem mo_17 : MOK 17 := ⟨by decide +kernel, rfl, fun h => (by first | rfl | cases h), by decide⟩
theorem ko_18 : COK 18 1 := ⟨inW 386 (by decide +kernel) (by decide +kernel), inW 31 (by decide +kernel) (by decide +kernel), by decide, by decide +kernel⟩
theorem mo_18 : MOK 18 := ⟨by decide +kernel, rfl, fun h => (by first | rfl | cases h), by decide⟩
theorem ko_19 : COK 19 0 := ⟨inW 402 (by decide +kernel) (by decide +kernel), inW 31 (by decide +kernel) (by decide +kernel), by decide, by decide +kernel⟩
theorem mo_19 : MOK 19 := ⟨by decide +kernel, rfl, fun h => (by first | rfl | cases h), by decide⟩
theorem ko_20 : COK 20 0 := ⟨inW 406 (by decide +kernel) (by decide +kernel), inW 31 (by decide +kernel) (by decide +kernel), by decide, by decide +kernel⟩
theorem mo_20 : MOK 20 := ⟨by decide +kernel, rfl, fun h => (by first | rfl | cases h), by decide⟩
theorem ko_21 : COK 21 0 := ⟨inW 410 (by decide +kernel) (by decide +kernel), inW 31 (by decide +kernel) (by decide +kernel), by decide, by decide +kernel⟩
theorem mo_21 : MOK 21 := ⟨by decide +kernel, rfl, fun h => (by first | rfl | cases h), by decide⟩
theorem ko_22 : COK 22 1 := ⟨inW 93 (by decide +kernel) (by decide +kernel), inW 31 (by decide +kernel) (by decide +kernel), by decide, by decide +kernel⟩
theorem mo_22 : MOK 22 := ⟨by decide +kernel, rfl, fun h => (by first | rfl | cases h), by decide⟩
theorem ko_23 : COK 23 1 := ⟨inW 117 (by decide +kernel) (by decide +kernel), inW 31 (by decide +kernel) (by decide +kernel), by decide, by decide +kernel⟩
theorem mo_23 : MOK 23 := ⟨by decide +kernel, rfl, fun h => (by first | rfl | cases h), by decide⟩
theorem ko_24 : COK 24 1 := ⟨inW 258 (by decide +kernel) (by decide +kernel), inW 31 (by decide +kernel) (by decide +kernel), by decide, by decide +kernel⟩
theorem mo_24 : MOK 24 := ⟨by decide +kernel, rfl, fun h => (by first | rfl | cases h), by decide⟩
theorem ko_25 : COK 25 1 := ⟨inW 125 (by decide +kernel) (by decide +kernel), inW 31 (by decide +kernel) (by decide +kernel), by decide, by decide +kernel⟩
theorem mo_25 : MOK 25 := ⟨by decide +kernel, rfl, fun h => (by first | rfl | cases h), by decide⟩
theorem ko_26 : COK 26 2 := ⟨inW 250 (by decide +kernel) (by decide +kernel), inW 31 (by decide +kernel) (by decide +kernel), by decide, by decide +kernel⟩
theorem mo_26 : MOK 26 := ⟨by decide +kernel, rfl, fun h => (by first | rfl | cases h), by decide⟩
theorem ko_27 : COK 27 0 := ⟨inW 129 (by decide +kernel) (by decide +kernel), inW 31 (by decide +kernel) (by decide +kernel), by decide, by decide +kernel⟩
theorem mo_27 : MOK 27 := ⟨by decide +kernel, rfl, fun h => (by first | rfl | cases h), by decide⟩
theorem ko_28 : COK 28 0 := ⟨inW 133 (by decide +kernel) (by decide +kernel), inW 31 (by decide +kernel) (by decide +kernel), by decide, by decide +kernel⟩
theorem mo_28 : MOK 28 := ⟨by decide +kernel, rfl, fun h => (by first | rfl | cases h), by decide⟩
theorem ko_29 : COK 29 0 := ⟨inW 145 (by decide +kernel) (by decide +kernel), inW 31 (by decide +kernel) (by decide +kernel), by decide, by decide +kernel⟩
theorem mo_29 : MOK 29 := ⟨by decide +kernel, rfl, fun h => (by first | rfl | cases h), by decide⟩
theorem ko_30 : COK 30 0 := ⟨inW 158 (by decide +kernel) (by decide +kernel), inW 31 (by decide +kernel) (by decide +kernel), by decide, by decide +kernel⟩
theorem mo_30 : MOK 30 := ⟨by decide +kernel, rfl, fun h => (by first | rfl | cases h), by decide⟩
theorem ko_31 : COK 31 0 := ⟨inW 162 (by decide +kernel) (by decide +kernel), inW 31 (by decide +kernel) (by decide +kernel), by decide, by decide +kernel⟩
theorem mo_31 : MOK 31 := ⟨by decide +kernel, rfl, fun h => (by first | rfl | cases h), by decide⟩
theorem ko_32 : COK 32 0 := ⟨inW 180 (by decide +kernel) (by decide +kernel), inW 31 (by decide +kernel) (by decide +kernel), by decide, by decide +kernel⟩
theorem mo_32 : MOK 32 := ⟨by decide +kernel, rfl, fun h => (by first | rfl | cases h), by decide⟩
theorem ko_33 : COK 33 0 := ⟨inW 196 (by decide +kernel) (by decide +kernel), inW 31 (by decide +kernel) (by decide +kernel), by decide, by decide +kernel⟩
theorem mo_33 : MOK 33 := ⟨by decide +kernel, rfl, fun h => (by first | rfl | cases h), by decide⟩
theorem ko_34 : COK 34 0 := ⟨inW 208 (by decide +kernel) (by decide +kernel), inW 31 (by decide +kernel) (by decide +kernel), by decide, by decide +kernel⟩
theorem mo_34 : MOK 34 := ⟨by decide +kernel, rfl, fun h => (by first | rfl | cases h), by decide⟩
theorem ko_35 : COK 35 1 := ⟨inW 148 (by decide +kernel) (by decide +kernel), inW 31 (by decide +kernel) (by decide +kernel), by decide, by decide +kernel⟩
theorem mo_35 : MOK 35 := ⟨by decide +kernel, rfl, fun h => (by first | rfl | cases h), by decide⟩
theorem ko_36 : COK 36 0 := ⟨inW 415 (by decide +kernel) (by decide +kernel), inW 33 (by decide +kernel) (by decide +kernel), by decide, by decide +kernel⟩
theorem mo_36 : MOK 36 := ⟨by decide +kernel, rfl, fun h => (by first | rfl | cases h), by decide⟩
theorem ko_37 : COK 37 1 := ⟨inW 480 (by decide +kernel) (by decide +kernel), inW 33 (by decide +kernel) (by decide +kernel), by decide, by decide +kernel⟩
theorem mo_37 : MOK 37 := ⟨by decide +kernel, rfl, fun h => (by first | rfl | cases h), by decide⟩
theorem ko_38 : COK 38 1 := ⟨inW 522 (by decide +kernel) (by decide +kernel), inW 33 (by decide +kernel) (by decide +kernel), by decide, by decide +kernel⟩
theorem mo_38 : MOK 38 := ⟨by decide +kernel, rfl, fun h => (by first | rfl | cases h), by decide⟩
theorem ko_39 : COK 39 1 := ⟨inW 558 (by decide +kernel) (by decide +kernel), inW 33 (by decide +kernel) (by decide +kernel), by decide, by decide +kernel⟩
theorem mo_39 : MOK 39 := ⟨by decide +kernel, rfl, fun h => (by first | rfl | cases h), by decide⟩
theorem ko_40 : COK 40 2 := ⟨inW 570 (by decide +kernel) (by decide +kernel), inW 33 (by decide +kernel) (by decide +kernel), by decide, by decide +kernel⟩
theorem mo_40 : MOK 40 := ⟨by decide +kernel, rfl, fun h => (by first | rfl | cases h), by decide⟩
theorem ko_41 : COK 41 3 := ⟨inW 486 (by decide +kernel) (by decide +kernel), inW 33 (by decide +kernel) (by decide +kernel), by decide, by decide +kernel⟩
theorem mo_41 : MOK 41 := ⟨by decide +kernel, rfl, fun h => (by first | rfl | cases h), by decide⟩
theorem ko_42 : COK 42 2 := ⟨inW 477 (by decide +kernel) (by decide +kernel), inW 33 (by decide +kernel) (by decide +kernel), by decide, by decide +kernel⟩
theorem mo_42 : MOK 42 := ⟨by decide +kernel, rfl, fun h => (by first | rfl | cases h), by decide⟩
theorem ko_43 : COK 43 2 := ⟨inW 490 (by decide +kernel) (by decide +kernel), inW 33 (by decide +kernel) (by decide +kernel), by decide, by decide +kernel⟩
theorem mo_43 : MOK 43 := ⟨by decide +kernel, rfl, fun h => (by first | rfl | cases h), by decide⟩
theorem ko_44 : COK 44 1 := ⟨inW 506 (by decide +kernel) (by decide +kernel), inW 33 (by decide +kernel) (by decide +kernel), by decide, by decide +kernel⟩
theorem mo_44 : MOK 44 := ⟨by decide +kernel, rfl, fun h => (by first | rfl | cases h), by decide⟩
theorem ko_45 : COK 45 1 := ⟨inW 502 (by decide +kernel) (by decide +kernel), inW 33 (by decide +kernel) (by decide +kernel), by decide, by decide +kernel⟩
theorem mo_45 : MOK 45 := ⟨by decide +kernel, rfl, fun h => (by first | rfl | cases h), by decide⟩
theorem ko_46 : COK 46 3 := ⟨inW 498 (by decide +kernel) (by decide +kernel), inW 33 (by decide +kernel) (by decide +kernel), by decide, by decide +kernel⟩
theorem mo_46 : MOK 46 := ⟨by decide +kernel, rfl, fun h => (by first | rfl | cases h), by decide⟩
theorem ko_47 : COK 47 2 := ⟨inW 494 (by decide +kernel) (by decide +kernel), inW 33 (by decide +kernel) (by decide +kernel), by decide, by decide +kernel⟩
theorem mo_47 : MOK 47 := ⟨by decide +kernel, rfl, fun h => (by first | rfl | cases h), by decide⟩
theorem ko_48 : COK 48 2 := ⟨inW 554 (by decide +kernel) (by decide +kernel), inW 33 (by decide +kernel) (by decide +kernel), by decide, by decide +kernel⟩
theorem mo_48 : MOK 48 := ⟨by decide +kernel, rfl, fun h => (by first | rfl | cases h), by decide⟩
theorem ko_49 : COK 49 1 := ⟨inW 562 (by decide +kernel) (by decide +kernel), inW 33 (by decide +kernel) (by decide +kernel), by decide, by decide +kernel⟩
theorem mo_49 : MOK 49 := ⟨by decide +kernel, rfl, fun h => (by first | rfl | cases h), by decide⟩
theorem ko_50 : COK 50 3 := ⟨inW 566 (by decide +kernel) (by decide +kernel), inW 33 (by decide +kernel) (by decide +kernel), by decide, by decide +kernel⟩
theorem mo_50 : MOK 50 := ⟨by decide +kernel, rfl, fun h => (by first | rfl | cases h), by decide⟩
theorem ko_51 : COK 51 3 := ⟨inW 574 (by decide +kernel) (by decide +kernel), inW 33 (by decide +kernel) (by decide +kernel), by decide, by decide +kernel⟩
theorem mo_51 : MOK 51 := ⟨by decide +kernel, rfl, fun h => (by first | rfl | cases h), by decide⟩
theorem ko_52 : COK 52 2 := ⟨inW 582 (by decide +kernel) (by decide +kernel), inW 33 (by decide +kernel) (by decide +kernel), by decide, by decide +kernel⟩
theorem mo_52 : MOK 52 := ⟨by decide +kernel, rfl, fun h => (by first | rfl | cases h), by decide⟩
theorem ko_53 : COK 53 3 := ⟨inW 578 (by decide +kernel) (by decide +kernel), inW 33 (by decide +kernel) (by decide +kernel), by decide, by decide +kernel⟩
theorem mo_53 : MOK 53 := ⟨by decide +kernel, rfl, fun h => (by first | rfl | cases h), by decide⟩
theorem ko_54 : COK 54 3 := ⟨inW 586 (by decide +kernel) (by decide +kernel), inW 33 (by decide +kernel) (by decide +kernel), by decide, by decide +kernel⟩
theorem mo_54 : MOK 54 := ⟨by decide +kernel, rfl, fun h => (by first | rfl | cases h), by decide⟩
theorem ko_55 : COK 55 2 := ⟨inW 590 (by decide +kernel) (by decide +kernel), inW 33 (by decide +kernel) (by decide +kernel), by decide, by decide +kernel⟩
theorem mo_55 : MOK 55 := ⟨by decide +kernel, rfl, fun h => (by first | rfl | cases h), by decide⟩
theorem ko_56 : COK 56 1 := ⟨inW 594 (by decide +kernel) (by decide +kernel), inW 33 (by decide +kernel) (by decide +kernel), by decide, by decide +kernel⟩
theorem mo_56 : MOK 56 := ⟨by decide +kernel, rfl, fun h => (by first | rfl | cases h), by decide⟩
theorem ko_57 : COK 57 1 := ⟨inW 538 (by decide +kernel) (by decide +kernel), inW 33 (by decide +kernel) (by decide +kernel), by decide, by decide +kernel⟩
theorem mo_57 : MOK 57 := ⟨by decide +kernel, rfl, fun h => (by first | rfl | cases h), by decide⟩
theorem ko_58 : COK 58 1 := ⟨inW 518 (by decide +kernel) (by decide +kernel), inW 33 (by decide +kernel) (by decide +kernel), by decide, by decide +kernel⟩
theorem mo_58 : MOK 58 := ⟨by decide +kernel, rfl, fun h => (by first | rfl | cases h), by decide⟩
theorem ko_59 : COK 59 0 := ⟨inW 514 (by decide +kernel) (by decide +kernel), inW 33 (by decide +kernel) (by decide +kernel), by decide, by decide +kernel⟩
theorem mo_59 : MOK 59 := ⟨by decide +kernel, rfl, fun h => (by first | rfl | cases h), by decide⟩
theorem ko_60 : COK 60 0 := ⟨inW 526 (by decide +kernel) (by decide +kernel), inW 33 (by decide +kernel) (by decide +kernel), by decide, by decide +kernel⟩
theorem mo_60 : MOK 60 := ⟨by decide +kernel, rfl, fun h => (by first | rfl | cases h), by decide⟩
theorem ko_61 : COK 61 1 := ⟨inW 534 (by decide +kernel) (by decide +kernel), inW 33 (by decide +kernel) (by decide +kernel), by decide, by decide +kernel⟩
theorem mo_61 : MOK 61 := ⟨by decide +kernel, rfl, fun h => (by first | rfl | cases h), by decide⟩
theorem ko_62 : COK 62 1 := ⟨inW 530 (by decide +kernel) (by decide +kernel), inW 33 (by decide +kernel) (by decide +kernel), by decide, by decide +kernel⟩
theorem mo_62 : MOK 62 := ⟨by decide +kernel, rfl, fun h => (by first | rfl | cases h), by decide⟩
theorem ko_63 : COK 63 0 := ⟨inW 542 (by decide +kernel) (by decide +kernel), inW 33 (by decide +kernel) (by decide +kernel), by decide, by decide +kernel⟩
theorem mo_63 : MOK 63 := ⟨by decide +kernel, rfl, fun h => (by first | rfl | cases h), by decide⟩
theorem ko_64 : COK 64 0 := ⟨inW 546 (by decide +kernel) (by decide +kernel), inW 33 (by decide +kernel) (by decide +kernel), by decide, by decide +kernel⟩
theorem mo_64 : MOK 64 := ⟨by decide +kernel, rfl, fun h => (by first | rfl | cases h), by decide⟩
theorem ko_65 : COK 65 0 := ⟨inW 550 (by decide +kernel) (by decide +kernel), inW 33 (by decide +kernel) (by decide +kernel), by decide, by decide +kernel⟩
theorem mo_65 : MOK 65 := ⟨by decide +kernel, rfl, fun h => (by first | rfl | cases h), by decide⟩
theorem ko_66 : COK 66 0 := ⟨inW 510 (by decide +kernel) (by decide +kernel), inW 33 (by decide +kernel) (by decide +kernel), by decide, by decide +kernel⟩
theorem mo_66 : MOK 66 := ⟨by decide +kernel, rfl, fun h => (by first | rfl | cases h), by decide⟩
theorem ko_67 : COK 67 1 := ⟨inW 599 (by decide +kernel) (by decide +kernel), inW 33 (by decide +kernel) (by decide +kernel), by decide, by decide +kernel⟩
theorem mo_67 : MOK 67 := ⟨by decide +kernel, rfl, fun h => (by first | rfl | cases h), by decide⟩
theorem ko_68 : COK 68 1 := ⟨inW 603 (by decide +kernel) (by decide +kernel), inW 33 (by decide +kernel) (by decide +kernel), by decide, by decide +kernel⟩
theorem mo_68 : MOK 68 := ⟨by decide +kernel, rfl, fun h => (by first | rfl | cases h), by decide⟩
theorem ko_69 : COK 69 1 := ⟨inW 607 (by decide +kernel) (by decide +kernel), inW 33 (by decide +kernel) (by decide +kernel), by decide, by decide +kernel⟩
theorem mo_69 : MOK 69 := ⟨by decide +kernel, rfl, fun h => (by first | rfl | cases h), by decide⟩
theorem ko_70 : COK 70 1 := ⟨inW 611 (by decide +kernel) (by decide +kernel), inW 33 (by decide +kernel) (by decide +kernel), by decide, by decide +kernel⟩
theorem mo_70 : MOK 70 := ⟨by decide +kernel, rfl, fun h => (by first | rfl | cases h), by decide⟩
theorem ko_71 : COK 71 1 := ⟨inW 615 (by decide +kernel) (by decide +kernel), inW 33 (by decide +kernel) (by decide +kernel), by decide, by decide +kernel⟩
theorem mo_71 : MOK 71 := ⟨by decide +kernel, rfl, fun h => (by first | rfl | cases h), by decide⟩
theorem ko_72 : COK 72 0 := ⟨inW 619 (by decide +kernel) (by decide +kernel), inW 33 (by decide +kernel) (by decide +kernel), by decide, by decide +kernel⟩
theorem mo_72 : MOK 72 := ⟨by decide +kernel, rfl, fun h => (by first | rfl | cases h), by decide⟩
theorem ko_73 : COK 73 0 := ⟨inW 623 (by decide +kernel) (by decide +kernel), inW 33 (by decide +kernel) (by decide +kernel), by decide, by decide +kernel⟩
theorem mo_73 : MOK 73 := ⟨by decide +kernel, rfl, fun h => (by first | rfl | cases h), by decide⟩
theorem ko_74 : COK 74 0 := ⟨inW 627 (by decide +kernel) (by decide +kernel), inW 33 (by decide +kernel) (by decide +kernel), by decide, by decide +kernel⟩
theorem mo_74 : MOK 74 := ⟨by decide +kernel, rfl, fun h => (by first | rfl | cases h), by decide⟩
theorem ko_75 : COK 75 1 := ⟨inW 100 (by decide +kernel) (by decide +kernel), inW 35 (by decide +kernel) (by decide +kernel), by decide, by decide +kernel⟩
theorem mo_75 : MOK 75 := ⟨by decide +kernel, rfl, fun h => (by first | rfl | cases h), by decide⟩
theorem ko_76 : COK 76 0 := ⟨inW 361 (by decide +kernel) (by decide +kernel), inW 35 (by decide +kernel) (by decide +kernel), by decide, by decide +kernel⟩
theorem mo_76 : MOK 76 := ⟨by decide +kernel, rfl, fun h => (by first | rfl | cases h), by decide⟩
theorem ko_77 : COK 77 1 := ⟨inW 54 (by decide +kernel) (by decide +kernel), inW 32 (by decide +kernel) (by decide +kernel), by decide, by decide +kernel⟩
theorem mo_77 : MOK 77 := ⟨by decide +kernel, rfl, fun h => (by first | rfl | cases h), by decide⟩
theorem ko_78 : COK 78 0 := ⟨inW 137 (by decide +kernel) (by decide +kernel), inW 32 (by decide +kernel) (by decide +kernel), by decide, by decide +kernel⟩
theorem mo_78 : MOK 78 := ⟨by decide +kernel, rfl, fun h => (by first | rfl | cases h), by decide⟩
theorem ko_79 : COK 79 1 := ⟨inW 141 (by decide +kernel) (by decide +kernel), inW 32 (by decide +kernel) (by decide +kernel), by decide, by decide +kernel⟩
theorem mo_79 : MOK 79 := ⟨by decide +kernel, rfl, fun h => (by first | rfl | cases h), by decide⟩
theorem ko_80 : COK 80 1 := ⟨inW 200 (by decide +kernel) (by decide +kernel), inW 32 (by decide +kernel) (by decide +kernel), by decide, by decide +kernel⟩
theorem mo_80 : MOK 80 := ⟨by decide +kernel, rfl, fun h => (by first | rfl | cases h), by decide⟩
theorem ko_81 : COK 81 0 := ⟨inW 347 (by decide +kernel) (by decide +kernel), inW 32 (by decide +kernel) (by decide +kernel), by decide, by decide +kernel⟩
theorem mo_81 : MOK 81 := ⟨by decide +kernel, rfl, fun h => (by first | rfl | cases h), by decide⟩
theorem ko_82 : COK 82 0 := ⟨inW 153 (by decide +kernel) (by decide +kernel), inW 32 (by decide +kernel) (by decide +kernel), by decide, by decide +kernel⟩
theorem mo_82 : MOK 82 := ⟨by decide +kernel, rfl, fun h => (by first | rfl | cases h), by decide⟩
theorem ko_83 : COK 83 0 := ⟨inW 204 (by decide +kernel) (by decide +kernel), inW 32 (by decide +kernel) (by decide +kernel), by decide, by decide +kernel⟩
theorem mo_83 : MOK 83 := ⟨by decide +kernel, rfl, fun h => (by first | rfl | cases h), by decide⟩
theorem ko_84 : COK 84 1 := ⟨inW 284 (by decide +kernel) (by decide +kernel), inW 39 (by decide +kernel) (by decide +kernel), by decide, by decide +kernel⟩
theorem mo_84 : MOK 84 := ⟨by decide +kernel, rfl, fun h => (by first | rfl | cases h), by decide⟩
theorem ko_85 : COK 85 2 := ⟨inW 323 (by decide +kernel) (by decide +kernel), inW 39 (by decide +kernel) (by decide +kernel), by decide, by decide +kernel⟩
theorem mo_85 : MOK 85 := ⟨by decide +kernel, rfl, fun h => (by first | rfl | cases h), by decide⟩
theorem ko_86 : COK 86 1 := ⟨inW 335 (by decide +kernel) (by decide +kernel), inW 39 (by decide +kernel) (by decide +kernel), by decide, by decide +kernel⟩
theorem mo_86 : MOK 86 := ⟨by decide +kernel, rfl, fun h => (by first | rfl | cases h), by decide⟩
theorem ko_87 : COK 87 1 := ⟨inW 327 (by decide +kernel) (by decide +kernel), inW 39 (by decide +kernel) (by decide +kernel), by decide, by decide +kernel⟩
theorem mo_87 : MOK 87 := ⟨by decide +kernel, rfl, fun h => (by first | rfl | cases h), by decide⟩
theorem ko_88 : COK 88 0 := ⟨inW 364 (by decide +kernel) (by decide +kernel), inW 39 (by decide +kernel) (by decide +kernel), by decide, by decide +kernel⟩
theorem mo_88 : MOK 88 := ⟨by decide +kernel, rfl, fun h => (by first | rfl | cases h), by decide⟩
theorem ko_89 : COK 89 0 := ⟨inW 392 (by decide +kernel) (by decide +kernel), inW 39 (by decide +kernel) (by decide +kernel), by decide, by decide +kernel⟩
theorem mo_89 : MOK 89 := ⟨by decide +kernel, rfl, fun h => (by first | rfl | cases h), by decide⟩
theorem ko_90 : COK 90 0 := ⟨inW 168 (by decide +kernel) (by decide +kernel), inW 39 (by decide +kernel) (by decide +kernel), by decide, by decide +kernel⟩
theorem mo_90 : MOK 90 := ⟨by decide +kernel, rfl, fun h => (by first | rfl | cases h), by decide⟩
theorem ko_91 : COK 91 0 := ⟨inW 186 (by decide +kernel) (by decide +kernel), inW 39 (by decide +kernel) (by decide +kernel), by decide, by decide +kernel⟩
theorem mo_91 : MOK 91 := ⟨by decide +kernel, rfl, fun h => (by first | rfl | cases h), by decide⟩
theorem ko_92 : COK 92 2 := ⟨inW 216 (by decide +kernel) (by decide +kernel), inW 36 (by decide +kernel) (by decide +kernel), by decide, by decide +kernel⟩
theorem mo_92 : MOK 92 := ⟨by decide +kernel, rfl, fun h => (by first | rfl | cases h), by decide⟩
theorem ko_93 : COK 93 0 := ⟨inW 103 (by decide +kernel) (by decide +kernel), inW 34 (by decide +kernel) (by decide +kernel), by decide, by decide +kernel⟩
theorem mo_93 : MOK 93 := ⟨by decide +kernel, rfl, fun h => (by first | rfl | cases h), by decide⟩
theorem ko_94 : COK 94 2 := ⟨inW 213 (by decide +kernel) (by decide +kernel), inW 37 (by decide +kernel) (by decide +kernel), by decide, by decide +kernel⟩
theorem mo_94 : MOK 94 := ⟨by decide +kernel, rfl, fun h => (by first | rfl | cases h), by decide⟩
theorem ko_95 : COK 95 1 := ⟨inW 311 (by decide +kernel) (by decide +kernel), inW 37 (by decide +kernel) (by decide +kernel), by decide, by decide +kernel⟩
theorem mo_95 : MOK 95 := ⟨by decide +kernel, rfl, fun h => (by first | rfl | cases h), by decide⟩
theorem ko_96 : COK 96 0 := ⟨inW 367 (by decide +kernel) (by decide +kernel), inW 37 (by decide +kernel) (by decide +kernel), by decide, by decide +kernel⟩
theorem mo_96 : MOK 96 := ⟨by decide +kernel, rfl, fun h => (by first | rfl | cases h), by decide⟩
theorem ko_97 : COK 97 0 := ⟨inW 395 (by decide +kernel) (by decide +kernel), inW 37 (by decide +kernel) (by decide +kernel), by decide, by decide +kernel⟩
theorem mo_97 : MOK 97 := ⟨by decide +kernel, rfl, fun h => (by first | rfl | cases h), by decide⟩
theorem ko_98 : COK 98 0 := ⟨inW 172 (by decide +kernel) (by decide +kernel), inW 37 (by decide +kernel) (by decide +kernel), by decide, by decide +kernel⟩
theorem mo_98 : MOK 98 := ⟨by decide +kernel, rfl, fun h => (by first | rfl | cases h), by decide⟩
theorem ko_99 : COK 99 0 := ⟨inW 189 (by decide +kernel) (by decide +kernel), inW 37 (by decide +kernel) (by decide +kernel), by decide, by decide +kernel⟩
theorem mo_99 : MOK 99 := ⟨by decide +kernel, rfl, fun h => (by first | rfl | cases h), by decide⟩
theorem ko_100 : COK 100 2 := ⟨inW 263 (by decide +kernel) (by decide +kernel), inW 38 (by decide +kernel) (by decide +kernel), by decide, by decide +kernel⟩
theorem mo_100 : MOK 100 := ⟨by decide +kernel, rfl, fun h => (by first | rfl | cases h), by decide⟩
theorem ko_101 : COK 101 0 := ⟨inW 370 (by decide +kernel) (by decide +kernel), inW 38 (by decide +kernel) (by decide +kernel), by decide, by decide +kernel⟩
theorem mo_101 : MOK 101 := ⟨by decide +kernel, rfl, fun h => (by first | rfl | cases h), by decide⟩
theorem ko_102 : COK 102 0 := ⟨inW 398 (by decide +kernel) (by decide +kernel), inW 38 (by decide +kernel) (by decide +kernel), by decide, by decide +kernel⟩
theorem mo_102 : MOK 102 := ⟨by decide +kernel, rfl, fun h => (by first | rfl | cases h), by decide⟩
theorem ko_103 : COK 103 0 := ⟨inW 176 (by decide +kernel) (by decide +kernel), inW 38 (by decide +kernel) (by decide +kernel), by decide, by decide +kernel⟩
theorem mo_103 : MOK 103 := ⟨by decide +kernel, rfl, fun h => (by first | rfl | cases h), by decide⟩
theorem ko_104 : COK 104 0 := ⟨inW 192 (by decide +kernel) (by decide +kernel), inW 38 (by decide +kernel) (by decide +kernel), by decide, by decide +kernel⟩
theorem mo_104 : MOK 104 := ⟨by decide +kernel, rfl, fun h => (by first | rfl | cases h), by decide⟩
