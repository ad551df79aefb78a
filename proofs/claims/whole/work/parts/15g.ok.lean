/-! each method's instructions are sound (by program) -/
section OK6
variable {G : MG}
set_option maxRecDepth 20000 in
theorem ok_l_88 (hK : K0 G) : ∀ q ∈ l_88, SE G 88 q.1 q.2 :=
  List.forall_mem_cons.mpr ⟨(show SE G 88 0 (.inl (i_c 4 1)) from s_iconst (e := 4) (by decide +kernel) (by decide)),
  List.forall_mem_cons.mpr ⟨(show SE G 88 1 (.inr (.inr 0)) from ⟨(by decide +kernel), rfl⟩),
  fun _ h => absurd h List.not_mem_nil⟩⟩
set_option maxRecDepth 20000 in
theorem ok_l_89 (hK : K0 G) : ∀ q ∈ l_89, SE G 89 q.1 q.2 :=
  List.forall_mem_cons.mpr ⟨(show SE G 89 0 (.inl (i_al 0 1)) from s_aload_n (j := 0) (by decide +kernel)),
  List.forall_mem_cons.mpr ⟨(show SE G 89 1 (.inl (i_get [5] 8 4)) from s_get (idx := 25) (kk := 8) hK (by decide +kernel) (inW 290 (by decide +kernel) (by decide +kernel)) fo_T_entryCount),
  List.forall_mem_cons.mpr ⟨(show SE G 89 4 (.inr (.inr 0)) from ⟨(by decide +kernel), rfl⟩),
  fun _ h => absurd h List.not_mem_nil⟩⟩⟩
set_option maxRecDepth 20000 in
theorem ok_l_90 (hK : K0 G) : ∀ q ∈ l_90, SE G 90 q.1 q.2 :=
  List.forall_mem_cons.mpr ⟨(show SE G 90 0 (.inl (i_c 0 1)) from s_iconst (e := 0) (by decide +kernel) (by decide)),
  List.forall_mem_cons.mpr ⟨(show SE G 90 1 (.inl (i_is 1 2)) from s_istore_n (j := 1) (by decide +kernel) (by decide)),
  List.forall_mem_cons.mpr ⟨(show SE G 90 2 (.inl (i_c 0 3)) from s_iconst (e := 0) (by decide +kernel) (by decide)),
  List.forall_mem_cons.mpr ⟨(show SE G 90 3 (.inl (i_is 2 4)) from s_istore_n (j := 2) (by decide +kernel) (by decide)),
  List.forall_mem_cons.mpr ⟨(show SE G 90 4 (.inl (i_il 2 5)) from s_iload_n (j := 2) (by decide +kernel)),
  List.forall_mem_cons.mpr ⟨(show SE G 90 5 (.inl (i_al 0 6)) from s_aload_n (j := 0) (by decide +kernel)),
  List.forall_mem_cons.mpr ⟨(show SE G 90 6 (.inl (i_get [5] 8 9)) from s_get (idx := 25) (kk := 8) hK (by decide +kernel) (inW 290 (by decide +kernel) (by decide +kernel)) fo_T_entryCount),
  List.forall_mem_cons.mpr ⟨(show SE G 90 9 (.inl (i_cmp 3 50 12)) from s_icmp_ge (tg := 50) (off := 41) (by decide +kernel) (by decide)),
  List.forall_mem_cons.mpr ⟨(show SE G 90 12 (.inl (i_al 0 13)) from s_aload_n (j := 0) (by decide +kernel)),
  List.forall_mem_cons.mpr ⟨(show SE G 90 13 (.inl (i_get [5] 6 16)) from s_get (idx := 9) (kk := 6) hK (by decide +kernel) (inW 288 (by decide +kernel) (by decide +kernel)) fo_T_keys),
  List.forall_mem_cons.mpr ⟨(show SE G 90 16 (.inl (i_il 2 17)) from s_iload_n (j := 2) (by decide +kernel)),
  List.forall_mem_cons.mpr ⟨(show SE G 90 17 (.inl (i_ld [22, 23] 18)) from s_aald hK (by decide +kernel)),
  List.forall_mem_cons.mpr ⟨(show SE G 90 18 (.inl (i_as 3 19)) from s_astore_n (j := 3) (by decide +kernel) (by decide)),
  List.forall_mem_cons.mpr ⟨(show SE G 90 19 (.inl (i_al 3 20)) from s_aload_n (j := 3) (by decide +kernel)),
  List.forall_mem_cons.mpr ⟨(show SE G 90 20 (.inl (i_nul 44 23)) from s_ifnull (tg := 44) (off := 24) (by decide +kernel) (by decide)),
  List.forall_mem_cons.mpr ⟨(show SE G 90 23 (.inl (i_al 3 24)) from s_aload_n (j := 3) (by decide +kernel)),
  List.forall_mem_cons.mpr ⟨(show SE G 90 24 (.inl (i_get [3, 4, 5] 3 27)) from s_get (idx := 29) (kk := 3) hK (by decide +kernel) (inW 227 (by decide +kernel) (by decide +kernel)) fo_G_marked),
  List.forall_mem_cons.mpr ⟨(show SE G 90 27 (.inl (i_z 0 44 30)) from s_if_eq (tg := 44) (off := 17) (by decide +kernel) (by decide)),
  List.forall_mem_cons.mpr ⟨(show SE G 90 30 (.inl (i_al 0 31)) from s_aload_n (j := 0) (by decide +kernel)),
  List.forall_mem_cons.mpr ⟨(show SE G 90 31 (.inl (i_get [5] 7 34)) from s_get (idx := 17) (kk := 7) hK (by decide +kernel) (inW 289 (by decide +kernel) (by decide +kernel)) fo_T_values),
  List.forall_mem_cons.mpr ⟨(show SE G 90 34 (.inl (i_il 2 35)) from s_iload_n (j := 2) (by decide +kernel)),
  List.forall_mem_cons.mpr ⟨(show SE G 90 35 (.inl (i_ld [22, 23] 36)) from s_aald hK (by decide +kernel)),
  List.forall_mem_cons.mpr ⟨(show SE G 90 36 (.inr (.inl (true, 1, [(0, 35)], 39))) from ⟨c_staticN (idx := 33) (n := 1) (k1 := 35) (host := "ResurrectingHeap") (by decide +kernel) ko_35 (inW 169 (by decide +kernel) (by decide +kernel)) (inW 147 (by decide +kernel) (by decide +kernel)), (List.forall_mem_cons.mpr ⟨⟨mo_35, by decide⟩, fun _ h => absurd h List.not_mem_nil⟩)⟩),
  List.forall_mem_cons.mpr ⟨(show SE G 90 39 (.inl (i_z 0 44 42)) from s_if_eq (tg := 44) (off := 5) (by decide +kernel) (by decide)),
  List.forall_mem_cons.mpr ⟨(show SE G 90 42 (.inl (i_c 1 43)) from s_iconst (e := 1) (by decide +kernel) (by decide)),
  List.forall_mem_cons.mpr ⟨(show SE G 90 43 (.inl (i_is 1 44)) from s_istore_n (j := 1) (by decide +kernel) (by decide)),
  List.forall_mem_cons.mpr ⟨(show SE G 90 44 (.inl (i_ii 2 1 47)) from s_iinc (j := 2) (n := 1) (by decide +kernel) (by decide)),
  List.forall_mem_cons.mpr ⟨(show SE G 90 47 (.inl (i_go 4)) from s_goto (tg := 4) (off := -43) (by decide +kernel) (by decide)),
  List.forall_mem_cons.mpr ⟨(show SE G 90 50 (.inl (i_il 1 51)) from s_iload_n (j := 1) (by decide +kernel)),
  List.forall_mem_cons.mpr ⟨(show SE G 90 51 (.inr (.inr 1)) from ⟨(by decide +kernel), rfl⟩),
  fun _ h => absurd h List.not_mem_nil⟩⟩⟩⟩⟩⟩⟩⟩⟩⟩⟩⟩⟩⟩⟩⟩⟩⟩⟩⟩⟩⟩⟩⟩⟩⟩⟩⟩⟩⟩
set_option maxRecDepth 20000 in
theorem ok_l_91_0 (hK : K0 G) : ∀ q ∈ l_91_0, SE G 91 q.1 q.2 :=
  List.forall_mem_cons.mpr ⟨(show SE G 91 0 (.inl (i_c 0 1)) from s_iconst (e := 0) (by decide +kernel) (by decide)),
  List.forall_mem_cons.mpr ⟨(show SE G 91 1 (.inl (i_is 1 2)) from s_istore_n (j := 1) (by decide +kernel) (by decide)),
  List.forall_mem_cons.mpr ⟨(show SE G 91 2 (.inl (i_c 0 3)) from s_iconst (e := 0) (by decide +kernel) (by decide)),
  List.forall_mem_cons.mpr ⟨(show SE G 91 3 (.inl (i_is 2 4)) from s_istore_n (j := 2) (by decide +kernel) (by decide)),
  List.forall_mem_cons.mpr ⟨(show SE G 91 4 (.inl (i_il 2 5)) from s_iload_n (j := 2) (by decide +kernel)),
  List.forall_mem_cons.mpr ⟨(show SE G 91 5 (.inl (i_al 0 6)) from s_aload_n (j := 0) (by decide +kernel)),
  List.forall_mem_cons.mpr ⟨(show SE G 91 6 (.inl (i_get [5] 8 9)) from s_get (idx := 25) (kk := 8) hK (by decide +kernel) (inW 290 (by decide +kernel) (by decide +kernel)) fo_T_entryCount),
  List.forall_mem_cons.mpr ⟨(show SE G 91 9 (.inl (i_cmp 3 58 12)) from s_icmp_ge (tg := 58) (off := 49) (by decide +kernel) (by decide)),
  List.forall_mem_cons.mpr ⟨(show SE G 91 12 (.inl (i_al 0 13)) from s_aload_n (j := 0) (by decide +kernel)),
  List.forall_mem_cons.mpr ⟨(show SE G 91 13 (.inl (i_get [5] 6 16)) from s_get (idx := 9) (kk := 6) hK (by decide +kernel) (inW 288 (by decide +kernel) (by decide +kernel)) fo_T_keys),
  List.forall_mem_cons.mpr ⟨(show SE G 91 16 (.inl (i_il 2 17)) from s_iload_n (j := 2) (by decide +kernel)),
  List.forall_mem_cons.mpr ⟨(show SE G 91 17 (.inl (i_ld [22, 23] 18)) from s_aald hK (by decide +kernel)),
  List.forall_mem_cons.mpr ⟨(show SE G 91 18 (.inl (i_as 3 19)) from s_astore_n (j := 3) (by decide +kernel) (by decide)),
  List.forall_mem_cons.mpr ⟨(show SE G 91 19 (.inl (i_al 3 20)) from s_aload_n (j := 3) (by decide +kernel)),
  List.forall_mem_cons.mpr ⟨(show SE G 91 20 (.inl (i_nul 52 23)) from s_ifnull (tg := 52) (off := 32) (by decide +kernel) (by decide)),
  List.forall_mem_cons.mpr ⟨(show SE G 91 23 (.inl (i_al 3 24)) from s_aload_n (j := 3) (by decide +kernel)),
  List.forall_mem_cons.mpr ⟨(show SE G 91 24 (.inl (i_get [3, 4, 5] 3 27)) from s_get (idx := 29) (kk := 3) hK (by decide +kernel) (inW 227 (by decide +kernel) (by decide +kernel)) fo_G_marked),
  List.forall_mem_cons.mpr ⟨(show SE G 91 27 (.inl (i_z 0 52 30)) from s_if_eq (tg := 52) (off := 25) (by decide +kernel) (by decide)),
  List.forall_mem_cons.mpr ⟨(show SE G 91 30 (.inl (i_al 0 31)) from s_aload_n (j := 0) (by decide +kernel)),
  List.forall_mem_cons.mpr ⟨(show SE G 91 31 (.inl (i_get [5] 6 34)) from s_get (idx := 9) (kk := 6) hK (by decide +kernel) (inW 288 (by decide +kernel) (by decide +kernel)) fo_T_keys),
  List.forall_mem_cons.mpr ⟨(show SE G 91 34 (.inl (i_il 1 35)) from s_iload_n (j := 1) (by decide +kernel)),
  List.forall_mem_cons.mpr ⟨(show SE G 91 35 (.inl (i_al 3 36)) from s_aload_n (j := 3) (by decide +kernel)),
  List.forall_mem_cons.mpr ⟨(show SE G 91 36 (.inl (i_ast [(22, [3, 4, 5]), (23, [2, 3, 4, 5])] 37)) from s_aast hK (by decide +kernel) yo_G yo_U),
  List.forall_mem_cons.mpr ⟨(show SE G 91 37 (.inl (i_al 0 38)) from s_aload_n (j := 0) (by decide +kernel)),
  List.forall_mem_cons.mpr ⟨(show SE G 91 38 (.inl (i_get [5] 7 41)) from s_get (idx := 17) (kk := 7) hK (by decide +kernel) (inW 289 (by decide +kernel) (by decide +kernel)) fo_T_values),
  List.forall_mem_cons.mpr ⟨(show SE G 91 41 (.inl (i_il 1 42)) from s_iload_n (j := 1) (by decide +kernel)),
  List.forall_mem_cons.mpr ⟨(show SE G 91 42 (.inl (i_al 0 43)) from s_aload_n (j := 0) (by decide +kernel)),
  List.forall_mem_cons.mpr ⟨(show SE G 91 43 (.inl (i_get [5] 7 46)) from s_get (idx := 17) (kk := 7) hK (by decide +kernel) (inW 289 (by decide +kernel) (by decide +kernel)) fo_T_values),
  List.forall_mem_cons.mpr ⟨(show SE G 91 46 (.inl (i_il 2 47)) from s_iload_n (j := 2) (by decide +kernel)),
  List.forall_mem_cons.mpr ⟨(show SE G 91 47 (.inl (i_ld [22, 23] 48)) from s_aald hK (by decide +kernel)),
  fun _ h => absurd h List.not_mem_nil⟩⟩⟩⟩⟩⟩⟩⟩⟩⟩⟩⟩⟩⟩⟩⟩⟩⟩⟩⟩⟩⟩⟩⟩⟩⟩⟩⟩⟩⟩
set_option maxRecDepth 20000 in
theorem ok_l_91_1 (hK : K0 G) : ∀ q ∈ l_91_1, SE G 91 q.1 q.2 :=
  List.forall_mem_cons.mpr ⟨(show SE G 91 48 (.inl (i_ast [(22, [3, 4, 5]), (23, [2, 3, 4, 5])] 49)) from s_aast hK (by decide +kernel) yo_G yo_U),
  List.forall_mem_cons.mpr ⟨(show SE G 91 49 (.inl (i_ii 1 1 52)) from s_iinc (j := 1) (n := 1) (by decide +kernel) (by decide)),
  List.forall_mem_cons.mpr ⟨(show SE G 91 52 (.inl (i_ii 2 1 55)) from s_iinc (j := 2) (n := 1) (by decide +kernel) (by decide)),
  List.forall_mem_cons.mpr ⟨(show SE G 91 55 (.inl (i_go 4)) from s_goto (tg := 4) (off := -51) (by decide +kernel) (by decide)),
  List.forall_mem_cons.mpr ⟨(show SE G 91 58 (.inl (i_al 0 59)) from s_aload_n (j := 0) (by decide +kernel)),
  List.forall_mem_cons.mpr ⟨(show SE G 91 59 (.inl (i_il 1 60)) from s_iload_n (j := 1) (by decide +kernel)),
  List.forall_mem_cons.mpr ⟨(show SE G 91 60 (.inl (i_put [5] 8 0 63)) from s_put (idx := 25) (kk := 8) (ty := 0) hK (by decide +kernel) (inW 290 (by decide +kernel) (by decide +kernel)) fo_T_entryCount po_91_T_entryCount),
  List.forall_mem_cons.mpr ⟨(show SE G 91 63 (.inr (.inr 3)) from ⟨(by decide +kernel), rfl⟩),
  fun _ h => absurd h List.not_mem_nil⟩⟩⟩⟩⟩⟩⟩⟩
theorem ok_l_91 (hK : K0 G) : ∀ q ∈ l_91, SE G 91 q.1 q.2 := by
  show ∀ q ∈ l_91_0 ++ (l_91_1), SE G 91 q.1 q.2
  exact List.forall_mem_append.mpr ⟨ok_l_91_0 hK, ok_l_91_1 hK⟩
set_option maxRecDepth 20000 in
theorem ok_l_92 (hK : K0 G) : ∀ q ∈ l_92, SE G 92 q.1 q.2 :=
  List.forall_mem_cons.mpr ⟨(show SE G 92 0 (.inl (i_al 0 1)) from s_aload_n (j := 0) (by decide +kernel)),
  List.forall_mem_cons.mpr ⟨(show SE G 92 1 (.inr (.inl (false, 1, [(2, 93), (3, 93), (4, 93), (5, 93)], 4))) from ⟨c_initN (idx := 1) (n := 0) (k1 := 93) (host := "ResurrectingHeap") (ts := [2, 3, 4, 5]) (by decide +kernel) ko_93 (inW 217 (by decide +kernel) (by decide +kernel)) (inW 102 (by decide +kernel) (by decide +kernel)) rfl rfl, (List.forall_mem_cons.mpr ⟨⟨mo_93, by decide⟩, List.forall_mem_cons.mpr ⟨⟨mo_93, by decide⟩, List.forall_mem_cons.mpr ⟨⟨mo_93, by decide⟩, List.forall_mem_cons.mpr ⟨⟨mo_93, by decide⟩, fun _ h => absurd h List.not_mem_nil⟩⟩⟩⟩)⟩),
  List.forall_mem_cons.mpr ⟨(show SE G 92 4 (.inl (i_al 0 5)) from s_aload_n (j := 0) (by decide +kernel)),
  List.forall_mem_cons.mpr ⟨(show SE G 92 5 (.inl (i_il 1 6)) from s_iload_n (j := 1) (by decide +kernel)),
  List.forall_mem_cons.mpr ⟨(show SE G 92 6 (.inl (i_put [3, 4, 5] 0 0 9)) from s_put (idx := 7) (kk := 0) (ty := 0) hK (by decide +kernel) (inW 221 (by decide +kernel) (by decide +kernel)) fo_G_hash po_92_G_hash),
  List.forall_mem_cons.mpr ⟨(show SE G 92 9 (.inl (i_al 0 10)) from s_aload_n (j := 0) (by decide +kernel)),
  List.forall_mem_cons.mpr ⟨(show SE G 92 10 (.inl (i_il 2 11)) from s_iload_n (j := 2) (by decide +kernel)),
  List.forall_mem_cons.mpr ⟨(show SE G 92 11 (.inl (i_put [3, 4, 5] 1 0 14)) from s_put (idx := 13) (kk := 1) (ty := 0) hK (by decide +kernel) (inW 223 (by decide +kernel) (by decide +kernel)) fo_G_cells po_92_G_cells),
  List.forall_mem_cons.mpr ⟨(show SE G 92 14 (.inr (.inr 3)) from ⟨(by decide +kernel), rfl⟩),
  fun _ h => absurd h List.not_mem_nil⟩⟩⟩⟩⟩⟩⟩⟩⟩
set_option maxRecDepth 20000 in
theorem ok_l_93 (hK : K0 G) : ∀ q ∈ l_93, SE G 93 q.1 q.2 :=
  List.forall_mem_cons.mpr ⟨(show SE G 93 0 (.inl (i_al 0 1)) from s_aload_n (j := 0) (by decide +kernel)),
  List.forall_mem_cons.mpr ⟨(show SE G 93 1 (.inl (i_obj 4)) from s_obj (idx := 1) (by decide +kernel) (inW 104 (by decide +kernel) (by decide +kernel)) (inW 46 (by decide +kernel) (by decide +kernel)) (inW 47 (by decide +kernel) (by decide +kernel))),
  List.forall_mem_cons.mpr ⟨(show SE G 93 4 (.inr (.inr 3)) from ⟨(by decide +kernel), rfl⟩),
  fun _ h => absurd h List.not_mem_nil⟩⟩⟩
set_option maxRecDepth 20000 in
theorem ok_l_94 (hK : K0 G) : ∀ q ∈ l_94, SE G 94 q.1 q.2 :=
  List.forall_mem_cons.mpr ⟨(show SE G 94 0 (.inl (i_al 0 1)) from s_aload_n (j := 0) (by decide +kernel)),
  List.forall_mem_cons.mpr ⟨(show SE G 94 1 (.inl (i_il 1 2)) from s_iload_n (j := 1) (by decide +kernel)),
  List.forall_mem_cons.mpr ⟨(show SE G 94 2 (.inl (i_c 2 3)) from s_iconst (e := 2) (by decide +kernel) (by decide)),
  List.forall_mem_cons.mpr ⟨(show SE G 94 3 (.inl (i_il 2 4)) from s_iload_n (j := 2) (by decide +kernel)),
  List.forall_mem_cons.mpr ⟨(show SE G 94 4 (.inl (i_bin (fun a b => a + b) 5)) from s_iadd (by decide +kernel)),
  List.forall_mem_cons.mpr ⟨(show SE G 94 5 (.inr (.inl (false, 3, [(3, 92), (4, 92), (5, 92)], 8))) from ⟨c_init (idx := 3) (n := 2) (k1 := 92) (ts := [3, 4, 5]) (by decide +kernel) ko_92 (inW 214 (by decide +kernel) (by decide +kernel)) (inW 215 (by decide +kernel) (by decide +kernel)) rfl rfl, (List.forall_mem_cons.mpr ⟨⟨mo_92, by decide⟩, List.forall_mem_cons.mpr ⟨⟨mo_92, by decide⟩, List.forall_mem_cons.mpr ⟨⟨mo_92, by decide⟩, fun _ h => absurd h List.not_mem_nil⟩⟩⟩)⟩),
  List.forall_mem_cons.mpr ⟨(show SE G 94 8 (.inl (i_al 0 9)) from s_aload_n (j := 0) (by decide +kernel)),
  List.forall_mem_cons.mpr ⟨(show SE G 94 9 (.inl (i_il 2 10)) from s_iload_n (j := 2) (by decide +kernel)),
  List.forall_mem_cons.mpr ⟨(show SE G 94 10 (.inl (i_newa 23 (.inr none) 13)) from s_anew (idx := 9) (j := 3) (E := "ResurrectingHeap$Value") hK (by decide +kernel) (inW 218 (by decide +kernel) (by decide +kernel)) (by decide +kernel) (by decide) rfl),
  List.forall_mem_cons.mpr ⟨(show SE G 94 13 (.inl (i_put [3] 6 2 16)) from s_put (idx := 11) (kk := 6) (ty := 2) hK (by decide +kernel) (inW 219 (by decide +kernel) (by decide +kernel)) fo_V_fields po_94_V_fields),
  List.forall_mem_cons.mpr ⟨(show SE G 94 16 (.inr (.inr 3)) from ⟨(by decide +kernel), rfl⟩),
  fun _ h => absurd h List.not_mem_nil⟩⟩⟩⟩⟩⟩⟩⟩⟩⟩⟩
set_option maxRecDepth 20000 in
theorem ok_l_95 (hK : K0 G) : ∀ q ∈ l_95, SE G 95 q.1 q.2 :=
  List.forall_mem_cons.mpr ⟨(show SE G 95 0 (.inl (i_il 1 1)) from s_iload_n (j := 1) (by decide +kernel)),
  List.forall_mem_cons.mpr ⟨(show SE G 95 1 (.inl (i_z 2 17 4)) from s_if_lt (tg := 17) (off := 16) (by decide +kernel) (by decide)),
  List.forall_mem_cons.mpr ⟨(show SE G 95 4 (.inl (i_il 1 5)) from s_iload_n (j := 1) (by decide +kernel)),
  List.forall_mem_cons.mpr ⟨(show SE G 95 5 (.inl (i_al 0 6)) from s_aload_n (j := 0) (by decide +kernel)),
  List.forall_mem_cons.mpr ⟨(show SE G 95 6 (.inl (i_get [3] 6 9)) from s_get (idx := 11) (kk := 6) hK (by decide +kernel) (inW 219 (by decide +kernel) (by decide +kernel)) fo_V_fields),
  List.forall_mem_cons.mpr ⟨(show SE G 95 9 (.inl (i_len 10)) from s_len hK (by decide +kernel)),
  List.forall_mem_cons.mpr ⟨(show SE G 95 10 (.inl (i_cmp 3 17 13)) from s_icmp_ge (tg := 17) (off := 7) (by decide +kernel) (by decide)),
  List.forall_mem_cons.mpr ⟨(show SE G 95 13 (.inl (i_c 1 14)) from s_iconst (e := 1) (by decide +kernel) (by decide)),
  List.forall_mem_cons.mpr ⟨(show SE G 95 14 (.inl (i_go 18)) from s_goto (tg := 18) (off := 4) (by decide +kernel) (by decide)),
  List.forall_mem_cons.mpr ⟨(show SE G 95 17 (.inl (i_c 0 18)) from s_iconst (e := 0) (by decide +kernel) (by decide)),
  List.forall_mem_cons.mpr ⟨(show SE G 95 18 (.inr (.inr 1)) from ⟨(by decide +kernel), rfl⟩),
  fun _ h => absurd h List.not_mem_nil⟩⟩⟩⟩⟩⟩⟩⟩⟩⟩⟩
set_option maxRecDepth 20000 in
theorem ok_l_96 (hK : K0 G) : ∀ q ∈ l_96, SE G 96 q.1 q.2 :=
  List.forall_mem_cons.mpr ⟨(show SE G 96 0 (.inl (i_c 2 1)) from s_iconst (e := 2) (by decide +kernel) (by decide)),
  List.forall_mem_cons.mpr ⟨(show SE G 96 1 (.inr (.inr 0)) from ⟨(by decide +kernel), rfl⟩),
  fun _ h => absurd h List.not_mem_nil⟩⟩
set_option maxRecDepth 20000 in
theorem ok_l_97 (hK : K0 G) : ∀ q ∈ l_97, SE G 97 q.1 q.2 :=
  List.forall_mem_cons.mpr ⟨(show SE G 97 0 (.inl (i_al 0 1)) from s_aload_n (j := 0) (by decide +kernel)),
  List.forall_mem_cons.mpr ⟨(show SE G 97 1 (.inl (i_get [3] 6 4)) from s_get (idx := 11) (kk := 6) hK (by decide +kernel) (inW 219 (by decide +kernel) (by decide +kernel)) fo_V_fields),
  List.forall_mem_cons.mpr ⟨(show SE G 97 4 (.inl (i_len 5)) from s_len hK (by decide +kernel)),
  List.forall_mem_cons.mpr ⟨(show SE G 97 5 (.inr (.inr 0)) from ⟨(by decide +kernel), rfl⟩),
  fun _ h => absurd h List.not_mem_nil⟩⟩⟩⟩
set_option maxRecDepth 20000 in
theorem ok_l_98 (hK : K0 G) : ∀ q ∈ l_98, SE G 98 q.1 q.2 :=
  List.forall_mem_cons.mpr ⟨(show SE G 98 0 (.inl (i_c 0 1)) from s_iconst (e := 0) (by decide +kernel) (by decide)),
  List.forall_mem_cons.mpr ⟨(show SE G 98 1 (.inl (i_is 1 2)) from s_istore_n (j := 1) (by decide +kernel) (by decide)),
  List.forall_mem_cons.mpr ⟨(show SE G 98 2 (.inl (i_c 0 3)) from s_iconst (e := 0) (by decide +kernel) (by decide)),
  List.forall_mem_cons.mpr ⟨(show SE G 98 3 (.inl (i_is 2 4)) from s_istore_n (j := 2) (by decide +kernel) (by decide)),
  List.forall_mem_cons.mpr ⟨(show SE G 98 4 (.inl (i_il 2 5)) from s_iload_n (j := 2) (by decide +kernel)),
  List.forall_mem_cons.mpr ⟨(show SE G 98 5 (.inl (i_al 0 6)) from s_aload_n (j := 0) (by decide +kernel)),
  List.forall_mem_cons.mpr ⟨(show SE G 98 6 (.inl (i_get [3] 6 9)) from s_get (idx := 11) (kk := 6) hK (by decide +kernel) (inW 219 (by decide +kernel) (by decide +kernel)) fo_V_fields),
  List.forall_mem_cons.mpr ⟨(show SE G 98 9 (.inl (i_len 10)) from s_len hK (by decide +kernel)),
  List.forall_mem_cons.mpr ⟨(show SE G 98 10 (.inl (i_cmp 3 33 13)) from s_icmp_ge (tg := 33) (off := 23) (by decide +kernel) (by decide)),
  List.forall_mem_cons.mpr ⟨(show SE G 98 13 (.inl (i_al 0 14)) from s_aload_n (j := 0) (by decide +kernel)),
  List.forall_mem_cons.mpr ⟨(show SE G 98 14 (.inl (i_get [3] 6 17)) from s_get (idx := 11) (kk := 6) hK (by decide +kernel) (inW 219 (by decide +kernel) (by decide +kernel)) fo_V_fields),
  List.forall_mem_cons.mpr ⟨(show SE G 98 17 (.inl (i_il 2 18)) from s_iload_n (j := 2) (by decide +kernel)),
  List.forall_mem_cons.mpr ⟨(show SE G 98 18 (.inl (i_ld [22, 23] 19)) from s_aald hK (by decide +kernel)),
  List.forall_mem_cons.mpr ⟨(show SE G 98 19 (.inr (.inl (true, 1, [(0, 35)], 22))) from ⟨c_staticN (idx := 17) (n := 1) (k1 := 35) (host := "ResurrectingHeap") (by decide +kernel) ko_35 (inW 173 (by decide +kernel) (by decide +kernel)) (inW 147 (by decide +kernel) (by decide +kernel)), (List.forall_mem_cons.mpr ⟨⟨mo_35, by decide⟩, fun _ h => absurd h List.not_mem_nil⟩)⟩),
  List.forall_mem_cons.mpr ⟨(show SE G 98 22 (.inl (i_z 0 27 25)) from s_if_eq (tg := 27) (off := 5) (by decide +kernel) (by decide)),
  List.forall_mem_cons.mpr ⟨(show SE G 98 25 (.inl (i_c 1 26)) from s_iconst (e := 1) (by decide +kernel) (by decide)),
  List.forall_mem_cons.mpr ⟨(show SE G 98 26 (.inl (i_is 1 27)) from s_istore_n (j := 1) (by decide +kernel) (by decide)),
  List.forall_mem_cons.mpr ⟨(show SE G 98 27 (.inl (i_ii 2 1 30)) from s_iinc (j := 2) (n := 1) (by decide +kernel) (by decide)),
  List.forall_mem_cons.mpr ⟨(show SE G 98 30 (.inl (i_go 4)) from s_goto (tg := 4) (off := -26) (by decide +kernel) (by decide)),
  List.forall_mem_cons.mpr ⟨(show SE G 98 33 (.inl (i_il 1 34)) from s_iload_n (j := 1) (by decide +kernel)),
  List.forall_mem_cons.mpr ⟨(show SE G 98 34 (.inr (.inr 1)) from ⟨(by decide +kernel), rfl⟩),
  fun _ h => absurd h List.not_mem_nil⟩⟩⟩⟩⟩⟩⟩⟩⟩⟩⟩⟩⟩⟩⟩⟩⟩⟩⟩⟩⟩
set_option maxRecDepth 20000 in
theorem ok_l_99 (hK : K0 G) : ∀ q ∈ l_99, SE G 99 q.1 q.2 :=
  List.forall_mem_cons.mpr ⟨(show SE G 99 0 (.inr (.inr 3)) from ⟨(by decide +kernel), rfl⟩),
  fun _ h => absurd h List.not_mem_nil⟩
set_option maxRecDepth 20000 in
theorem ok_l_100 (hK : K0 G) : ∀ q ∈ l_100, SE G 100 q.1 q.2 :=
  List.forall_mem_cons.mpr ⟨(show SE G 100 0 (.inl (i_al 0 1)) from s_aload_n (j := 0) (by decide +kernel)),
  List.forall_mem_cons.mpr ⟨(show SE G 100 1 (.inl (i_il 1 2)) from s_iload_n (j := 1) (by decide +kernel)),
  List.forall_mem_cons.mpr ⟨(show SE G 100 2 (.inl (i_c 3 3)) from s_iconst (e := 3) (by decide +kernel) (by decide)),
  List.forall_mem_cons.mpr ⟨(show SE G 100 3 (.inr (.inl (false, 3, [(3, 92), (4, 92), (5, 92)], 6))) from ⟨c_init (idx := 3) (n := 2) (k1 := 92) (ts := [3, 4, 5]) (by decide +kernel) ko_92 (inW 264 (by decide +kernel) (by decide +kernel)) (inW 215 (by decide +kernel) (by decide +kernel)) rfl rfl, (List.forall_mem_cons.mpr ⟨⟨mo_92, by decide⟩, List.forall_mem_cons.mpr ⟨⟨mo_92, by decide⟩, List.forall_mem_cons.mpr ⟨⟨mo_92, by decide⟩, fun _ h => absurd h List.not_mem_nil⟩⟩⟩)⟩),
  List.forall_mem_cons.mpr ⟨(show SE G 100 6 (.inl (i_al 0 7)) from s_aload_n (j := 0) (by decide +kernel)),
  List.forall_mem_cons.mpr ⟨(show SE G 100 7 (.inl (i_al 2 8)) from s_aload_n (j := 2) (by decide +kernel)),
  List.forall_mem_cons.mpr ⟨(show SE G 100 8 (.inl (i_put [4] 6 2 11)) from s_put (idx := 9) (kk := 6) (ty := 2) hK (by decide +kernel) (inW 265 (by decide +kernel) (by decide +kernel)) fo_K_target po_100_K_target),
  List.forall_mem_cons.mpr ⟨(show SE G 100 11 (.inr (.inr 3)) from ⟨(by decide +kernel), rfl⟩),
  fun _ h => absurd h List.not_mem_nil⟩⟩⟩⟩⟩⟩⟩⟩
set_option maxRecDepth 20000 in
theorem ok_l_101 (hK : K0 G) : ∀ q ∈ l_101, SE G 101 q.1 q.2 :=
  List.forall_mem_cons.mpr ⟨(show SE G 101 0 (.inl (i_c 3 1)) from s_iconst (e := 3) (by decide +kernel) (by decide)),
  List.forall_mem_cons.mpr ⟨(show SE G 101 1 (.inr (.inr 0)) from ⟨(by decide +kernel), rfl⟩),
  fun _ h => absurd h List.not_mem_nil⟩⟩
set_option maxRecDepth 20000 in
theorem ok_l_102 (hK : K0 G) : ∀ q ∈ l_102, SE G 102 q.1 q.2 :=
  List.forall_mem_cons.mpr ⟨(show SE G 102 0 (.inl (i_al 0 1)) from s_aload_n (j := 0) (by decide +kernel)),
  List.forall_mem_cons.mpr ⟨(show SE G 102 1 (.inl (i_get [4] 6 4)) from s_get (idx := 9) (kk := 6) hK (by decide +kernel) (inW 265 (by decide +kernel) (by decide +kernel)) fo_K_target),
  List.forall_mem_cons.mpr ⟨(show SE G 102 4 (.inl (i_nul 7 11)) from s_ifnonnull (tg := 11) (off := 7) (by decide +kernel) (by decide)),
  List.forall_mem_cons.mpr ⟨(show SE G 102 7 (.inl (i_c 0 8)) from s_iconst (e := 0) (by decide +kernel) (by decide)),
  List.forall_mem_cons.mpr ⟨(show SE G 102 8 (.inl (i_go 12)) from s_goto (tg := 12) (off := 4) (by decide +kernel) (by decide)),
  List.forall_mem_cons.mpr ⟨(show SE G 102 11 (.inl (i_c 1 12)) from s_iconst (e := 1) (by decide +kernel) (by decide)),
  List.forall_mem_cons.mpr ⟨(show SE G 102 12 (.inr (.inr 0)) from ⟨(by decide +kernel), rfl⟩),
  fun _ h => absurd h List.not_mem_nil⟩⟩⟩⟩⟩⟩⟩
set_option maxRecDepth 20000 in
theorem ok_l_103 (hK : K0 G) : ∀ q ∈ l_103, SE G 103 q.1 q.2 :=
  List.forall_mem_cons.mpr ⟨(show SE G 103 0 (.inl (i_c 0 1)) from s_iconst (e := 0) (by decide +kernel) (by decide)),
  List.forall_mem_cons.mpr ⟨(show SE G 103 1 (.inr (.inr 1)) from ⟨(by decide +kernel), rfl⟩),
  fun _ h => absurd h List.not_mem_nil⟩⟩
set_option maxRecDepth 20000 in
theorem ok_l_104 (hK : K0 G) : ∀ q ∈ l_104, SE G 104 q.1 q.2 :=
  List.forall_mem_cons.mpr ⟨(show SE G 104 0 (.inl (i_al 0 1)) from s_aload_n (j := 0) (by decide +kernel)),
  List.forall_mem_cons.mpr ⟨(show SE G 104 1 (.inl (i_get [4] 6 4)) from s_get (idx := 9) (kk := 6) hK (by decide +kernel) (inW 265 (by decide +kernel) (by decide +kernel)) fo_K_target),
  List.forall_mem_cons.mpr ⟨(show SE G 104 4 (.inl (i_nul 22 7)) from s_ifnull (tg := 22) (off := 18) (by decide +kernel) (by decide)),
  List.forall_mem_cons.mpr ⟨(show SE G 104 7 (.inl (i_al 0 8)) from s_aload_n (j := 0) (by decide +kernel)),
  List.forall_mem_cons.mpr ⟨(show SE G 104 8 (.inl (i_get [4] 6 11)) from s_get (idx := 9) (kk := 6) hK (by decide +kernel) (inW 265 (by decide +kernel) (by decide +kernel)) fo_K_target),
  List.forall_mem_cons.mpr ⟨(show SE G 104 11 (.inl (i_get [3, 4, 5] 3 14)) from s_get (idx := 15) (kk := 3) hK (by decide +kernel) (inW 226 (by decide +kernel) (by decide +kernel)) fo_G_marked),
  List.forall_mem_cons.mpr ⟨(show SE G 104 14 (.inl (i_z 1 22 17)) from s_if_ne (tg := 22) (off := 8) (by decide +kernel) (by decide)),
  List.forall_mem_cons.mpr ⟨(show SE G 104 17 (.inl (i_al 0 18)) from s_aload_n (j := 0) (by decide +kernel)),
  List.forall_mem_cons.mpr ⟨(show SE G 104 18 (.inl (i_n 19)) from s_null (by decide +kernel)),
  List.forall_mem_cons.mpr ⟨(show SE G 104 19 (.inl (i_put [4] 6 2 22)) from s_put (idx := 9) (kk := 6) (ty := 2) hK (by decide +kernel) (inW 265 (by decide +kernel) (by decide +kernel)) fo_K_target po_104_K_target),
  List.forall_mem_cons.mpr ⟨(show SE G 104 22 (.inr (.inr 3)) from ⟨(by decide +kernel), rfl⟩),
  fun _ h => absurd h List.not_mem_nil⟩⟩⟩⟩⟩⟩⟩⟩⟩⟩⟩
end OK6
