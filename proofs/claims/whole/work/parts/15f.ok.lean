/-! each method's instructions are sound (by program) -/
section OK5
variable {G : MG}
set_option maxRecDepth 20000 in
theorem ok_l_65_0 (hK : K0 G) : ∀ q ∈ l_65_0, SE G 65 q.1 q.2 :=
  List.forall_mem_cons.mpr ⟨(show SE G 65 0 (.inl (i_c 0 1)) from s_iconst (e := 0) (by decide +kernel) (by decide)),
  List.forall_mem_cons.mpr ⟨(show SE G 65 1 (.inl (i_is 1 2)) from s_istore_n (j := 1) (by decide +kernel) (by decide)),
  List.forall_mem_cons.mpr ⟨(show SE G 65 2 (.inl (i_c 0 3)) from s_iconst (e := 0) (by decide +kernel) (by decide)),
  List.forall_mem_cons.mpr ⟨(show SE G 65 3 (.inl (i_is 2 4)) from s_istore_n (j := 2) (by decide +kernel) (by decide)),
  List.forall_mem_cons.mpr ⟨(show SE G 65 4 (.inl (i_il 2 5)) from s_iload_n (j := 2) (by decide +kernel)),
  List.forall_mem_cons.mpr ⟨(show SE G 65 5 (.inl (i_al 0 6)) from s_aload_n (j := 0) (by decide +kernel)),
  List.forall_mem_cons.mpr ⟨(show SE G 65 6 (.inl (i_get [7] 2 9)) from s_get (idx := 50) (kk := 2) hK (by decide +kernel) (inW 419 (by decide +kernel) (by decide +kernel)) fo_M_objects),
  List.forall_mem_cons.mpr ⟨(show SE G 65 9 (.inl (i_cmp 3 139 12)) from s_icmp_ge (tg := 139) (off := 130) (by decide +kernel) (by decide)),
  List.forall_mem_cons.mpr ⟨(show SE G 65 12 (.inl (i_al 0 13)) from s_aload_n (j := 0) (by decide +kernel)),
  List.forall_mem_cons.mpr ⟨(show SE G 65 13 (.inl (i_get [7] 10 16)) from s_get (idx := 34) (kk := 10) hK (by decide +kernel) (inW 427 (by decide +kernel) (by decide +kernel)) fo_M_mark),
  List.forall_mem_cons.mpr ⟨(show SE G 65 16 (.inl (i_il 2 17)) from s_iload_n (j := 2) (by decide +kernel)),
  List.forall_mem_cons.mpr ⟨(show SE G 65 17 (.inl (i_ld [21] 18)) from s_zald hK (by decide +kernel)),
  List.forall_mem_cons.mpr ⟨(show SE G 65 18 (.inl (i_z 0 133 21)) from s_if_eq (tg := 133) (off := 115) (by decide +kernel) (by decide)),
  List.forall_mem_cons.mpr ⟨(show SE G 65 21 (.inl (i_al 0 22)) from s_aload_n (j := 0) (by decide +kernel)),
  List.forall_mem_cons.mpr ⟨(show SE G 65 22 (.inl (i_get [7] 4 25)) from s_get (idx := 16) (kk := 4) hK (by decide +kernel) (inW 421 (by decide +kernel) (by decide +kernel)) fo_M_name),
  List.forall_mem_cons.mpr ⟨(show SE G 65 25 (.inl (i_il 1 26)) from s_iload_n (j := 1) (by decide +kernel)),
  List.forall_mem_cons.mpr ⟨(show SE G 65 26 (.inl (i_al 0 27)) from s_aload_n (j := 0) (by decide +kernel)),
  List.forall_mem_cons.mpr ⟨(show SE G 65 27 (.inl (i_get [7] 4 30)) from s_get (idx := 16) (kk := 4) hK (by decide +kernel) (inW 421 (by decide +kernel) (by decide +kernel)) fo_M_name),
  List.forall_mem_cons.mpr ⟨(show SE G 65 30 (.inl (i_il 2 31)) from s_iload_n (j := 2) (by decide +kernel)),
  List.forall_mem_cons.mpr ⟨(show SE G 65 31 (.inl (i_ld [20, 30] 32)) from s_iald hK (by decide +kernel)),
  List.forall_mem_cons.mpr ⟨(show SE G 65 32 (.inl (i_ist 33)) from s_iast hK (by decide +kernel)),
  List.forall_mem_cons.mpr ⟨(show SE G 65 33 (.inl (i_al 0 34)) from s_aload_n (j := 0) (by decide +kernel)),
  List.forall_mem_cons.mpr ⟨(show SE G 65 34 (.inl (i_get [7] 5 37)) from s_get (idx := 19) (kk := 5) hK (by decide +kernel) (inW 422 (by decide +kernel) (by decide +kernel)) fo_M_sort),
  List.forall_mem_cons.mpr ⟨(show SE G 65 37 (.inl (i_il 1 38)) from s_iload_n (j := 1) (by decide +kernel)),
  List.forall_mem_cons.mpr ⟨(show SE G 65 38 (.inl (i_al 0 39)) from s_aload_n (j := 0) (by decide +kernel)),
  List.forall_mem_cons.mpr ⟨(show SE G 65 39 (.inl (i_get [7] 5 42)) from s_get (idx := 19) (kk := 5) hK (by decide +kernel) (inW 422 (by decide +kernel) (by decide +kernel)) fo_M_sort),
  List.forall_mem_cons.mpr ⟨(show SE G 65 42 (.inl (i_il 2 43)) from s_iload_n (j := 2) (by decide +kernel)),
  List.forall_mem_cons.mpr ⟨(show SE G 65 43 (.inl (i_ld [20, 30] 44)) from s_iald hK (by decide +kernel)),
  List.forall_mem_cons.mpr ⟨(show SE G 65 44 (.inl (i_ist 45)) from s_iast hK (by decide +kernel)),
  List.forall_mem_cons.mpr ⟨(show SE G 65 45 (.inl (i_al 0 46)) from s_aload_n (j := 0) (by decide +kernel)),
  fun _ h => absurd h List.not_mem_nil⟩⟩⟩⟩⟩⟩⟩⟩⟩⟩⟩⟩⟩⟩⟩⟩⟩⟩⟩⟩⟩⟩⟩⟩⟩⟩⟩⟩⟩⟩
set_option maxRecDepth 20000 in
theorem ok_l_65_1 (hK : K0 G) : ∀ q ∈ l_65_1, SE G 65 q.1 q.2 :=
  List.forall_mem_cons.mpr ⟨(show SE G 65 46 (.inl (i_get [7] 6 49)) from s_get (idx := 22) (kk := 6) hK (by decide +kernel) (inW 423 (by decide +kernel) (by decide +kernel)) fo_M_many),
  List.forall_mem_cons.mpr ⟨(show SE G 65 49 (.inl (i_il 1 50)) from s_iload_n (j := 1) (by decide +kernel)),
  List.forall_mem_cons.mpr ⟨(show SE G 65 50 (.inl (i_al 0 51)) from s_aload_n (j := 0) (by decide +kernel)),
  List.forall_mem_cons.mpr ⟨(show SE G 65 51 (.inl (i_get [7] 6 54)) from s_get (idx := 22) (kk := 6) hK (by decide +kernel) (inW 423 (by decide +kernel) (by decide +kernel)) fo_M_many),
  List.forall_mem_cons.mpr ⟨(show SE G 65 54 (.inl (i_il 2 55)) from s_iload_n (j := 2) (by decide +kernel)),
  List.forall_mem_cons.mpr ⟨(show SE G 65 55 (.inl (i_ld [20, 30] 56)) from s_iald hK (by decide +kernel)),
  List.forall_mem_cons.mpr ⟨(show SE G 65 56 (.inl (i_ist 57)) from s_iast hK (by decide +kernel)),
  List.forall_mem_cons.mpr ⟨(show SE G 65 57 (.inl (i_c 0 58)) from s_iconst (e := 0) (by decide +kernel) (by decide)),
  List.forall_mem_cons.mpr ⟨(show SE G 65 58 (.inl (i_is 3 59)) from s_istore_n (j := 3) (by decide +kernel) (by decide)),
  List.forall_mem_cons.mpr ⟨(show SE G 65 59 (.inl (i_il 3 60)) from s_iload_n (j := 3) (by decide +kernel)),
  List.forall_mem_cons.mpr ⟨(show SE G 65 60 (.inl (i_c 4 61)) from s_iconst (e := 4) (by decide +kernel) (by decide)),
  List.forall_mem_cons.mpr ⟨(show SE G 65 61 (.inl (i_cmp 3 130 64)) from s_icmp_ge (tg := 130) (off := 69) (by decide +kernel) (by decide)),
  List.forall_mem_cons.mpr ⟨(show SE G 65 64 (.inl (i_al 0 65)) from s_aload_n (j := 0) (by decide +kernel)),
  List.forall_mem_cons.mpr ⟨(show SE G 65 65 (.inl (i_get [7] 7 68)) from s_get (idx := 25) (kk := 7) hK (by decide +kernel) (inW 424 (by decide +kernel) (by decide +kernel)) fo_M_is),
  List.forall_mem_cons.mpr ⟨(show SE G 65 68 (.inl (i_c 4 69)) from s_iconst (e := 4) (by decide +kernel) (by decide)),
  List.forall_mem_cons.mpr ⟨(show SE G 65 69 (.inl (i_il 1 70)) from s_iload_n (j := 1) (by decide +kernel)),
  List.forall_mem_cons.mpr ⟨(show SE G 65 70 (.inl (i_bin (fun a b => a * b) 71)) from s_imul (by decide +kernel)),
  List.forall_mem_cons.mpr ⟨(show SE G 65 71 (.inl (i_il 3 72)) from s_iload_n (j := 3) (by decide +kernel)),
  List.forall_mem_cons.mpr ⟨(show SE G 65 72 (.inl (i_bin (fun a b => a + b) 73)) from s_iadd (by decide +kernel)),
  List.forall_mem_cons.mpr ⟨(show SE G 65 73 (.inl (i_al 0 74)) from s_aload_n (j := 0) (by decide +kernel)),
  List.forall_mem_cons.mpr ⟨(show SE G 65 74 (.inl (i_get [7] 7 77)) from s_get (idx := 25) (kk := 7) hK (by decide +kernel) (inW 424 (by decide +kernel) (by decide +kernel)) fo_M_is),
  List.forall_mem_cons.mpr ⟨(show SE G 65 77 (.inl (i_c 4 78)) from s_iconst (e := 4) (by decide +kernel) (by decide)),
  List.forall_mem_cons.mpr ⟨(show SE G 65 78 (.inl (i_il 2 79)) from s_iload_n (j := 2) (by decide +kernel)),
  List.forall_mem_cons.mpr ⟨(show SE G 65 79 (.inl (i_bin (fun a b => a * b) 80)) from s_imul (by decide +kernel)),
  List.forall_mem_cons.mpr ⟨(show SE G 65 80 (.inl (i_il 3 81)) from s_iload_n (j := 3) (by decide +kernel)),
  List.forall_mem_cons.mpr ⟨(show SE G 65 81 (.inl (i_bin (fun a b => a + b) 82)) from s_iadd (by decide +kernel)),
  List.forall_mem_cons.mpr ⟨(show SE G 65 82 (.inl (i_ld [20, 30] 83)) from s_iald hK (by decide +kernel)),
  List.forall_mem_cons.mpr ⟨(show SE G 65 83 (.inl (i_ist 84)) from s_iast hK (by decide +kernel)),
  List.forall_mem_cons.mpr ⟨(show SE G 65 84 (.inl (i_al 0 85)) from s_aload_n (j := 0) (by decide +kernel)),
  List.forall_mem_cons.mpr ⟨(show SE G 65 85 (.inl (i_get [7] 8 88)) from s_get (idx := 28) (kk := 8) hK (by decide +kernel) (inW 425 (by decide +kernel) (by decide +kernel)) fo_M_has),
  fun _ h => absurd h List.not_mem_nil⟩⟩⟩⟩⟩⟩⟩⟩⟩⟩⟩⟩⟩⟩⟩⟩⟩⟩⟩⟩⟩⟩⟩⟩⟩⟩⟩⟩⟩⟩
set_option maxRecDepth 20000 in
theorem ok_l_65_2 (hK : K0 G) : ∀ q ∈ l_65_2, SE G 65 q.1 q.2 :=
  List.forall_mem_cons.mpr ⟨(show SE G 65 88 (.inl (i_c 4 89)) from s_iconst (e := 4) (by decide +kernel) (by decide)),
  List.forall_mem_cons.mpr ⟨(show SE G 65 89 (.inl (i_il 1 90)) from s_iload_n (j := 1) (by decide +kernel)),
  List.forall_mem_cons.mpr ⟨(show SE G 65 90 (.inl (i_bin (fun a b => a * b) 91)) from s_imul (by decide +kernel)),
  List.forall_mem_cons.mpr ⟨(show SE G 65 91 (.inl (i_il 3 92)) from s_iload_n (j := 3) (by decide +kernel)),
  List.forall_mem_cons.mpr ⟨(show SE G 65 92 (.inl (i_bin (fun a b => a + b) 93)) from s_iadd (by decide +kernel)),
  List.forall_mem_cons.mpr ⟨(show SE G 65 93 (.inl (i_al 0 94)) from s_aload_n (j := 0) (by decide +kernel)),
  List.forall_mem_cons.mpr ⟨(show SE G 65 94 (.inl (i_get [7] 8 97)) from s_get (idx := 28) (kk := 8) hK (by decide +kernel) (inW 425 (by decide +kernel) (by decide +kernel)) fo_M_has),
  List.forall_mem_cons.mpr ⟨(show SE G 65 97 (.inl (i_c 4 98)) from s_iconst (e := 4) (by decide +kernel) (by decide)),
  List.forall_mem_cons.mpr ⟨(show SE G 65 98 (.inl (i_il 2 99)) from s_iload_n (j := 2) (by decide +kernel)),
  List.forall_mem_cons.mpr ⟨(show SE G 65 99 (.inl (i_bin (fun a b => a * b) 100)) from s_imul (by decide +kernel)),
  List.forall_mem_cons.mpr ⟨(show SE G 65 100 (.inl (i_il 3 101)) from s_iload_n (j := 3) (by decide +kernel)),
  List.forall_mem_cons.mpr ⟨(show SE G 65 101 (.inl (i_bin (fun a b => a + b) 102)) from s_iadd (by decide +kernel)),
  List.forall_mem_cons.mpr ⟨(show SE G 65 102 (.inl (i_ld [20, 30] 103)) from s_iald hK (by decide +kernel)),
  List.forall_mem_cons.mpr ⟨(show SE G 65 103 (.inl (i_ist 104)) from s_iast hK (by decide +kernel)),
  List.forall_mem_cons.mpr ⟨(show SE G 65 104 (.inl (i_al 0 105)) from s_aload_n (j := 0) (by decide +kernel)),
  List.forall_mem_cons.mpr ⟨(show SE G 65 105 (.inl (i_get [7] 9 108)) from s_get (idx := 31) (kk := 9) hK (by decide +kernel) (inW 426 (by decide +kernel) (by decide +kernel)) fo_M_keys),
  List.forall_mem_cons.mpr ⟨(show SE G 65 108 (.inl (i_c 4 109)) from s_iconst (e := 4) (by decide +kernel) (by decide)),
  List.forall_mem_cons.mpr ⟨(show SE G 65 109 (.inl (i_il 1 110)) from s_iload_n (j := 1) (by decide +kernel)),
  List.forall_mem_cons.mpr ⟨(show SE G 65 110 (.inl (i_bin (fun a b => a * b) 111)) from s_imul (by decide +kernel)),
  List.forall_mem_cons.mpr ⟨(show SE G 65 111 (.inl (i_il 3 112)) from s_iload_n (j := 3) (by decide +kernel)),
  List.forall_mem_cons.mpr ⟨(show SE G 65 112 (.inl (i_bin (fun a b => a + b) 113)) from s_iadd (by decide +kernel)),
  List.forall_mem_cons.mpr ⟨(show SE G 65 113 (.inl (i_al 0 114)) from s_aload_n (j := 0) (by decide +kernel)),
  List.forall_mem_cons.mpr ⟨(show SE G 65 114 (.inl (i_get [7] 9 117)) from s_get (idx := 31) (kk := 9) hK (by decide +kernel) (inW 426 (by decide +kernel) (by decide +kernel)) fo_M_keys),
  List.forall_mem_cons.mpr ⟨(show SE G 65 117 (.inl (i_c 4 118)) from s_iconst (e := 4) (by decide +kernel) (by decide)),
  List.forall_mem_cons.mpr ⟨(show SE G 65 118 (.inl (i_il 2 119)) from s_iload_n (j := 2) (by decide +kernel)),
  List.forall_mem_cons.mpr ⟨(show SE G 65 119 (.inl (i_bin (fun a b => a * b) 120)) from s_imul (by decide +kernel)),
  List.forall_mem_cons.mpr ⟨(show SE G 65 120 (.inl (i_il 3 121)) from s_iload_n (j := 3) (by decide +kernel)),
  List.forall_mem_cons.mpr ⟨(show SE G 65 121 (.inl (i_bin (fun a b => a + b) 122)) from s_iadd (by decide +kernel)),
  List.forall_mem_cons.mpr ⟨(show SE G 65 122 (.inl (i_ld [20, 30] 123)) from s_iald hK (by decide +kernel)),
  List.forall_mem_cons.mpr ⟨(show SE G 65 123 (.inl (i_ist 124)) from s_iast hK (by decide +kernel)),
  fun _ h => absurd h List.not_mem_nil⟩⟩⟩⟩⟩⟩⟩⟩⟩⟩⟩⟩⟩⟩⟩⟩⟩⟩⟩⟩⟩⟩⟩⟩⟩⟩⟩⟩⟩⟩
set_option maxRecDepth 20000 in
theorem ok_l_65_3 (hK : K0 G) : ∀ q ∈ l_65_3, SE G 65 q.1 q.2 :=
  List.forall_mem_cons.mpr ⟨(show SE G 65 124 (.inl (i_ii 3 1 127)) from s_iinc (j := 3) (n := 1) (by decide +kernel) (by decide)),
  List.forall_mem_cons.mpr ⟨(show SE G 65 127 (.inl (i_go 59)) from s_goto (tg := 59) (off := -68) (by decide +kernel) (by decide)),
  List.forall_mem_cons.mpr ⟨(show SE G 65 130 (.inl (i_ii 1 1 133)) from s_iinc (j := 1) (n := 1) (by decide +kernel) (by decide)),
  List.forall_mem_cons.mpr ⟨(show SE G 65 133 (.inl (i_ii 2 1 136)) from s_iinc (j := 2) (n := 1) (by decide +kernel) (by decide)),
  List.forall_mem_cons.mpr ⟨(show SE G 65 136 (.inl (i_go 4)) from s_goto (tg := 4) (off := -132) (by decide +kernel) (by decide)),
  List.forall_mem_cons.mpr ⟨(show SE G 65 139 (.inl (i_al 0 140)) from s_aload_n (j := 0) (by decide +kernel)),
  List.forall_mem_cons.mpr ⟨(show SE G 65 140 (.inl (i_get [7] 2 143)) from s_get (idx := 50) (kk := 2) hK (by decide +kernel) (inW 419 (by decide +kernel) (by decide +kernel)) fo_M_objects),
  List.forall_mem_cons.mpr ⟨(show SE G 65 143 (.inl (i_il 1 144)) from s_iload_n (j := 1) (by decide +kernel)),
  List.forall_mem_cons.mpr ⟨(show SE G 65 144 (.inl (i_bin (fun a b => a - b) 145)) from s_isub (by decide +kernel)),
  List.forall_mem_cons.mpr ⟨(show SE G 65 145 (.inl (i_is 2 146)) from s_istore_n (j := 2) (by decide +kernel) (by decide)),
  List.forall_mem_cons.mpr ⟨(show SE G 65 146 (.inl (i_al 0 147)) from s_aload_n (j := 0) (by decide +kernel)),
  List.forall_mem_cons.mpr ⟨(show SE G 65 147 (.inl (i_il 1 148)) from s_iload_n (j := 1) (by decide +kernel)),
  List.forall_mem_cons.mpr ⟨(show SE G 65 148 (.inl (i_put [7] 2 0 151)) from s_put (idx := 50) (kk := 2) (ty := 0) hK (by decide +kernel) (inW 419 (by decide +kernel) (by decide +kernel)) fo_M_objects po_65_M_objects),
  List.forall_mem_cons.mpr ⟨(show SE G 65 151 (.inl (i_il 2 152)) from s_iload_n (j := 2) (by decide +kernel)),
  List.forall_mem_cons.mpr ⟨(show SE G 65 152 (.inr (.inr 0)) from ⟨(by decide +kernel), rfl⟩),
  fun _ h => absurd h List.not_mem_nil⟩⟩⟩⟩⟩⟩⟩⟩⟩⟩⟩⟩⟩⟩⟩
theorem ok_l_65 (hK : K0 G) : ∀ q ∈ l_65, SE G 65 q.1 q.2 := by
  show ∀ q ∈ l_65_0 ++ (l_65_1 ++ (l_65_2 ++ (l_65_3))), SE G 65 q.1 q.2
  exact List.forall_mem_append.mpr ⟨ok_l_65_0 hK, List.forall_mem_append.mpr ⟨ok_l_65_1 hK, List.forall_mem_append.mpr ⟨ok_l_65_2 hK, ok_l_65_3 hK⟩⟩⟩
set_option maxRecDepth 20000 in
theorem ok_l_66_0 (hK : K0 G) : ∀ q ∈ l_66_0, SE G 66 q.1 q.2 :=
  List.forall_mem_cons.mpr ⟨(show SE G 66 0 (.inl (i_al 0 1)) from s_aload_n (j := 0) (by decide +kernel)),
  List.forall_mem_cons.mpr ⟨(show SE G 66 1 (.inl (i_dup 2)) from s_dup (by decide +kernel)),
  List.forall_mem_cons.mpr ⟨(show SE G 66 2 (.inl (i_get [7] 17 5)) from s_get (idx := 114) (kk := 17) hK (by decide +kernel) (inW 434 (by decide +kernel) (by decide +kernel)) fo_M_runs),
  List.forall_mem_cons.mpr ⟨(show SE G 66 5 (.inl (i_c 1 6)) from s_iconst (e := 1) (by decide +kernel) (by decide)),
  List.forall_mem_cons.mpr ⟨(show SE G 66 6 (.inl (i_bin (fun a b => a + b) 7)) from s_iadd (by decide +kernel)),
  List.forall_mem_cons.mpr ⟨(show SE G 66 7 (.inl (i_put [7] 17 0 10)) from s_put (idx := 114) (kk := 17) (ty := 0) hK (by decide +kernel) (inW 434 (by decide +kernel) (by decide +kernel)) fo_M_runs po_66_M_runs),
  List.forall_mem_cons.mpr ⟨(show SE G 66 10 (.inl (i_c 0 11)) from s_iconst (e := 0) (by decide +kernel) (by decide)),
  List.forall_mem_cons.mpr ⟨(show SE G 66 11 (.inl (i_is 1 12)) from s_istore_n (j := 1) (by decide +kernel) (by decide)),
  List.forall_mem_cons.mpr ⟨(show SE G 66 12 (.inl (i_il 1 13)) from s_iload_n (j := 1) (by decide +kernel)),
  List.forall_mem_cons.mpr ⟨(show SE G 66 13 (.inl (i_al 0 14)) from s_aload_n (j := 0) (by decide +kernel)),
  List.forall_mem_cons.mpr ⟨(show SE G 66 14 (.inl (i_get [7] 2 17)) from s_get (idx := 50) (kk := 2) hK (by decide +kernel) (inW 419 (by decide +kernel) (by decide +kernel)) fo_M_objects),
  List.forall_mem_cons.mpr ⟨(show SE G 66 17 (.inl (i_cmp 3 33 20)) from s_icmp_ge (tg := 33) (off := 16) (by decide +kernel) (by decide)),
  List.forall_mem_cons.mpr ⟨(show SE G 66 20 (.inl (i_al 0 21)) from s_aload_n (j := 0) (by decide +kernel)),
  List.forall_mem_cons.mpr ⟨(show SE G 66 21 (.inl (i_get [7] 10 24)) from s_get (idx := 34) (kk := 10) hK (by decide +kernel) (inW 427 (by decide +kernel) (by decide +kernel)) fo_M_mark),
  List.forall_mem_cons.mpr ⟨(show SE G 66 24 (.inl (i_il 1 25)) from s_iload_n (j := 1) (by decide +kernel)),
  List.forall_mem_cons.mpr ⟨(show SE G 66 25 (.inl (i_c 0 26)) from s_iconst (e := 0) (by decide +kernel) (by decide)),
  List.forall_mem_cons.mpr ⟨(show SE G 66 26 (.inl (i_zst 27)) from s_zast hK (by decide +kernel)),
  List.forall_mem_cons.mpr ⟨(show SE G 66 27 (.inl (i_ii 1 1 30)) from s_iinc (j := 1) (n := 1) (by decide +kernel) (by decide)),
  List.forall_mem_cons.mpr ⟨(show SE G 66 30 (.inl (i_go 12)) from s_goto (tg := 12) (off := -18) (by decide +kernel) (by decide)),
  List.forall_mem_cons.mpr ⟨(show SE G 66 33 (.inl (i_al 0 34)) from s_aload_n (j := 0) (by decide +kernel)),
  List.forall_mem_cons.mpr ⟨(show SE G 66 34 (.inr (.inl (false, 1, [(7, 59)], 37))) from ⟨c_virt (idx := 117) (n := 0) hK (by decide +kernel) (List.forall_mem_cons.mpr ⟨⟨ko_59, inW 511 (by decide +kernel) (by decide +kernel), inW 513 (by decide +kernel) (by decide +kernel), 6, _, rfl, by decide, rfl, inW 17 (by decide +kernel) (by decide +kernel)⟩, fun _ h => absurd h List.not_mem_nil⟩), (List.forall_mem_cons.mpr ⟨⟨mo_59, by decide⟩, fun _ h => absurd h List.not_mem_nil⟩)⟩),
  List.forall_mem_cons.mpr ⟨(show SE G 66 37 (.inl (i_al 0 38)) from s_aload_n (j := 0) (by decide +kernel)),
  List.forall_mem_cons.mpr ⟨(show SE G 66 38 (.inl (i_c 0 39)) from s_iconst (e := 0) (by decide +kernel) (by decide)),
  List.forall_mem_cons.mpr ⟨(show SE G 66 39 (.inr (.inl (false, 2, [(7, 62)], 42))) from ⟨c_virt (idx := 120) (n := 1) hK (by decide +kernel) (List.forall_mem_cons.mpr ⟨⟨ko_62, inW 527 (by decide +kernel) (by decide +kernel), inW 529 (by decide +kernel) (by decide +kernel), 6, _, rfl, by decide, rfl, inW 21 (by decide +kernel) (by decide +kernel)⟩, fun _ h => absurd h List.not_mem_nil⟩), (List.forall_mem_cons.mpr ⟨⟨mo_62, by decide⟩, fun _ h => absurd h List.not_mem_nil⟩)⟩),
  List.forall_mem_cons.mpr ⟨(show SE G 66 42 (.inl (i_al 0 43)) from s_aload_n (j := 0) (by decide +kernel)),
  List.forall_mem_cons.mpr ⟨(show SE G 66 43 (.inr (.inl (false, 1, [(7, 63)], 46))) from ⟨c_virt (idx := 124) (n := 0) hK (by decide +kernel) (List.forall_mem_cons.mpr ⟨⟨ko_63, inW 539 (by decide +kernel) (by decide +kernel), inW 541 (by decide +kernel) (by decide +kernel), 6, _, rfl, by decide, rfl, inW 24 (by decide +kernel) (by decide +kernel)⟩, fun _ h => absurd h List.not_mem_nil⟩), (List.forall_mem_cons.mpr ⟨⟨mo_63, by decide⟩, fun _ h => absurd h List.not_mem_nil⟩)⟩),
  List.forall_mem_cons.mpr ⟨(show SE G 66 46 (.inl (i_al 0 47)) from s_aload_n (j := 0) (by decide +kernel)),
  List.forall_mem_cons.mpr ⟨(show SE G 66 47 (.inr (.inl (false, 1, [(7, 64)], 50))) from ⟨c_virt (idx := 127) (n := 0) hK (by decide +kernel) (List.forall_mem_cons.mpr ⟨⟨ko_64, inW 543 (by decide +kernel) (by decide +kernel), inW 545 (by decide +kernel) (by decide +kernel), 6, _, rfl, by decide, rfl, inW 25 (by decide +kernel) (by decide +kernel)⟩, fun _ h => absurd h List.not_mem_nil⟩), (List.forall_mem_cons.mpr ⟨⟨mo_64, by decide⟩, fun _ h => absurd h List.not_mem_nil⟩)⟩),
  List.forall_mem_cons.mpr ⟨(show SE G 66 50 (.inl (i_al 0 51)) from s_aload_n (j := 0) (by decide +kernel)),
  List.forall_mem_cons.mpr ⟨(show SE G 66 51 (.inr (.inl (false, 1, [(7, 60)], 54))) from ⟨c_virt (idx := 104) (n := 0) hK (by decide +kernel) (List.forall_mem_cons.mpr ⟨⟨ko_60, inW 523 (by decide +kernel) (by decide +kernel), inW 525 (by decide +kernel) (by decide +kernel), 6, _, rfl, by decide, rfl, inW 20 (by decide +kernel) (by decide +kernel)⟩, fun _ h => absurd h List.not_mem_nil⟩), (List.forall_mem_cons.mpr ⟨⟨mo_60, by decide⟩, fun _ h => absurd h List.not_mem_nil⟩)⟩),
  fun _ h => absurd h List.not_mem_nil⟩⟩⟩⟩⟩⟩⟩⟩⟩⟩⟩⟩⟩⟩⟩⟩⟩⟩⟩⟩⟩⟩⟩⟩⟩⟩⟩⟩⟩⟩
set_option maxRecDepth 20000 in
theorem ok_l_66_1 (hK : K0 G) : ∀ q ∈ l_66_1, SE G 66 q.1 q.2 :=
  List.forall_mem_cons.mpr ⟨(show SE G 66 54 (.inl (i_al 0 55)) from s_aload_n (j := 0) (by decide +kernel)),
  List.forall_mem_cons.mpr ⟨(show SE G 66 55 (.inl (i_c 1 56)) from s_iconst (e := 1) (by decide +kernel) (by decide)),
  List.forall_mem_cons.mpr ⟨(show SE G 66 56 (.inr (.inl (false, 2, [(7, 62)], 59))) from ⟨c_virt (idx := 120) (n := 1) hK (by decide +kernel) (List.forall_mem_cons.mpr ⟨⟨ko_62, inW 527 (by decide +kernel) (by decide +kernel), inW 529 (by decide +kernel) (by decide +kernel), 6, _, rfl, by decide, rfl, inW 21 (by decide +kernel) (by decide +kernel)⟩, fun _ h => absurd h List.not_mem_nil⟩), (List.forall_mem_cons.mpr ⟨⟨mo_62, by decide⟩, fun _ h => absurd h List.not_mem_nil⟩)⟩),
  List.forall_mem_cons.mpr ⟨(show SE G 66 59 (.inl (i_al 0 60)) from s_aload_n (j := 0) (by decide +kernel)),
  List.forall_mem_cons.mpr ⟨(show SE G 66 60 (.inr (.inl (false, 1, [(7, 65)], 63))) from ⟨c_virt (idx := 130) (n := 0) hK (by decide +kernel) (List.forall_mem_cons.mpr ⟨⟨ko_65, inW 547 (by decide +kernel) (by decide +kernel), inW 549 (by decide +kernel) (by decide +kernel), 6, _, rfl, by decide, rfl, inW 26 (by decide +kernel) (by decide +kernel)⟩, fun _ h => absurd h List.not_mem_nil⟩), (List.forall_mem_cons.mpr ⟨⟨mo_65, by decide⟩, fun _ h => absurd h List.not_mem_nil⟩)⟩),
  List.forall_mem_cons.mpr ⟨(show SE G 66 63 (.inr (.inr 0)) from ⟨(by decide +kernel), rfl⟩),
  fun _ h => absurd h List.not_mem_nil⟩⟩⟩⟩⟩⟩
theorem ok_l_66 (hK : K0 G) : ∀ q ∈ l_66, SE G 66 q.1 q.2 := by
  show ∀ q ∈ l_66_0 ++ (l_66_1), SE G 66 q.1 q.2
  exact List.forall_mem_append.mpr ⟨ok_l_66_0 hK, ok_l_66_1 hK⟩
set_option maxRecDepth 20000 in
theorem ok_l_67 (hK : K0 G) : ∀ q ∈ l_67, SE G 67 q.1 q.2 :=
  List.forall_mem_cons.mpr ⟨(show SE G 67 0 (.inl (i_il 1 1)) from s_iload_n (j := 1) (by decide +kernel)),
  List.forall_mem_cons.mpr ⟨(show SE G 67 1 (.inr (.inl (true, 1, [(0, 37)], 4))) from ⟨c_static (idx := 54) (n := 1) (k1 := 37) (by decide +kernel) ko_37 (inW 478 (by decide +kernel) (by decide +kernel)) (inW 479 (by decide +kernel) (by decide +kernel)), (List.forall_mem_cons.mpr ⟨⟨mo_37, by decide⟩, fun _ h => absurd h List.not_mem_nil⟩)⟩),
  List.forall_mem_cons.mpr ⟨(show SE G 67 4 (.inl (i_z 1 9 7)) from s_if_ne (tg := 9) (off := 5) (by decide +kernel) (by decide)),
  List.forall_mem_cons.mpr ⟨(show SE G 67 7 (.inl (i_c (-1) 8)) from s_iconst (e := (-1)) (by decide +kernel) (by decide)),
  List.forall_mem_cons.mpr ⟨(show SE G 67 8 (.inr (.inr 0)) from ⟨(by decide +kernel), rfl⟩),
  List.forall_mem_cons.mpr ⟨(show SE G 67 9 (.inl (i_al 0 10)) from s_aload_n (j := 0) (by decide +kernel)),
  List.forall_mem_cons.mpr ⟨(show SE G 67 10 (.inl (i_il 1 11)) from s_iload_n (j := 1) (by decide +kernel)),
  List.forall_mem_cons.mpr ⟨(show SE G 67 11 (.inr (.inl (false, 2, [(7, 39)], 14))) from ⟨c_virt (idx := 62) (n := 1) hK (by decide +kernel) (List.forall_mem_cons.mpr ⟨⟨ko_39, inW 555 (by decide +kernel) (by decide +kernel), inW 557 (by decide +kernel) (by decide +kernel), 6, _, rfl, by decide, rfl, inW 27 (by decide +kernel) (by decide +kernel)⟩, fun _ h => absurd h List.not_mem_nil⟩), (List.forall_mem_cons.mpr ⟨⟨mo_39, by decide⟩, fun _ h => absurd h List.not_mem_nil⟩)⟩),
  List.forall_mem_cons.mpr ⟨(show SE G 67 14 (.inl (i_is 2 15)) from s_istore_n (j := 2) (by decide +kernel) (by decide)),
  List.forall_mem_cons.mpr ⟨(show SE G 67 15 (.inl (i_il 2 16)) from s_iload_n (j := 2) (by decide +kernel)),
  List.forall_mem_cons.mpr ⟨(show SE G 67 16 (.inl (i_z 2 28 19)) from s_if_lt (tg := 28) (off := 12) (by decide +kernel) (by decide)),
  List.forall_mem_cons.mpr ⟨(show SE G 67 19 (.inl (i_al 0 20)) from s_aload_n (j := 0) (by decide +kernel)),
  List.forall_mem_cons.mpr ⟨(show SE G 67 20 (.inl (i_get [7] 5 23)) from s_get (idx := 19) (kk := 5) hK (by decide +kernel) (inW 422 (by decide +kernel) (by decide +kernel)) fo_M_sort),
  List.forall_mem_cons.mpr ⟨(show SE G 67 23 (.inl (i_il 2 24)) from s_iload_n (j := 2) (by decide +kernel)),
  List.forall_mem_cons.mpr ⟨(show SE G 67 24 (.inl (i_ld [20, 30] 25)) from s_iald hK (by decide +kernel)),
  List.forall_mem_cons.mpr ⟨(show SE G 67 25 (.inl (i_go 34)) from s_goto (tg := 34) (off := 9) (by decide +kernel) (by decide)),
  List.forall_mem_cons.mpr ⟨(show SE G 67 28 (.inl (i_al 0 29)) from s_aload_n (j := 0) (by decide +kernel)),
  List.forall_mem_cons.mpr ⟨(show SE G 67 29 (.inl (i_get [7] 0 32)) from s_get (idx := 7) (kk := 0) hK (by decide +kernel) (inW 417 (by decide +kernel) (by decide +kernel)) fo_M_varIs),
  List.forall_mem_cons.mpr ⟨(show SE G 67 32 (.inl (i_il 1 33)) from s_iload_n (j := 1) (by decide +kernel)),
  List.forall_mem_cons.mpr ⟨(show SE G 67 33 (.inl (i_ld [20, 30] 34)) from s_iald hK (by decide +kernel)),
  List.forall_mem_cons.mpr ⟨(show SE G 67 34 (.inr (.inr 0)) from ⟨(by decide +kernel), rfl⟩),
  fun _ h => absurd h List.not_mem_nil⟩⟩⟩⟩⟩⟩⟩⟩⟩⟩⟩⟩⟩⟩⟩⟩⟩⟩⟩⟩⟩
set_option maxRecDepth 20000 in
theorem ok_l_68 (hK : K0 G) : ∀ q ∈ l_68, SE G 68 q.1 q.2 :=
  List.forall_mem_cons.mpr ⟨(show SE G 68 0 (.inl (i_il 1 1)) from s_iload_n (j := 1) (by decide +kernel)),
  List.forall_mem_cons.mpr ⟨(show SE G 68 1 (.inr (.inl (true, 1, [(0, 37)], 4))) from ⟨c_static (idx := 54) (n := 1) (k1 := 37) (by decide +kernel) ko_37 (inW 478 (by decide +kernel) (by decide +kernel)) (inW 479 (by decide +kernel) (by decide +kernel)), (List.forall_mem_cons.mpr ⟨⟨mo_37, by decide⟩, fun _ h => absurd h List.not_mem_nil⟩)⟩),
  List.forall_mem_cons.mpr ⟨(show SE G 68 4 (.inl (i_z 0 26 7)) from s_if_eq (tg := 26) (off := 22) (by decide +kernel) (by decide)),
  List.forall_mem_cons.mpr ⟨(show SE G 68 7 (.inl (i_al 0 8)) from s_aload_n (j := 0) (by decide +kernel)),
  List.forall_mem_cons.mpr ⟨(show SE G 68 8 (.inl (i_get [7] 0 11)) from s_get (idx := 7) (kk := 0) hK (by decide +kernel) (inW 417 (by decide +kernel) (by decide +kernel)) fo_M_varIs),
  List.forall_mem_cons.mpr ⟨(show SE G 68 11 (.inl (i_il 1 12)) from s_iload_n (j := 1) (by decide +kernel)),
  List.forall_mem_cons.mpr ⟨(show SE G 68 12 (.inl (i_ld [20, 30] 13)) from s_iald hK (by decide +kernel)),
  List.forall_mem_cons.mpr ⟨(show SE G 68 13 (.inl (i_c 1 14)) from s_iconst (e := 1) (by decide +kernel) (by decide)),
  List.forall_mem_cons.mpr ⟨(show SE G 68 14 (.inl (i_cmp 1 26 17)) from s_icmp_ne (tg := 26) (off := 12) (by decide +kernel) (by decide)),
  List.forall_mem_cons.mpr ⟨(show SE G 68 17 (.inl (i_al 0 18)) from s_aload_n (j := 0) (by decide +kernel)),
  List.forall_mem_cons.mpr ⟨(show SE G 68 18 (.inl (i_get [7] 1 21)) from s_get (idx := 13) (kk := 1) hK (by decide +kernel) (inW 418 (by decide +kernel) (by decide +kernel)) fo_M_varHas),
  List.forall_mem_cons.mpr ⟨(show SE G 68 21 (.inl (i_il 1 22)) from s_iload_n (j := 1) (by decide +kernel)),
  List.forall_mem_cons.mpr ⟨(show SE G 68 22 (.inl (i_ld [20, 30] 23)) from s_iald hK (by decide +kernel)),
  List.forall_mem_cons.mpr ⟨(show SE G 68 23 (.inl (i_go 27)) from s_goto (tg := 27) (off := 4) (by decide +kernel) (by decide)),
  List.forall_mem_cons.mpr ⟨(show SE G 68 26 (.inl (i_c 0 27)) from s_iconst (e := 0) (by decide +kernel) (by decide)),
  List.forall_mem_cons.mpr ⟨(show SE G 68 27 (.inr (.inr 0)) from ⟨(by decide +kernel), rfl⟩),
  fun _ h => absurd h List.not_mem_nil⟩⟩⟩⟩⟩⟩⟩⟩⟩⟩⟩⟩⟩⟩⟩⟩
set_option maxRecDepth 20000 in
theorem ok_l_69 (hK : K0 G) : ∀ q ∈ l_69, SE G 69 q.1 q.2 :=
  List.forall_mem_cons.mpr ⟨(show SE G 69 0 (.inl (i_al 0 1)) from s_aload_n (j := 0) (by decide +kernel)),
  List.forall_mem_cons.mpr ⟨(show SE G 69 1 (.inl (i_il 1 2)) from s_iload_n (j := 1) (by decide +kernel)),
  List.forall_mem_cons.mpr ⟨(show SE G 69 2 (.inr (.inl (false, 2, [(7, 39)], 5))) from ⟨c_virt (idx := 62) (n := 1) hK (by decide +kernel) (List.forall_mem_cons.mpr ⟨⟨ko_39, inW 555 (by decide +kernel) (by decide +kernel), inW 557 (by decide +kernel) (by decide +kernel), 6, _, rfl, by decide, rfl, inW 27 (by decide +kernel) (by decide +kernel)⟩, fun _ h => absurd h List.not_mem_nil⟩), (List.forall_mem_cons.mpr ⟨⟨mo_39, by decide⟩, fun _ h => absurd h List.not_mem_nil⟩)⟩),
  List.forall_mem_cons.mpr ⟨(show SE G 69 5 (.inl (i_z 2 17 8)) from s_if_lt (tg := 17) (off := 12) (by decide +kernel) (by decide)),
  List.forall_mem_cons.mpr ⟨(show SE G 69 8 (.inl (i_al 0 9)) from s_aload_n (j := 0) (by decide +kernel)),
  List.forall_mem_cons.mpr ⟨(show SE G 69 9 (.inl (i_get [7] 1 12)) from s_get (idx := 13) (kk := 1) hK (by decide +kernel) (inW 418 (by decide +kernel) (by decide +kernel)) fo_M_varHas),
  List.forall_mem_cons.mpr ⟨(show SE G 69 12 (.inl (i_il 1 13)) from s_iload_n (j := 1) (by decide +kernel)),
  List.forall_mem_cons.mpr ⟨(show SE G 69 13 (.inl (i_ld [20, 30] 14)) from s_iald hK (by decide +kernel)),
  List.forall_mem_cons.mpr ⟨(show SE G 69 14 (.inl (i_go 18)) from s_goto (tg := 18) (off := 4) (by decide +kernel) (by decide)),
  List.forall_mem_cons.mpr ⟨(show SE G 69 17 (.inl (i_c 0 18)) from s_iconst (e := 0) (by decide +kernel) (by decide)),
  List.forall_mem_cons.mpr ⟨(show SE G 69 18 (.inr (.inr 0)) from ⟨(by decide +kernel), rfl⟩),
  fun _ h => absurd h List.not_mem_nil⟩⟩⟩⟩⟩⟩⟩⟩⟩⟩⟩
set_option maxRecDepth 20000 in
theorem ok_l_70 (hK : K0 G) : ∀ q ∈ l_70, SE G 70 q.1 q.2 :=
  List.forall_mem_cons.mpr ⟨(show SE G 70 0 (.inl (i_al 0 1)) from s_aload_n (j := 0) (by decide +kernel)),
  List.forall_mem_cons.mpr ⟨(show SE G 70 1 (.inl (i_il 1 2)) from s_iload_n (j := 1) (by decide +kernel)),
  List.forall_mem_cons.mpr ⟨(show SE G 70 2 (.inr (.inl (false, 2, [(7, 39)], 5))) from ⟨c_virt (idx := 62) (n := 1) hK (by decide +kernel) (List.forall_mem_cons.mpr ⟨⟨ko_39, inW 555 (by decide +kernel) (by decide +kernel), inW 557 (by decide +kernel) (by decide +kernel), 6, _, rfl, by decide, rfl, inW 27 (by decide +kernel) (by decide +kernel)⟩, fun _ h => absurd h List.not_mem_nil⟩), (List.forall_mem_cons.mpr ⟨⟨mo_39, by decide⟩, fun _ h => absurd h List.not_mem_nil⟩)⟩),
  List.forall_mem_cons.mpr ⟨(show SE G 70 5 (.inl (i_is 2 6)) from s_istore_n (j := 2) (by decide +kernel) (by decide)),
  List.forall_mem_cons.mpr ⟨(show SE G 70 6 (.inl (i_il 2 7)) from s_iload_n (j := 2) (by decide +kernel)),
  List.forall_mem_cons.mpr ⟨(show SE G 70 7 (.inl (i_z 3 14 10)) from s_if_ge (tg := 14) (off := 7) (by decide +kernel) (by decide)),
  List.forall_mem_cons.mpr ⟨(show SE G 70 10 (.inl (i_c (-1) 11)) from s_iconst (e := (-1)) (by decide +kernel) (by decide)),
  List.forall_mem_cons.mpr ⟨(show SE G 70 11 (.inl (i_go 19)) from s_goto (tg := 19) (off := 8) (by decide +kernel) (by decide)),
  List.forall_mem_cons.mpr ⟨(show SE G 70 14 (.inl (i_al 0 15)) from s_aload_n (j := 0) (by decide +kernel)),
  List.forall_mem_cons.mpr ⟨(show SE G 70 15 (.inl (i_il 2 16)) from s_iload_n (j := 2) (by decide +kernel)),
  List.forall_mem_cons.mpr ⟨(show SE G 70 16 (.inr (.inl (false, 2, [(7, 45)], 19))) from ⟨c_virt (idx := 74) (n := 1) hK (by decide +kernel) (List.forall_mem_cons.mpr ⟨⟨ko_45, inW 499 (by decide +kernel) (by decide +kernel), inW 501 (by decide +kernel) (by decide +kernel), 6, _, rfl, by decide, rfl, inW 15 (by decide +kernel) (by decide +kernel)⟩, fun _ h => absurd h List.not_mem_nil⟩), (List.forall_mem_cons.mpr ⟨⟨mo_45, by decide⟩, fun _ h => absurd h List.not_mem_nil⟩)⟩),
  List.forall_mem_cons.mpr ⟨(show SE G 70 19 (.inr (.inr 0)) from ⟨(by decide +kernel), rfl⟩),
  fun _ h => absurd h List.not_mem_nil⟩⟩⟩⟩⟩⟩⟩⟩⟩⟩⟩⟩
set_option maxRecDepth 20000 in
theorem ok_l_71_0 (hK : K0 G) : ∀ q ∈ l_71_0, SE G 71 q.1 q.2 :=
  List.forall_mem_cons.mpr ⟨(show SE G 71 0 (.inl (i_al 0 1)) from s_aload_n (j := 0) (by decide +kernel)),
  List.forall_mem_cons.mpr ⟨(show SE G 71 1 (.inl (i_il 1 2)) from s_iload_n (j := 1) (by decide +kernel)),
  List.forall_mem_cons.mpr ⟨(show SE G 71 2 (.inr (.inl (false, 2, [(7, 39)], 5))) from ⟨c_virt (idx := 62) (n := 1) hK (by decide +kernel) (List.forall_mem_cons.mpr ⟨⟨ko_39, inW 555 (by decide +kernel) (by decide +kernel), inW 557 (by decide +kernel) (by decide +kernel), 6, _, rfl, by decide, rfl, inW 27 (by decide +kernel) (by decide +kernel)⟩, fun _ h => absurd h List.not_mem_nil⟩), (List.forall_mem_cons.mpr ⟨⟨mo_39, by decide⟩, fun _ h => absurd h List.not_mem_nil⟩)⟩),
  List.forall_mem_cons.mpr ⟨(show SE G 71 5 (.inl (i_is 2 6)) from s_istore_n (j := 2) (by decide +kernel) (by decide)),
  List.forall_mem_cons.mpr ⟨(show SE G 71 6 (.inl (i_il 2 7)) from s_iload_n (j := 2) (by decide +kernel)),
  List.forall_mem_cons.mpr ⟨(show SE G 71 7 (.inl (i_z 3 12 10)) from s_if_ge (tg := 12) (off := 5) (by decide +kernel) (by decide)),
  List.forall_mem_cons.mpr ⟨(show SE G 71 10 (.inl (i_c (-1) 11)) from s_iconst (e := (-1)) (by decide +kernel) (by decide)),
  List.forall_mem_cons.mpr ⟨(show SE G 71 11 (.inr (.inr 0)) from ⟨(by decide +kernel), rfl⟩),
  List.forall_mem_cons.mpr ⟨(show SE G 71 12 (.inl (i_al 0 13)) from s_aload_n (j := 0) (by decide +kernel)),
  List.forall_mem_cons.mpr ⟨(show SE G 71 13 (.inl (i_get [7] 5 16)) from s_get (idx := 19) (kk := 5) hK (by decide +kernel) (inW 422 (by decide +kernel) (by decide +kernel)) fo_M_sort),
  List.forall_mem_cons.mpr ⟨(show SE G 71 16 (.inl (i_il 2 17)) from s_iload_n (j := 2) (by decide +kernel)),
  List.forall_mem_cons.mpr ⟨(show SE G 71 17 (.inl (i_ld [20, 30] 18)) from s_iald hK (by decide +kernel)),
  List.forall_mem_cons.mpr ⟨(show SE G 71 18 (.inl (i_c 3 19)) from s_iconst (e := 3) (by decide +kernel) (by decide)),
  List.forall_mem_cons.mpr ⟨(show SE G 71 19 (.inl (i_cmp 1 43 22)) from s_icmp_ne (tg := 43) (off := 24) (by decide +kernel) (by decide)),
  List.forall_mem_cons.mpr ⟨(show SE G 71 22 (.inl (i_al 0 23)) from s_aload_n (j := 0) (by decide +kernel)),
  List.forall_mem_cons.mpr ⟨(show SE G 71 23 (.inl (i_get [7] 7 26)) from s_get (idx := 25) (kk := 7) hK (by decide +kernel) (inW 424 (by decide +kernel) (by decide +kernel)) fo_M_is),
  List.forall_mem_cons.mpr ⟨(show SE G 71 26 (.inl (i_c 4 27)) from s_iconst (e := 4) (by decide +kernel) (by decide)),
  List.forall_mem_cons.mpr ⟨(show SE G 71 27 (.inl (i_il 2 28)) from s_iload_n (j := 2) (by decide +kernel)),
  List.forall_mem_cons.mpr ⟨(show SE G 71 28 (.inl (i_bin (fun a b => a * b) 29)) from s_imul (by decide +kernel)),
  List.forall_mem_cons.mpr ⟨(show SE G 71 29 (.inl (i_ld [20, 30] 30)) from s_iald hK (by decide +kernel)),
  List.forall_mem_cons.mpr ⟨(show SE G 71 30 (.inl (i_c 9 32)) from s_bipush (e := 9) (by decide +kernel) (by decide +kernel) (by decide)),
  List.forall_mem_cons.mpr ⟨(show SE G 71 32 (.inl (i_cmp 1 39 35)) from s_icmp_ne (tg := 39) (off := 7) (by decide +kernel) (by decide)),
  List.forall_mem_cons.mpr ⟨(show SE G 71 35 (.inl (i_c 1 36)) from s_iconst (e := 1) (by decide +kernel) (by decide)),
  List.forall_mem_cons.mpr ⟨(show SE G 71 36 (.inl (i_go 49)) from s_goto (tg := 49) (off := 13) (by decide +kernel) (by decide)),
  List.forall_mem_cons.mpr ⟨(show SE G 71 39 (.inl (i_c 0 40)) from s_iconst (e := 0) (by decide +kernel) (by decide)),
  List.forall_mem_cons.mpr ⟨(show SE G 71 40 (.inl (i_go 49)) from s_goto (tg := 49) (off := 9) (by decide +kernel) (by decide)),
  List.forall_mem_cons.mpr ⟨(show SE G 71 43 (.inl (i_al 0 44)) from s_aload_n (j := 0) (by decide +kernel)),
  List.forall_mem_cons.mpr ⟨(show SE G 71 44 (.inl (i_get [7] 6 47)) from s_get (idx := 22) (kk := 6) hK (by decide +kernel) (inW 423 (by decide +kernel) (by decide +kernel)) fo_M_many),
  List.forall_mem_cons.mpr ⟨(show SE G 71 47 (.inl (i_il 2 48)) from s_iload_n (j := 2) (by decide +kernel)),
  List.forall_mem_cons.mpr ⟨(show SE G 71 48 (.inl (i_ld [20, 30] 49)) from s_iald hK (by decide +kernel)),
  fun _ h => absurd h List.not_mem_nil⟩⟩⟩⟩⟩⟩⟩⟩⟩⟩⟩⟩⟩⟩⟩⟩⟩⟩⟩⟩⟩⟩⟩⟩⟩⟩⟩⟩⟩⟩
set_option maxRecDepth 20000 in
theorem ok_l_71_1 (hK : K0 G) : ∀ q ∈ l_71_1, SE G 71 q.1 q.2 :=
  List.forall_mem_cons.mpr ⟨(show SE G 71 49 (.inr (.inr 0)) from ⟨(by decide +kernel), rfl⟩),
  fun _ h => absurd h List.not_mem_nil⟩
theorem ok_l_71 (hK : K0 G) : ∀ q ∈ l_71, SE G 71 q.1 q.2 := by
  show ∀ q ∈ l_71_0 ++ (l_71_1), SE G 71 q.1 q.2
  exact List.forall_mem_append.mpr ⟨ok_l_71_0 hK, ok_l_71_1 hK⟩
set_option maxRecDepth 20000 in
theorem ok_l_72 (hK : K0 G) : ∀ q ∈ l_72, SE G 72 q.1 q.2 :=
  List.forall_mem_cons.mpr ⟨(show SE G 72 0 (.inl (i_al 0 1)) from s_aload_n (j := 0) (by decide +kernel)),
  List.forall_mem_cons.mpr ⟨(show SE G 72 1 (.inl (i_al 0 2)) from s_aload_n (j := 0) (by decide +kernel)),
  List.forall_mem_cons.mpr ⟨(show SE G 72 2 (.inl (i_get [7] 2 5)) from s_get (idx := 50) (kk := 2) hK (by decide +kernel) (inW 419 (by decide +kernel) (by decide +kernel)) fo_M_objects),
  List.forall_mem_cons.mpr ⟨(show SE G 72 5 (.inr (.inl (false, 2, [(7, 45)], 8))) from ⟨c_virt (idx := 74) (n := 1) hK (by decide +kernel) (List.forall_mem_cons.mpr ⟨⟨ko_45, inW 499 (by decide +kernel) (by decide +kernel), inW 501 (by decide +kernel) (by decide +kernel), 6, _, rfl, by decide, rfl, inW 15 (by decide +kernel) (by decide +kernel)⟩, fun _ h => absurd h List.not_mem_nil⟩), (List.forall_mem_cons.mpr ⟨⟨mo_45, by decide⟩, fun _ h => absurd h List.not_mem_nil⟩)⟩),
  List.forall_mem_cons.mpr ⟨(show SE G 72 8 (.inr (.inr 0)) from ⟨(by decide +kernel), rfl⟩),
  fun _ h => absurd h List.not_mem_nil⟩⟩⟩⟩⟩
set_option maxRecDepth 20000 in
theorem ok_l_73 (hK : K0 G) : ∀ q ∈ l_73, SE G 73 q.1 q.2 :=
  List.forall_mem_cons.mpr ⟨(show SE G 73 0 (.inl (i_al 0 1)) from s_aload_n (j := 0) (by decide +kernel)),
  List.forall_mem_cons.mpr ⟨(show SE G 73 1 (.inl (i_get [7] 14 4)) from s_get (idx := 98) (kk := 14) hK (by decide +kernel) (inW 431 (by decide +kernel) (by decide +kernel)) fo_M_waits),
  List.forall_mem_cons.mpr ⟨(show SE G 73 4 (.inr (.inr 0)) from ⟨(by decide +kernel), rfl⟩),
  fun _ h => absurd h List.not_mem_nil⟩⟩⟩
set_option maxRecDepth 20000 in
theorem ok_l_74 (hK : K0 G) : ∀ q ∈ l_74, SE G 74 q.1 q.2 :=
  List.forall_mem_cons.mpr ⟨(show SE G 74 0 (.inl (i_al 0 1)) from s_aload_n (j := 0) (by decide +kernel)),
  List.forall_mem_cons.mpr ⟨(show SE G 74 1 (.inl (i_get [7] 17 4)) from s_get (idx := 114) (kk := 17) hK (by decide +kernel) (inW 434 (by decide +kernel) (by decide +kernel)) fo_M_runs),
  List.forall_mem_cons.mpr ⟨(show SE G 74 4 (.inr (.inr 0)) from ⟨(by decide +kernel), rfl⟩),
  fun _ h => absurd h List.not_mem_nil⟩⟩⟩
set_option maxRecDepth 20000 in
theorem ok_l_75 (hK : K0 G) : ∀ q ∈ l_75, SE G 75 q.1 q.2 :=
  List.forall_mem_cons.mpr ⟨(show SE G 75 0 (.inl (i_al 0 1)) from s_aload_n (j := 0) (by decide +kernel)),
  List.forall_mem_cons.mpr ⟨(show SE G 75 1 (.inr (.inl (false, 1, [(2, 93), (3, 93), (4, 93), (5, 93)], 4))) from ⟨c_initN (idx := 3) (n := 0) (k1 := 93) (host := "ResurrectingHeap") (ts := [2, 3, 4, 5]) (by decide +kernel) ko_93 (inW 101 (by decide +kernel) (by decide +kernel)) (inW 102 (by decide +kernel) (by decide +kernel)) rfl rfl, (List.forall_mem_cons.mpr ⟨⟨mo_93, by decide⟩, List.forall_mem_cons.mpr ⟨⟨mo_93, by decide⟩, List.forall_mem_cons.mpr ⟨⟨mo_93, by decide⟩, List.forall_mem_cons.mpr ⟨⟨mo_93, by decide⟩, fun _ h => absurd h List.not_mem_nil⟩⟩⟩⟩)⟩),
  List.forall_mem_cons.mpr ⟨(show SE G 75 4 (.inl (i_al 0 5)) from s_aload_n (j := 0) (by decide +kernel)),
  List.forall_mem_cons.mpr ⟨(show SE G 75 5 (.inl (i_il 1 6)) from s_iload_n (j := 1) (by decide +kernel)),
  List.forall_mem_cons.mpr ⟨(show SE G 75 6 (.inl (i_put [2] 0 0 9)) from s_put (idx := 9) (kk := 0) (ty := 0) hK (by decide +kernel) (inW 105 (by decide +kernel) (by decide +kernel)) fo_N_amount po_75_N_amount),
  List.forall_mem_cons.mpr ⟨(show SE G 75 9 (.inr (.inr 3)) from ⟨(by decide +kernel), rfl⟩),
  fun _ h => absurd h List.not_mem_nil⟩⟩⟩⟩⟩⟩
set_option maxRecDepth 20000 in
theorem ok_l_76 (hK : K0 G) : ∀ q ∈ l_76, SE G 76 q.1 q.2 :=
  List.forall_mem_cons.mpr ⟨(show SE G 76 0 (.inl (i_c 1 1)) from s_iconst (e := 1) (by decide +kernel) (by decide)),
  List.forall_mem_cons.mpr ⟨(show SE G 76 1 (.inr (.inr 0)) from ⟨(by decide +kernel), rfl⟩),
  fun _ h => absurd h List.not_mem_nil⟩⟩
set_option maxRecDepth 20000 in
theorem ok_l_77 (hK : K0 G) : ∀ q ∈ l_77, SE G 77 q.1 q.2 :=
  List.forall_mem_cons.mpr ⟨(show SE G 77 0 (.inl (i_al 0 1)) from s_aload_n (j := 0) (by decide +kernel)),
  List.forall_mem_cons.mpr ⟨(show SE G 77 1 (.inl (i_obj 4)) from s_obj (idx := 1) (by decide +kernel) (inW 55 (by decide +kernel) (by decide +kernel)) (inW 46 (by decide +kernel) (by decide +kernel)) (inW 47 (by decide +kernel) (by decide +kernel))),
  List.forall_mem_cons.mpr ⟨(show SE G 77 4 (.inl (i_al 0 5)) from s_aload_n (j := 0) (by decide +kernel)),
  List.forall_mem_cons.mpr ⟨(show SE G 77 5 (.inl (i_il 1 6)) from s_iload_n (j := 1) (by decide +kernel)),
  List.forall_mem_cons.mpr ⟨(show SE G 77 6 (.inl (i_newa 22 (.inr none) 9)) from s_anew (idx := 7) (j := 2) (E := "ResurrectingHeap$Thing") hK (by decide +kernel) (inW 56 (by decide +kernel) (by decide +kernel)) (by decide +kernel) (by decide) rfl),
  List.forall_mem_cons.mpr ⟨(show SE G 77 9 (.inl (i_put [6] 0 2 12)) from s_put (idx := 9) (kk := 0) (ty := 2) hK (by decide +kernel) (inW 58 (by decide +kernel) (by decide +kernel)) fo_R_things po_77_R_things),
  List.forall_mem_cons.mpr ⟨(show SE G 77 12 (.inr (.inr 3)) from ⟨(by decide +kernel), rfl⟩),
  fun _ h => absurd h List.not_mem_nil⟩⟩⟩⟩⟩⟩⟩
set_option maxRecDepth 20000 in
theorem ok_l_78 (hK : K0 G) : ∀ q ∈ l_78, SE G 78 q.1 q.2 :=
  List.forall_mem_cons.mpr ⟨(show SE G 78 0 (.inl (i_al 0 1)) from s_aload_n (j := 0) (by decide +kernel)),
  List.forall_mem_cons.mpr ⟨(show SE G 78 1 (.inl (i_get [6] 1 4)) from s_get (idx := 15) (kk := 1) hK (by decide +kernel) (inW 59 (by decide +kernel) (by decide +kernel)) fo_R_count),
  List.forall_mem_cons.mpr ⟨(show SE G 78 4 (.inr (.inr 0)) from ⟨(by decide +kernel), rfl⟩),
  fun _ h => absurd h List.not_mem_nil⟩⟩⟩
set_option maxRecDepth 20000 in
theorem ok_l_79 (hK : K0 G) : ∀ q ∈ l_79, SE G 79 q.1 q.2 :=
  List.forall_mem_cons.mpr ⟨(show SE G 79 0 (.inl (i_il 1 1)) from s_iload_n (j := 1) (by decide +kernel)),
  List.forall_mem_cons.mpr ⟨(show SE G 79 1 (.inl (i_z 2 21 4)) from s_if_lt (tg := 21) (off := 20) (by decide +kernel) (by decide)),
  List.forall_mem_cons.mpr ⟨(show SE G 79 4 (.inl (i_il 1 5)) from s_iload_n (j := 1) (by decide +kernel)),
  List.forall_mem_cons.mpr ⟨(show SE G 79 5 (.inl (i_al 0 6)) from s_aload_n (j := 0) (by decide +kernel)),
  List.forall_mem_cons.mpr ⟨(show SE G 79 6 (.inl (i_get [6] 1 9)) from s_get (idx := 15) (kk := 1) hK (by decide +kernel) (inW 59 (by decide +kernel) (by decide +kernel)) fo_R_count),
  List.forall_mem_cons.mpr ⟨(show SE G 79 9 (.inl (i_cmp 3 21 12)) from s_icmp_ge (tg := 21) (off := 12) (by decide +kernel) (by decide)),
  List.forall_mem_cons.mpr ⟨(show SE G 79 12 (.inl (i_al 0 13)) from s_aload_n (j := 0) (by decide +kernel)),
  List.forall_mem_cons.mpr ⟨(show SE G 79 13 (.inl (i_get [6] 0 16)) from s_get (idx := 9) (kk := 0) hK (by decide +kernel) (inW 58 (by decide +kernel) (by decide +kernel)) fo_R_things),
  List.forall_mem_cons.mpr ⟨(show SE G 79 16 (.inl (i_il 1 17)) from s_iload_n (j := 1) (by decide +kernel)),
  List.forall_mem_cons.mpr ⟨(show SE G 79 17 (.inl (i_ld [22, 23] 18)) from s_aald hK (by decide +kernel)),
  List.forall_mem_cons.mpr ⟨(show SE G 79 18 (.inl (i_go 22)) from s_goto (tg := 22) (off := 4) (by decide +kernel) (by decide)),
  List.forall_mem_cons.mpr ⟨(show SE G 79 21 (.inl (i_n 22)) from s_null (by decide +kernel)),
  List.forall_mem_cons.mpr ⟨(show SE G 79 22 (.inr (.inr 2)) from ⟨(by decide +kernel), _, rfl⟩),
  fun _ h => absurd h List.not_mem_nil⟩⟩⟩⟩⟩⟩⟩⟩⟩⟩⟩⟩⟩
set_option maxRecDepth 20000 in
theorem ok_l_80 (hK : K0 G) : ∀ q ∈ l_80, SE G 80 q.1 q.2 :=
  List.forall_mem_cons.mpr ⟨(show SE G 80 0 (.inl (i_al 0 1)) from s_aload_n (j := 0) (by decide +kernel)),
  List.forall_mem_cons.mpr ⟨(show SE G 80 1 (.inl (i_get [6] 1 4)) from s_get (idx := 15) (kk := 1) hK (by decide +kernel) (inW 59 (by decide +kernel) (by decide +kernel)) fo_R_count),
  List.forall_mem_cons.mpr ⟨(show SE G 80 4 (.inl (i_al 0 5)) from s_aload_n (j := 0) (by decide +kernel)),
  List.forall_mem_cons.mpr ⟨(show SE G 80 5 (.inl (i_get [6] 0 8)) from s_get (idx := 9) (kk := 0) hK (by decide +kernel) (inW 58 (by decide +kernel) (by decide +kernel)) fo_R_things),
  List.forall_mem_cons.mpr ⟨(show SE G 80 8 (.inl (i_len 9)) from s_len hK (by decide +kernel)),
  List.forall_mem_cons.mpr ⟨(show SE G 80 9 (.inl (i_cmp 3 32 12)) from s_icmp_ge (tg := 32) (off := 23) (by decide +kernel) (by decide)),
  List.forall_mem_cons.mpr ⟨(show SE G 80 12 (.inl (i_al 0 13)) from s_aload_n (j := 0) (by decide +kernel)),
  List.forall_mem_cons.mpr ⟨(show SE G 80 13 (.inl (i_get [6] 0 16)) from s_get (idx := 9) (kk := 0) hK (by decide +kernel) (inW 58 (by decide +kernel) (by decide +kernel)) fo_R_things),
  List.forall_mem_cons.mpr ⟨(show SE G 80 16 (.inl (i_al 0 17)) from s_aload_n (j := 0) (by decide +kernel)),
  List.forall_mem_cons.mpr ⟨(show SE G 80 17 (.inl (i_get [6] 1 20)) from s_get (idx := 15) (kk := 1) hK (by decide +kernel) (inW 59 (by decide +kernel) (by decide +kernel)) fo_R_count),
  List.forall_mem_cons.mpr ⟨(show SE G 80 20 (.inl (i_al 1 21)) from s_aload_n (j := 1) (by decide +kernel)),
  List.forall_mem_cons.mpr ⟨(show SE G 80 21 (.inl (i_ast [(22, [3, 4, 5]), (23, [2, 3, 4, 5])] 22)) from s_aast hK (by decide +kernel) yo_G yo_U),
  List.forall_mem_cons.mpr ⟨(show SE G 80 22 (.inl (i_al 0 23)) from s_aload_n (j := 0) (by decide +kernel)),
  List.forall_mem_cons.mpr ⟨(show SE G 80 23 (.inl (i_dup 24)) from s_dup (by decide +kernel)),
  List.forall_mem_cons.mpr ⟨(show SE G 80 24 (.inl (i_get [6] 1 27)) from s_get (idx := 15) (kk := 1) hK (by decide +kernel) (inW 59 (by decide +kernel) (by decide +kernel)) fo_R_count),
  List.forall_mem_cons.mpr ⟨(show SE G 80 27 (.inl (i_c 1 28)) from s_iconst (e := 1) (by decide +kernel) (by decide)),
  List.forall_mem_cons.mpr ⟨(show SE G 80 28 (.inl (i_bin (fun a b => a + b) 29)) from s_iadd (by decide +kernel)),
  List.forall_mem_cons.mpr ⟨(show SE G 80 29 (.inl (i_put [6] 1 0 32)) from s_put (idx := 15) (kk := 1) (ty := 0) hK (by decide +kernel) (inW 59 (by decide +kernel) (by decide +kernel)) fo_R_count po_80_R_count),
  List.forall_mem_cons.mpr ⟨(show SE G 80 32 (.inr (.inr 3)) from ⟨(by decide +kernel), rfl⟩),
  fun _ h => absurd h List.not_mem_nil⟩⟩⟩⟩⟩⟩⟩⟩⟩⟩⟩⟩⟩⟩⟩⟩⟩⟩⟩
set_option maxRecDepth 20000 in
theorem ok_l_81_0 (hK : K0 G) : ∀ q ∈ l_81_0, SE G 81 q.1 q.2 :=
  List.forall_mem_cons.mpr ⟨(show SE G 81 0 (.inl (i_al 0 1)) from s_aload_n (j := 0) (by decide +kernel)),
  List.forall_mem_cons.mpr ⟨(show SE G 81 1 (.inl (i_get [6] 1 4)) from s_get (idx := 15) (kk := 1) hK (by decide +kernel) (inW 59 (by decide +kernel) (by decide +kernel)) fo_R_count),
  List.forall_mem_cons.mpr ⟨(show SE G 81 4 (.inl (i_z 1 9 7)) from s_if_ne (tg := 9) (off := 5) (by decide +kernel) (by decide)),
  List.forall_mem_cons.mpr ⟨(show SE G 81 7 (.inl (i_n 8)) from s_null (by decide +kernel)),
  List.forall_mem_cons.mpr ⟨(show SE G 81 8 (.inr (.inr 2)) from ⟨(by decide +kernel), _, rfl⟩),
  List.forall_mem_cons.mpr ⟨(show SE G 81 9 (.inl (i_al 0 10)) from s_aload_n (j := 0) (by decide +kernel)),
  List.forall_mem_cons.mpr ⟨(show SE G 81 10 (.inl (i_get [6] 0 13)) from s_get (idx := 9) (kk := 0) hK (by decide +kernel) (inW 58 (by decide +kernel) (by decide +kernel)) fo_R_things),
  List.forall_mem_cons.mpr ⟨(show SE G 81 13 (.inl (i_c 0 14)) from s_iconst (e := 0) (by decide +kernel) (by decide)),
  List.forall_mem_cons.mpr ⟨(show SE G 81 14 (.inl (i_ld [22, 23] 15)) from s_aald hK (by decide +kernel)),
  List.forall_mem_cons.mpr ⟨(show SE G 81 15 (.inl (i_as 1 16)) from s_astore_n (j := 1) (by decide +kernel) (by decide)),
  List.forall_mem_cons.mpr ⟨(show SE G 81 16 (.inl (i_c 1 17)) from s_iconst (e := 1) (by decide +kernel) (by decide)),
  List.forall_mem_cons.mpr ⟨(show SE G 81 17 (.inl (i_is 2 18)) from s_istore_n (j := 2) (by decide +kernel) (by decide)),
  List.forall_mem_cons.mpr ⟨(show SE G 81 18 (.inl (i_il 2 19)) from s_iload_n (j := 2) (by decide +kernel)),
  List.forall_mem_cons.mpr ⟨(show SE G 81 19 (.inl (i_al 0 20)) from s_aload_n (j := 0) (by decide +kernel)),
  List.forall_mem_cons.mpr ⟨(show SE G 81 20 (.inl (i_get [6] 1 23)) from s_get (idx := 15) (kk := 1) hK (by decide +kernel) (inW 59 (by decide +kernel) (by decide +kernel)) fo_R_count),
  List.forall_mem_cons.mpr ⟨(show SE G 81 23 (.inl (i_cmp 3 46 26)) from s_icmp_ge (tg := 46) (off := 23) (by decide +kernel) (by decide)),
  List.forall_mem_cons.mpr ⟨(show SE G 81 26 (.inl (i_al 0 27)) from s_aload_n (j := 0) (by decide +kernel)),
  List.forall_mem_cons.mpr ⟨(show SE G 81 27 (.inl (i_get [6] 0 30)) from s_get (idx := 9) (kk := 0) hK (by decide +kernel) (inW 58 (by decide +kernel) (by decide +kernel)) fo_R_things),
  List.forall_mem_cons.mpr ⟨(show SE G 81 30 (.inl (i_il 2 31)) from s_iload_n (j := 2) (by decide +kernel)),
  List.forall_mem_cons.mpr ⟨(show SE G 81 31 (.inl (i_c 1 32)) from s_iconst (e := 1) (by decide +kernel) (by decide)),
  List.forall_mem_cons.mpr ⟨(show SE G 81 32 (.inl (i_bin (fun a b => a - b) 33)) from s_isub (by decide +kernel)),
  List.forall_mem_cons.mpr ⟨(show SE G 81 33 (.inl (i_al 0 34)) from s_aload_n (j := 0) (by decide +kernel)),
  List.forall_mem_cons.mpr ⟨(show SE G 81 34 (.inl (i_get [6] 0 37)) from s_get (idx := 9) (kk := 0) hK (by decide +kernel) (inW 58 (by decide +kernel) (by decide +kernel)) fo_R_things),
  List.forall_mem_cons.mpr ⟨(show SE G 81 37 (.inl (i_il 2 38)) from s_iload_n (j := 2) (by decide +kernel)),
  List.forall_mem_cons.mpr ⟨(show SE G 81 38 (.inl (i_ld [22, 23] 39)) from s_aald hK (by decide +kernel)),
  List.forall_mem_cons.mpr ⟨(show SE G 81 39 (.inl (i_ast [(22, [3, 4, 5]), (23, [2, 3, 4, 5])] 40)) from s_aast hK (by decide +kernel) yo_G yo_U),
  List.forall_mem_cons.mpr ⟨(show SE G 81 40 (.inl (i_ii 2 1 43)) from s_iinc (j := 2) (n := 1) (by decide +kernel) (by decide)),
  List.forall_mem_cons.mpr ⟨(show SE G 81 43 (.inl (i_go 18)) from s_goto (tg := 18) (off := -25) (by decide +kernel) (by decide)),
  List.forall_mem_cons.mpr ⟨(show SE G 81 46 (.inl (i_al 0 47)) from s_aload_n (j := 0) (by decide +kernel)),
  List.forall_mem_cons.mpr ⟨(show SE G 81 47 (.inl (i_dup 48)) from s_dup (by decide +kernel)),
  fun _ h => absurd h List.not_mem_nil⟩⟩⟩⟩⟩⟩⟩⟩⟩⟩⟩⟩⟩⟩⟩⟩⟩⟩⟩⟩⟩⟩⟩⟩⟩⟩⟩⟩⟩⟩
set_option maxRecDepth 20000 in
theorem ok_l_81_1 (hK : K0 G) : ∀ q ∈ l_81_1, SE G 81 q.1 q.2 :=
  List.forall_mem_cons.mpr ⟨(show SE G 81 48 (.inl (i_get [6] 1 51)) from s_get (idx := 15) (kk := 1) hK (by decide +kernel) (inW 59 (by decide +kernel) (by decide +kernel)) fo_R_count),
  List.forall_mem_cons.mpr ⟨(show SE G 81 51 (.inl (i_c 1 52)) from s_iconst (e := 1) (by decide +kernel) (by decide)),
  List.forall_mem_cons.mpr ⟨(show SE G 81 52 (.inl (i_bin (fun a b => a - b) 53)) from s_isub (by decide +kernel)),
  List.forall_mem_cons.mpr ⟨(show SE G 81 53 (.inl (i_put [6] 1 0 56)) from s_put (idx := 15) (kk := 1) (ty := 0) hK (by decide +kernel) (inW 59 (by decide +kernel) (by decide +kernel)) fo_R_count po_81_R_count),
  List.forall_mem_cons.mpr ⟨(show SE G 81 56 (.inl (i_al 1 57)) from s_aload_n (j := 1) (by decide +kernel)),
  List.forall_mem_cons.mpr ⟨(show SE G 81 57 (.inr (.inr 2)) from ⟨(by decide +kernel), _, rfl⟩),
  fun _ h => absurd h List.not_mem_nil⟩⟩⟩⟩⟩⟩
theorem ok_l_81 (hK : K0 G) : ∀ q ∈ l_81, SE G 81 q.1 q.2 := by
  show ∀ q ∈ l_81_0 ++ (l_81_1), SE G 81 q.1 q.2
  exact List.forall_mem_append.mpr ⟨ok_l_81_0 hK, ok_l_81_1 hK⟩
set_option maxRecDepth 20000 in
theorem ok_l_82 (hK : K0 G) : ∀ q ∈ l_82, SE G 82 q.1 q.2 :=
  List.forall_mem_cons.mpr ⟨(show SE G 82 0 (.inl (i_c 0 1)) from s_iconst (e := 0) (by decide +kernel) (by decide)),
  List.forall_mem_cons.mpr ⟨(show SE G 82 1 (.inl (i_is 1 2)) from s_istore_n (j := 1) (by decide +kernel) (by decide)),
  List.forall_mem_cons.mpr ⟨(show SE G 82 2 (.inl (i_il 1 3)) from s_iload_n (j := 1) (by decide +kernel)),
  List.forall_mem_cons.mpr ⟨(show SE G 82 3 (.inl (i_al 0 4)) from s_aload_n (j := 0) (by decide +kernel)),
  List.forall_mem_cons.mpr ⟨(show SE G 82 4 (.inl (i_get [6] 1 7)) from s_get (idx := 15) (kk := 1) hK (by decide +kernel) (inW 59 (by decide +kernel) (by decide +kernel)) fo_R_count),
  List.forall_mem_cons.mpr ⟨(show SE G 82 7 (.inl (i_cmp 3 26 10)) from s_icmp_ge (tg := 26) (off := 19) (by decide +kernel) (by decide)),
  List.forall_mem_cons.mpr ⟨(show SE G 82 10 (.inl (i_al 0 11)) from s_aload_n (j := 0) (by decide +kernel)),
  List.forall_mem_cons.mpr ⟨(show SE G 82 11 (.inl (i_get [6] 0 14)) from s_get (idx := 9) (kk := 0) hK (by decide +kernel) (inW 58 (by decide +kernel) (by decide +kernel)) fo_R_things),
  List.forall_mem_cons.mpr ⟨(show SE G 82 14 (.inl (i_il 1 15)) from s_iload_n (j := 1) (by decide +kernel)),
  List.forall_mem_cons.mpr ⟨(show SE G 82 15 (.inl (i_ld [22, 23] 16)) from s_aald hK (by decide +kernel)),
  List.forall_mem_cons.mpr ⟨(show SE G 82 16 (.inr (.inl (true, 1, [(0, 35)], 19))) from ⟨c_staticN (idx := 19) (n := 1) (k1 := 35) (host := "ResurrectingHeap") (by decide +kernel) ko_35 (inW 154 (by decide +kernel) (by decide +kernel)) (inW 147 (by decide +kernel) (by decide +kernel)), (List.forall_mem_cons.mpr ⟨⟨mo_35, by decide⟩, fun _ h => absurd h List.not_mem_nil⟩)⟩),
  List.forall_mem_cons.mpr ⟨(show SE G 82 19 (.inl (i_pop 20)) from s_pop (by decide +kernel)),
  List.forall_mem_cons.mpr ⟨(show SE G 82 20 (.inl (i_ii 1 1 23)) from s_iinc (j := 1) (n := 1) (by decide +kernel) (by decide)),
  List.forall_mem_cons.mpr ⟨(show SE G 82 23 (.inl (i_go 2)) from s_goto (tg := 2) (off := -21) (by decide +kernel) (by decide)),
  List.forall_mem_cons.mpr ⟨(show SE G 82 26 (.inr (.inr 3)) from ⟨(by decide +kernel), rfl⟩),
  fun _ h => absurd h List.not_mem_nil⟩⟩⟩⟩⟩⟩⟩⟩⟩⟩⟩⟩⟩⟩⟩
set_option maxRecDepth 20000 in
theorem ok_l_83_0 (hK : K0 G) : ∀ q ∈ l_83_0, SE G 83 q.1 q.2 :=
  List.forall_mem_cons.mpr ⟨(show SE G 83 0 (.inl (i_c 0 1)) from s_iconst (e := 0) (by decide +kernel) (by decide)),
  List.forall_mem_cons.mpr ⟨(show SE G 83 1 (.inl (i_is 1 2)) from s_istore_n (j := 1) (by decide +kernel) (by decide)),
  List.forall_mem_cons.mpr ⟨(show SE G 83 2 (.inl (i_c 0 3)) from s_iconst (e := 0) (by decide +kernel) (by decide)),
  List.forall_mem_cons.mpr ⟨(show SE G 83 3 (.inl (i_is 2 4)) from s_istore_n (j := 2) (by decide +kernel) (by decide)),
  List.forall_mem_cons.mpr ⟨(show SE G 83 4 (.inl (i_il 2 5)) from s_iload_n (j := 2) (by decide +kernel)),
  List.forall_mem_cons.mpr ⟨(show SE G 83 5 (.inl (i_al 0 6)) from s_aload_n (j := 0) (by decide +kernel)),
  List.forall_mem_cons.mpr ⟨(show SE G 83 6 (.inl (i_get [6] 1 9)) from s_get (idx := 15) (kk := 1) hK (by decide +kernel) (inW 59 (by decide +kernel) (by decide +kernel)) fo_R_count),
  List.forall_mem_cons.mpr ⟨(show SE G 83 9 (.inl (i_cmp 3 46 12)) from s_icmp_ge (tg := 46) (off := 37) (by decide +kernel) (by decide)),
  List.forall_mem_cons.mpr ⟨(show SE G 83 12 (.inl (i_al 0 13)) from s_aload_n (j := 0) (by decide +kernel)),
  List.forall_mem_cons.mpr ⟨(show SE G 83 13 (.inl (i_get [6] 0 16)) from s_get (idx := 9) (kk := 0) hK (by decide +kernel) (inW 58 (by decide +kernel) (by decide +kernel)) fo_R_things),
  List.forall_mem_cons.mpr ⟨(show SE G 83 16 (.inl (i_il 2 17)) from s_iload_n (j := 2) (by decide +kernel)),
  List.forall_mem_cons.mpr ⟨(show SE G 83 17 (.inl (i_ld [22, 23] 18)) from s_aald hK (by decide +kernel)),
  List.forall_mem_cons.mpr ⟨(show SE G 83 18 (.inl (i_as 3 19)) from s_astore_n (j := 3) (by decide +kernel) (by decide)),
  List.forall_mem_cons.mpr ⟨(show SE G 83 19 (.inl (i_al 3 20)) from s_aload_n (j := 3) (by decide +kernel)),
  List.forall_mem_cons.mpr ⟨(show SE G 83 20 (.inl (i_nul 40 23)) from s_ifnull (tg := 40) (off := 20) (by decide +kernel) (by decide)),
  List.forall_mem_cons.mpr ⟨(show SE G 83 23 (.inl (i_al 3 24)) from s_aload_n (j := 3) (by decide +kernel)),
  List.forall_mem_cons.mpr ⟨(show SE G 83 24 (.inl (i_get [3, 4, 5] 3 27)) from s_get (idx := 25) (kk := 3) hK (by decide +kernel) (inW 228 (by decide +kernel) (by decide +kernel)) fo_G_marked),
  List.forall_mem_cons.mpr ⟨(show SE G 83 27 (.inl (i_z 0 40 30)) from s_if_eq (tg := 40) (off := 13) (by decide +kernel) (by decide)),
  List.forall_mem_cons.mpr ⟨(show SE G 83 30 (.inl (i_al 0 31)) from s_aload_n (j := 0) (by decide +kernel)),
  List.forall_mem_cons.mpr ⟨(show SE G 83 31 (.inl (i_get [6] 0 34)) from s_get (idx := 9) (kk := 0) hK (by decide +kernel) (inW 58 (by decide +kernel) (by decide +kernel)) fo_R_things),
  List.forall_mem_cons.mpr ⟨(show SE G 83 34 (.inl (i_il 1 35)) from s_iload_n (j := 1) (by decide +kernel)),
  List.forall_mem_cons.mpr ⟨(show SE G 83 35 (.inl (i_al 3 36)) from s_aload_n (j := 3) (by decide +kernel)),
  List.forall_mem_cons.mpr ⟨(show SE G 83 36 (.inl (i_ast [(22, [3, 4, 5]), (23, [2, 3, 4, 5])] 37)) from s_aast hK (by decide +kernel) yo_G yo_U),
  List.forall_mem_cons.mpr ⟨(show SE G 83 37 (.inl (i_ii 1 1 40)) from s_iinc (j := 1) (n := 1) (by decide +kernel) (by decide)),
  List.forall_mem_cons.mpr ⟨(show SE G 83 40 (.inl (i_ii 2 1 43)) from s_iinc (j := 2) (n := 1) (by decide +kernel) (by decide)),
  List.forall_mem_cons.mpr ⟨(show SE G 83 43 (.inl (i_go 4)) from s_goto (tg := 4) (off := -39) (by decide +kernel) (by decide)),
  List.forall_mem_cons.mpr ⟨(show SE G 83 46 (.inl (i_al 0 47)) from s_aload_n (j := 0) (by decide +kernel)),
  List.forall_mem_cons.mpr ⟨(show SE G 83 47 (.inl (i_get [6] 1 50)) from s_get (idx := 15) (kk := 1) hK (by decide +kernel) (inW 59 (by decide +kernel) (by decide +kernel)) fo_R_count),
  List.forall_mem_cons.mpr ⟨(show SE G 83 50 (.inl (i_il 1 51)) from s_iload_n (j := 1) (by decide +kernel)),
  List.forall_mem_cons.mpr ⟨(show SE G 83 51 (.inl (i_bin (fun a b => a - b) 52)) from s_isub (by decide +kernel)),
  fun _ h => absurd h List.not_mem_nil⟩⟩⟩⟩⟩⟩⟩⟩⟩⟩⟩⟩⟩⟩⟩⟩⟩⟩⟩⟩⟩⟩⟩⟩⟩⟩⟩⟩⟩⟩
set_option maxRecDepth 20000 in
theorem ok_l_83_1 (hK : K0 G) : ∀ q ∈ l_83_1, SE G 83 q.1 q.2 :=
  List.forall_mem_cons.mpr ⟨(show SE G 83 52 (.inl (i_is 2 53)) from s_istore_n (j := 2) (by decide +kernel) (by decide)),
  List.forall_mem_cons.mpr ⟨(show SE G 83 53 (.inl (i_al 0 54)) from s_aload_n (j := 0) (by decide +kernel)),
  List.forall_mem_cons.mpr ⟨(show SE G 83 54 (.inl (i_il 1 55)) from s_iload_n (j := 1) (by decide +kernel)),
  List.forall_mem_cons.mpr ⟨(show SE G 83 55 (.inl (i_put [6] 1 0 58)) from s_put (idx := 15) (kk := 1) (ty := 0) hK (by decide +kernel) (inW 59 (by decide +kernel) (by decide +kernel)) fo_R_count po_83_R_count),
  List.forall_mem_cons.mpr ⟨(show SE G 83 58 (.inl (i_il 2 59)) from s_iload_n (j := 2) (by decide +kernel)),
  List.forall_mem_cons.mpr ⟨(show SE G 83 59 (.inr (.inr 0)) from ⟨(by decide +kernel), rfl⟩),
  fun _ h => absurd h List.not_mem_nil⟩⟩⟩⟩⟩⟩
theorem ok_l_83 (hK : K0 G) : ∀ q ∈ l_83, SE G 83 q.1 q.2 := by
  show ∀ q ∈ l_83_0 ++ (l_83_1), SE G 83 q.1 q.2
  exact List.forall_mem_append.mpr ⟨ok_l_83_0 hK, ok_l_83_1 hK⟩
set_option maxRecDepth 20000 in
theorem ok_l_84 (hK : K0 G) : ∀ q ∈ l_84, SE G 84 q.1 q.2 :=
  List.forall_mem_cons.mpr ⟨(show SE G 84 0 (.inl (i_al 0 1)) from s_aload_n (j := 0) (by decide +kernel)),
  List.forall_mem_cons.mpr ⟨(show SE G 84 1 (.inl (i_il 1 2)) from s_iload_n (j := 1) (by decide +kernel)),
  List.forall_mem_cons.mpr ⟨(show SE G 84 2 (.inl (i_c 8 4)) from s_bipush (e := 8) (by decide +kernel) (by decide +kernel) (by decide)),
  List.forall_mem_cons.mpr ⟨(show SE G 84 4 (.inr (.inl (false, 3, [(3, 92), (4, 92), (5, 92)], 7))) from ⟨c_init (idx := 3) (n := 2) (k1 := 92) (ts := [3, 4, 5]) (by decide +kernel) ko_92 (inW 285 (by decide +kernel) (by decide +kernel)) (inW 215 (by decide +kernel) (by decide +kernel)) rfl rfl, (List.forall_mem_cons.mpr ⟨⟨mo_92, by decide⟩, List.forall_mem_cons.mpr ⟨⟨mo_92, by decide⟩, List.forall_mem_cons.mpr ⟨⟨mo_92, by decide⟩, fun _ h => absurd h List.not_mem_nil⟩⟩⟩)⟩),
  List.forall_mem_cons.mpr ⟨(show SE G 84 7 (.inl (i_al 0 8)) from s_aload_n (j := 0) (by decide +kernel)),
  List.forall_mem_cons.mpr ⟨(show SE G 84 8 (.inl (i_c 3 9)) from s_iconst (e := 3) (by decide +kernel) (by decide)),
  List.forall_mem_cons.mpr ⟨(show SE G 84 9 (.inl (i_newa 22 (.inr none) 12)) from s_anew (idx := 4) (j := 2) (E := "ResurrectingHeap$Thing") hK (by decide +kernel) (inW 286 (by decide +kernel) (by decide +kernel)) (by decide +kernel) (by decide) rfl),
  List.forall_mem_cons.mpr ⟨(show SE G 84 12 (.inl (i_put [5] 6 2 15)) from s_put (idx := 9) (kk := 6) (ty := 2) hK (by decide +kernel) (inW 288 (by decide +kernel) (by decide +kernel)) fo_T_keys po_84_T_keys),
  List.forall_mem_cons.mpr ⟨(show SE G 84 15 (.inl (i_al 0 16)) from s_aload_n (j := 0) (by decide +kernel)),
  List.forall_mem_cons.mpr ⟨(show SE G 84 16 (.inl (i_c 3 17)) from s_iconst (e := 3) (by decide +kernel) (by decide)),
  List.forall_mem_cons.mpr ⟨(show SE G 84 17 (.inl (i_newa 23 (.inr none) 20)) from s_anew (idx := 15) (j := 3) (E := "ResurrectingHeap$Value") hK (by decide +kernel) (inW 287 (by decide +kernel) (by decide +kernel)) (by decide +kernel) (by decide) rfl),
  List.forall_mem_cons.mpr ⟨(show SE G 84 20 (.inl (i_put [5] 7 2 23)) from s_put (idx := 17) (kk := 7) (ty := 2) hK (by decide +kernel) (inW 289 (by decide +kernel) (by decide +kernel)) fo_T_values po_84_T_values),
  List.forall_mem_cons.mpr ⟨(show SE G 84 23 (.inr (.inr 3)) from ⟨(by decide +kernel), rfl⟩),
  fun _ h => absurd h List.not_mem_nil⟩⟩⟩⟩⟩⟩⟩⟩⟩⟩⟩⟩⟩
set_option maxRecDepth 20000 in
theorem ok_l_85_0 (hK : K0 G) : ∀ q ∈ l_85_0, SE G 85 q.1 q.2 :=
  List.forall_mem_cons.mpr ⟨(show SE G 85 0 (.inl (i_al 0 1)) from s_aload_n (j := 0) (by decide +kernel)),
  List.forall_mem_cons.mpr ⟨(show SE G 85 1 (.inl (i_al 1 2)) from s_aload_n (j := 1) (by decide +kernel)),
  List.forall_mem_cons.mpr ⟨(show SE G 85 2 (.inr (.inl (false, 2, [(5, 87)], 5))) from ⟨c_virt (idx := 21) (n := 1) hK (by decide +kernel) (List.forall_mem_cons.mpr ⟨⟨ko_87, inW 324 (by decide +kernel) (by decide +kernel), inW 326 (by decide +kernel) (by decide +kernel), 4, _, rfl, by decide, rfl, inW 12 (by decide +kernel) (by decide +kernel)⟩, fun _ h => absurd h List.not_mem_nil⟩), (List.forall_mem_cons.mpr ⟨⟨mo_87, by decide⟩, fun _ h => absurd h List.not_mem_nil⟩)⟩),
  List.forall_mem_cons.mpr ⟨(show SE G 85 5 (.inl (i_is 3 6)) from s_istore_n (j := 3) (by decide +kernel) (by decide)),
  List.forall_mem_cons.mpr ⟨(show SE G 85 6 (.inl (i_il 3 7)) from s_iload_n (j := 3) (by decide +kernel)),
  List.forall_mem_cons.mpr ⟨(show SE G 85 7 (.inl (i_c 3 8)) from s_iconst (e := 3) (by decide +kernel) (by decide)),
  List.forall_mem_cons.mpr ⟨(show SE G 85 8 (.inl (i_cmp 2 13 11)) from s_icmp_lt (tg := 13) (off := 5) (by decide +kernel) (by decide)),
  List.forall_mem_cons.mpr ⟨(show SE G 85 11 (.inl (i_c 0 12)) from s_iconst (e := 0) (by decide +kernel) (by decide)),
  List.forall_mem_cons.mpr ⟨(show SE G 85 12 (.inr (.inr 1)) from ⟨(by decide +kernel), rfl⟩),
  List.forall_mem_cons.mpr ⟨(show SE G 85 13 (.inl (i_il 3 14)) from s_iload_n (j := 3) (by decide +kernel)),
  List.forall_mem_cons.mpr ⟨(show SE G 85 14 (.inl (i_al 0 15)) from s_aload_n (j := 0) (by decide +kernel)),
  List.forall_mem_cons.mpr ⟨(show SE G 85 15 (.inl (i_get [5] 8 18)) from s_get (idx := 25) (kk := 8) hK (by decide +kernel) (inW 290 (by decide +kernel) (by decide +kernel)) fo_T_entryCount),
  List.forall_mem_cons.mpr ⟨(show SE G 85 18 (.inl (i_cmp 1 38 21)) from s_icmp_ne (tg := 38) (off := 20) (by decide +kernel) (by decide)),
  List.forall_mem_cons.mpr ⟨(show SE G 85 21 (.inl (i_al 0 22)) from s_aload_n (j := 0) (by decide +kernel)),
  List.forall_mem_cons.mpr ⟨(show SE G 85 22 (.inl (i_get [5] 6 25)) from s_get (idx := 9) (kk := 6) hK (by decide +kernel) (inW 288 (by decide +kernel) (by decide +kernel)) fo_T_keys),
  List.forall_mem_cons.mpr ⟨(show SE G 85 25 (.inl (i_il 3 26)) from s_iload_n (j := 3) (by decide +kernel)),
  List.forall_mem_cons.mpr ⟨(show SE G 85 26 (.inl (i_al 1 27)) from s_aload_n (j := 1) (by decide +kernel)),
  List.forall_mem_cons.mpr ⟨(show SE G 85 27 (.inl (i_ast [(22, [3, 4, 5]), (23, [2, 3, 4, 5])] 28)) from s_aast hK (by decide +kernel) yo_G yo_U),
  List.forall_mem_cons.mpr ⟨(show SE G 85 28 (.inl (i_al 0 29)) from s_aload_n (j := 0) (by decide +kernel)),
  List.forall_mem_cons.mpr ⟨(show SE G 85 29 (.inl (i_dup 30)) from s_dup (by decide +kernel)),
  List.forall_mem_cons.mpr ⟨(show SE G 85 30 (.inl (i_get [5] 8 33)) from s_get (idx := 25) (kk := 8) hK (by decide +kernel) (inW 290 (by decide +kernel) (by decide +kernel)) fo_T_entryCount),
  List.forall_mem_cons.mpr ⟨(show SE G 85 33 (.inl (i_c 1 34)) from s_iconst (e := 1) (by decide +kernel) (by decide)),
  List.forall_mem_cons.mpr ⟨(show SE G 85 34 (.inl (i_bin (fun a b => a + b) 35)) from s_iadd (by decide +kernel)),
  List.forall_mem_cons.mpr ⟨(show SE G 85 35 (.inl (i_put [5] 8 0 38)) from s_put (idx := 25) (kk := 8) (ty := 0) hK (by decide +kernel) (inW 290 (by decide +kernel) (by decide +kernel)) fo_T_entryCount po_85_T_entryCount),
  List.forall_mem_cons.mpr ⟨(show SE G 85 38 (.inl (i_al 0 39)) from s_aload_n (j := 0) (by decide +kernel)),
  List.forall_mem_cons.mpr ⟨(show SE G 85 39 (.inl (i_get [5] 7 42)) from s_get (idx := 17) (kk := 7) hK (by decide +kernel) (inW 289 (by decide +kernel) (by decide +kernel)) fo_T_values),
  List.forall_mem_cons.mpr ⟨(show SE G 85 42 (.inl (i_il 3 43)) from s_iload_n (j := 3) (by decide +kernel)),
  List.forall_mem_cons.mpr ⟨(show SE G 85 43 (.inl (i_al 2 44)) from s_aload_n (j := 2) (by decide +kernel)),
  List.forall_mem_cons.mpr ⟨(show SE G 85 44 (.inl (i_ast [(22, [3, 4, 5]), (23, [2, 3, 4, 5])] 45)) from s_aast hK (by decide +kernel) yo_G yo_U),
  List.forall_mem_cons.mpr ⟨(show SE G 85 45 (.inl (i_c 1 46)) from s_iconst (e := 1) (by decide +kernel) (by decide)),
  fun _ h => absurd h List.not_mem_nil⟩⟩⟩⟩⟩⟩⟩⟩⟩⟩⟩⟩⟩⟩⟩⟩⟩⟩⟩⟩⟩⟩⟩⟩⟩⟩⟩⟩⟩⟩
set_option maxRecDepth 20000 in
theorem ok_l_85_1 (hK : K0 G) : ∀ q ∈ l_85_1, SE G 85 q.1 q.2 :=
  List.forall_mem_cons.mpr ⟨(show SE G 85 46 (.inr (.inr 1)) from ⟨(by decide +kernel), rfl⟩),
  fun _ h => absurd h List.not_mem_nil⟩
theorem ok_l_85 (hK : K0 G) : ∀ q ∈ l_85, SE G 85 q.1 q.2 := by
  show ∀ q ∈ l_85_0 ++ (l_85_1), SE G 85 q.1 q.2
  exact List.forall_mem_append.mpr ⟨ok_l_85_0 hK, ok_l_85_1 hK⟩
set_option maxRecDepth 20000 in
theorem ok_l_86 (hK : K0 G) : ∀ q ∈ l_86, SE G 86 q.1 q.2 :=
  List.forall_mem_cons.mpr ⟨(show SE G 86 0 (.inl (i_al 0 1)) from s_aload_n (j := 0) (by decide +kernel)),
  List.forall_mem_cons.mpr ⟨(show SE G 86 1 (.inl (i_al 1 2)) from s_aload_n (j := 1) (by decide +kernel)),
  List.forall_mem_cons.mpr ⟨(show SE G 86 2 (.inr (.inl (false, 2, [(5, 87)], 5))) from ⟨c_virt (idx := 21) (n := 1) hK (by decide +kernel) (List.forall_mem_cons.mpr ⟨⟨ko_87, inW 324 (by decide +kernel) (by decide +kernel), inW 326 (by decide +kernel) (by decide +kernel), 4, _, rfl, by decide, rfl, inW 12 (by decide +kernel) (by decide +kernel)⟩, fun _ h => absurd h List.not_mem_nil⟩), (List.forall_mem_cons.mpr ⟨⟨mo_87, by decide⟩, fun _ h => absurd h List.not_mem_nil⟩)⟩),
  List.forall_mem_cons.mpr ⟨(show SE G 86 5 (.inl (i_is 2 6)) from s_istore_n (j := 2) (by decide +kernel) (by decide)),
  List.forall_mem_cons.mpr ⟨(show SE G 86 6 (.inl (i_il 2 7)) from s_iload_n (j := 2) (by decide +kernel)),
  List.forall_mem_cons.mpr ⟨(show SE G 86 7 (.inl (i_al 0 8)) from s_aload_n (j := 0) (by decide +kernel)),
  List.forall_mem_cons.mpr ⟨(show SE G 86 8 (.inl (i_get [5] 8 11)) from s_get (idx := 25) (kk := 8) hK (by decide +kernel) (inW 290 (by decide +kernel) (by decide +kernel)) fo_T_entryCount),
  List.forall_mem_cons.mpr ⟨(show SE G 86 11 (.inl (i_cmp 3 23 14)) from s_icmp_ge (tg := 23) (off := 12) (by decide +kernel) (by decide)),
  List.forall_mem_cons.mpr ⟨(show SE G 86 14 (.inl (i_al 0 15)) from s_aload_n (j := 0) (by decide +kernel)),
  List.forall_mem_cons.mpr ⟨(show SE G 86 15 (.inl (i_get [5] 7 18)) from s_get (idx := 17) (kk := 7) hK (by decide +kernel) (inW 289 (by decide +kernel) (by decide +kernel)) fo_T_values),
  List.forall_mem_cons.mpr ⟨(show SE G 86 18 (.inl (i_il 2 19)) from s_iload_n (j := 2) (by decide +kernel)),
  List.forall_mem_cons.mpr ⟨(show SE G 86 19 (.inl (i_ld [22, 23] 20)) from s_aald hK (by decide +kernel)),
  List.forall_mem_cons.mpr ⟨(show SE G 86 20 (.inl (i_go 24)) from s_goto (tg := 24) (off := 4) (by decide +kernel) (by decide)),
  List.forall_mem_cons.mpr ⟨(show SE G 86 23 (.inl (i_n 24)) from s_null (by decide +kernel)),
  List.forall_mem_cons.mpr ⟨(show SE G 86 24 (.inr (.inr 2)) from ⟨(by decide +kernel), _, rfl⟩),
  fun _ h => absurd h List.not_mem_nil⟩⟩⟩⟩⟩⟩⟩⟩⟩⟩⟩⟩⟩⟩⟩
set_option maxRecDepth 20000 in
theorem ok_l_87 (hK : K0 G) : ∀ q ∈ l_87, SE G 87 q.1 q.2 :=
  List.forall_mem_cons.mpr ⟨(show SE G 87 0 (.inl (i_c 0 1)) from s_iconst (e := 0) (by decide +kernel) (by decide)),
  List.forall_mem_cons.mpr ⟨(show SE G 87 1 (.inl (i_is 2 2)) from s_istore_n (j := 2) (by decide +kernel) (by decide)),
  List.forall_mem_cons.mpr ⟨(show SE G 87 2 (.inl (i_il 2 3)) from s_iload_n (j := 2) (by decide +kernel)),
  List.forall_mem_cons.mpr ⟨(show SE G 87 3 (.inl (i_al 0 4)) from s_aload_n (j := 0) (by decide +kernel)),
  List.forall_mem_cons.mpr ⟨(show SE G 87 4 (.inl (i_get [5] 8 7)) from s_get (idx := 25) (kk := 8) hK (by decide +kernel) (inW 290 (by decide +kernel) (by decide +kernel)) fo_T_entryCount),
  List.forall_mem_cons.mpr ⟨(show SE G 87 7 (.inl (i_cmp 3 28 10)) from s_icmp_ge (tg := 28) (off := 21) (by decide +kernel) (by decide)),
  List.forall_mem_cons.mpr ⟨(show SE G 87 10 (.inl (i_al 0 11)) from s_aload_n (j := 0) (by decide +kernel)),
  List.forall_mem_cons.mpr ⟨(show SE G 87 11 (.inl (i_get [5] 6 14)) from s_get (idx := 9) (kk := 6) hK (by decide +kernel) (inW 288 (by decide +kernel) (by decide +kernel)) fo_T_keys),
  List.forall_mem_cons.mpr ⟨(show SE G 87 14 (.inl (i_il 2 15)) from s_iload_n (j := 2) (by decide +kernel)),
  List.forall_mem_cons.mpr ⟨(show SE G 87 15 (.inl (i_ld [22, 23] 16)) from s_aald hK (by decide +kernel)),
  List.forall_mem_cons.mpr ⟨(show SE G 87 16 (.inl (i_al 1 17)) from s_aload_n (j := 1) (by decide +kernel)),
  List.forall_mem_cons.mpr ⟨(show SE G 87 17 (.inl (i_aeq 20 22)) from s_acmp_ne (tg := 22) (off := 5) (by decide +kernel) (by decide)),
  List.forall_mem_cons.mpr ⟨(show SE G 87 20 (.inl (i_il 2 21)) from s_iload_n (j := 2) (by decide +kernel)),
  List.forall_mem_cons.mpr ⟨(show SE G 87 21 (.inr (.inr 0)) from ⟨(by decide +kernel), rfl⟩),
  List.forall_mem_cons.mpr ⟨(show SE G 87 22 (.inl (i_ii 2 1 25)) from s_iinc (j := 2) (n := 1) (by decide +kernel) (by decide)),
  List.forall_mem_cons.mpr ⟨(show SE G 87 25 (.inl (i_go 2)) from s_goto (tg := 2) (off := -23) (by decide +kernel) (by decide)),
  List.forall_mem_cons.mpr ⟨(show SE G 87 28 (.inl (i_al 0 29)) from s_aload_n (j := 0) (by decide +kernel)),
  List.forall_mem_cons.mpr ⟨(show SE G 87 29 (.inl (i_get [5] 8 32)) from s_get (idx := 25) (kk := 8) hK (by decide +kernel) (inW 290 (by decide +kernel) (by decide +kernel)) fo_T_entryCount),
  List.forall_mem_cons.mpr ⟨(show SE G 87 32 (.inr (.inr 0)) from ⟨(by decide +kernel), rfl⟩),
  fun _ h => absurd h List.not_mem_nil⟩⟩⟩⟩⟩⟩⟩⟩⟩⟩⟩⟩⟩⟩⟩⟩⟩⟩⟩
end OK5
