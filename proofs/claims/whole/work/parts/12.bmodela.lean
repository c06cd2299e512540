theorem dX9_in_0 : decode cX9_in 0 = .ok (.lload_n 0, 1) := by decide +kernel
theorem dX9_in_1 : decode cX9_in 1 = .ok (.lload_n 2, 1) := by decide +kernel
theorem dX9_in_2 : decode cX9_in 2 = .ok (.lcmp, 1) := by decide +kernel
theorem dX9_in_3 : decode cX9_in 3 = .ok (.ifCond .lt 14, 3) := by decide +kernel
theorem dX9_in_6 : decode cX9_in 6 = .ok (.lload_n 0, 1) := by decide +kernel
theorem dX9_in_7 : decode cX9_in 7 = .ok (.lload 4, 2) := by decide +kernel
theorem dX9_in_9 : decode cX9_in 9 = .ok (.lcmp, 1) := by decide +kernel
theorem dX9_in_10 : decode cX9_in 10 = .ok (.ifCond .gt 7, 3) := by decide +kernel
theorem dX9_in_13 : decode cX9_in 13 = .ok (.iconst 1, 1) := by decide +kernel
theorem dX9_in_14 : decode cX9_in 14 = .ok (.goto 4, 3) := by decide +kernel
theorem dX9_in_17 : decode cX9_in 17 = .ok (.iconst 0, 1) := by decide +kernel
theorem dX9_in_18 : decode cX9_in 18 = .ok (.ireturn, 1) := by decide +kernel
theorem bX9_in_0 (x0 : Int64) (x2 : Int64) (x4 : Int64) (mem : zm_Mem) (post : zm_Post) (kk : (((lg_cmp x0 x2) < 0 → post 0 0 mem) ∧ (¬ (lg_cmp x0 x2) < 0 → ((0 < (lg_cmp x0 x4) → post 0 0 mem) ∧ (¬ 0 < (lg_cmp x0 x4) → post 1 0 mem))))) : zm_Call gX9_in [.long x0, .long x2, .long x4] mem post := by
  refine z_entry (by decide) (Nat.le_of_ble_eq_true rfl) ?_
  show zm_Z gX9_in post 0 [(0, .long x0), (2, .long x2), (4, .long x4)] [] mem
  refine z_lload_n dX9_in_0 rfl 0 rfl ?_
  refine z_lload_n dX9_in_1 rfl 1 rfl ?_
  refine z_lcmp dX9_in_2 ?_
  refine z_if_lt (tgt := 17) dX9_in_3 (by decide) (fun h1 => ?_) (fun h1 => ?_)
  ·
    refine z_iconst (v := 0) dX9_in_17 zciconst_0 ?_
    exact z_zret rfl (by decide) dX9_in_18 (kk.1 h1)
  ·
    refine z_lload_n dX9_in_6 rfl 0 rfl ?_
    refine z_lload dX9_in_7 2 rfl ?_
    refine z_lcmp dX9_in_9 ?_
    refine z_if_gt (tgt := 17) dX9_in_10 (by decide) (fun h2 => ?_) (fun h2 => ?_)
    ·
      refine z_iconst (v := 0) dX9_in_17 zciconst_0 ?_
      exact z_zret rfl (by decide) dX9_in_18 ((kk.2 h1).1 h2)
    ·
      refine z_iconst (v := 1) dX9_in_13 zciconst_1 ?_
      refine z_goto (tgt := 18) dX9_in_14 (by decide) ?_
      exact z_zret rfl (by decide) dX9_in_18 ((kk.2 h1).2 h2)
theorem dX9_cells_0 : decode cX9_cells 0 = .ok (.aload_n 0, 1) := by decide +kernel
theorem dX9_cells_1 : decode cX9_cells 1 = .ok (.getfield 7, 3) := by decide +kernel
theorem dX9_cells_4 : decode cX9_cells 4 = .ok (.aload_n 0, 1) := by decide +kernel
theorem dX9_cells_5 : decode cX9_cells 5 = .ok (.getfield 13, 3) := by decide +kernel
theorem dX9_cells_8 : decode cX9_cells 8 = .ok (.imul, 1) := by decide +kernel
theorem dX9_cells_9 : decode cX9_cells 9 = .ok (.ireturn, 1) := by decide +kernel
theorem bX9_cells_0 (mem : zm_Mem) (post : zm_Post) (kk : post ((mem 21 1) * (mem 21 2)) 0 mem) : zm_Call gX9_cells [.ref 21] mem post := by
  refine z_entry (by decide) (Nat.le_of_ble_eq_true rfl) ?_
  show zm_Z gX9_cells post 0 [(0, .ref 21)] [] mem
  refine z_aload_n dX9_cells_0 rfl 0 rfl ?_
  refine z_geti (ci := 9) (j := 1) (T := TX9) rfl rfl hX9 rfl (by decide) fkX9_7 dX9_cells_1 ?_
  refine z_aload_n dX9_cells_4 rfl 0 rfl ?_
  refine z_geti (ci := 9) (j := 2) (T := TX9) rfl rfl hX9 rfl (by decide) fkX9_13 dX9_cells_5 ?_
  refine z_imul dX9_cells_8 ?_
  exact z_iret rfl dX9_cells_9 kk
theorem dX9_noCell_0 : decode cX9_noCell 0 = .ok (.iload_n 1, 1) := by decide +kernel
theorem dX9_noCell_1 : decode cX9_noCell 1 = .ok (.i2l, 1) := by decide +kernel
theorem dX9_noCell_2 : decode cX9_noCell 2 = .ok (.lconst 0, 1) := by decide +kernel
theorem dX9_noCell_3 : decode cX9_noCell 3 = .ok (.aload_n 0, 1) := by decide +kernel
theorem dX9_noCell_4 : decode cX9_noCell 4 = .ok (.invokevirtual 72, 3) := by decide +kernel
theorem dX9_noCell_7 : decode cX9_noCell 7 = .ok (.iconst 1, 1) := by decide +kernel
theorem dX9_noCell_8 : decode cX9_noCell 8 = .ok (.isub, 1) := by decide +kernel
theorem dX9_noCell_9 : decode cX9_noCell 9 = .ok (.i2l, 1) := by decide +kernel
theorem dX9_noCell_10 : decode cX9_noCell 10 = .ok (.invokestatic 76, 3) := by decide +kernel
theorem dX9_noCell_13 : decode cX9_noCell 13 = .ok (.ifCond .ne 7, 3) := by decide +kernel
theorem dX9_noCell_16 : decode cX9_noCell 16 = .ok (.iconst 1, 1) := by decide +kernel
theorem dX9_noCell_17 : decode cX9_noCell 17 = .ok (.goto 4, 3) := by decide +kernel
theorem dX9_noCell_20 : decode cX9_noCell 20 = .ok (.iconst 0, 1) := by decide +kernel
theorem dX9_noCell_21 : decode cX9_noCell 21 = .ok (.ireturn, 1) := by decide +kernel
theorem bX9_noCell_0 (x1 : Int32) (mem : zm_Mem) (post : zm_Post) (kk : zm_Call gX9_cells [.ref 21] mem (fun r1 w1 u1 => zm_Call gX9_in [.long (Int32.toInt64 x1), .long 0, .long (Int32.toInt64 (r1 - 1))] u1 (fun r2 w2 u2 => ((¬ r2 = 0 → post 0 0 u2) ∧ (r2 = 0 → post 1 0 u2))))) : zm_Call gX9_noCell [.ref 21, .int x1] mem post := by
  refine z_entry (by decide) (Nat.le_of_ble_eq_true rfl) ?_
  show zm_Z gX9_noCell post 0 [(0, .ref 21), (1, .int x1)] [] mem
  refine z_iload_n dX9_noCell_0 rfl 1 rfl ?_
  refine z_i2l dX9_noCell_1 ?_
  refine z_lconst (v := 0) dX9_noCell_2 zclconst_0 ?_
  refine z_aload_n dX9_noCell_3 rfl 0 rfl ?_
  refine z_callVi (g' := gX9_cells) [] (q := 21) (ci := 9) (T := TX9) rfl rfl ⟨lkX9_72, pdX9_cells, by decide, by decide⟩ ⟨_, rfl, by decide⟩ rfl (Nat.le_of_ble_eq_true rfl) dX9_noCell_4 (zm_Call.mono kk (fun r1 w1 u1 k1 => ?_))
  refine z_iconst (v := 1) dX9_noCell_7 zciconst_1 ?_
  refine z_isub dX9_noCell_8 ?_
  refine z_i2l dX9_noCell_9 ?_
  refine z_callSi (g' := gX9_in) (st := []) [.long (Int32.toInt64 x1), .long 0, .long (Int32.toInt64 (r1 - 1))] ⟨lkX9_76, pdX9_in, by decide, by decide⟩ ⟨_, rfl, by decide⟩ rfl (Nat.le_of_ble_eq_true rfl) dX9_noCell_10 (zm_Call.mono k1 (fun r2 w2 u2 k2 => ?_))
  refine z_if_ne (tgt := 20) dX9_noCell_13 (by decide) (fun h3 => ?_) (fun h3 => ?_)
  ·
    refine z_iconst (v := 0) dX9_noCell_20 zciconst_0 ?_
    exact z_zret rfl (by decide) dX9_noCell_21 (k2.1 h3)
  ·
    refine z_iconst (v := 1) dX9_noCell_16 zciconst_1 ?_
    refine z_goto (tgt := 21) dX9_noCell_17 (by decide) ?_
    exact z_zret rfl (by decide) dX9_noCell_21 (k2.2 h3)
theorem dX9_isTurn_0 : decode cX9_isTurn 0 = .ok (.iload_n 1, 1) := by decide +kernel
theorem dX9_isTurn_1 : decode cX9_isTurn 1 = .ok (.iconst 1, 1) := by decide +kernel
theorem dX9_isTurn_2 : decode cX9_isTurn 2 = .ok (.if_icmp .eq 13, 3) := by decide +kernel
theorem dX9_isTurn_5 : decode cX9_isTurn 5 = .ok (.iload_n 1, 1) := by decide +kernel
theorem dX9_isTurn_6 : decode cX9_isTurn 6 = .ok (.iconst 3, 1) := by decide +kernel
theorem dX9_isTurn_7 : decode cX9_isTurn 7 = .ok (.if_icmp .eq 8, 3) := by decide +kernel
theorem dX9_isTurn_10 : decode cX9_isTurn 10 = .ok (.iload_n 1, 1) := by decide +kernel
theorem dX9_isTurn_11 : decode cX9_isTurn 11 = .ok (.iconst 5, 1) := by decide +kernel
theorem dX9_isTurn_12 : decode cX9_isTurn 12 = .ok (.if_icmp .le 7, 3) := by decide +kernel
theorem dX9_isTurn_15 : decode cX9_isTurn 15 = .ok (.iconst 1, 1) := by decide +kernel
theorem dX9_isTurn_16 : decode cX9_isTurn 16 = .ok (.goto 4, 3) := by decide +kernel
theorem dX9_isTurn_19 : decode cX9_isTurn 19 = .ok (.iconst 0, 1) := by decide +kernel
theorem dX9_isTurn_20 : decode cX9_isTurn 20 = .ok (.istore_n 2, 1) := by decide +kernel
theorem dX9_isTurn_21 : decode cX9_isTurn 21 = .ok (.iload_n 2, 1) := by decide +kernel
theorem dX9_isTurn_22 : decode cX9_isTurn 22 = .ok (.ifCond .eq 14, 3) := by decide +kernel
theorem dX9_isTurn_25 : decode cX9_isTurn 25 = .ok (.aload_n 0, 1) := by decide +kernel
theorem dX9_isTurn_26 : decode cX9_isTurn 26 = .ok (.getfield 7, 3) := by decide +kernel
theorem dX9_isTurn_29 : decode cX9_isTurn 29 = .ok (.aload_n 0, 1) := by decide +kernel
theorem dX9_isTurn_30 : decode cX9_isTurn 30 = .ok (.getfield 13, 3) := by decide +kernel
theorem dX9_isTurn_33 : decode cX9_isTurn 33 = .ok (.if_icmp .ne 7, 3) := by decide +kernel
theorem dX9_isTurn_36 : decode cX9_isTurn 36 = .ok (.iconst 1, 1) := by decide +kernel
theorem dX9_isTurn_37 : decode cX9_isTurn 37 = .ok (.goto 4, 3) := by decide +kernel
theorem dX9_isTurn_40 : decode cX9_isTurn 40 = .ok (.iconst 0, 1) := by decide +kernel
theorem dX9_isTurn_41 : decode cX9_isTurn 41 = .ok (.ireturn, 1) := by decide +kernel
theorem bX9_isTurn_0 (x1 : Int32) (mem : zm_Mem) (post : zm_Post) (kk : ((x1 = 1 → zm_Z gX9_isTurn post 20 [(0, .ref 21)] [.int 1] mem) ∧ (¬ x1 = 1 → ((x1 = 3 → zm_Z gX9_isTurn post 20 [(0, .ref 21)] [.int 1] mem) ∧ (¬ x1 = 3 → ((x1 ≤ 5 → zm_Z gX9_isTurn post 20 [(0, .ref 21)] [.int 0] mem) ∧ (¬ x1 ≤ 5 → zm_Z gX9_isTurn post 20 [(0, .ref 21)] [.int 1] mem))))))) : zm_Call gX9_isTurn [.ref 21, .int x1] mem post := by
  refine z_entry (by decide) (Nat.le_of_ble_eq_true rfl) ?_
  show zm_Z gX9_isTurn post 0 [(0, .ref 21), (1, .int x1)] [] mem
  refine z_iload_n dX9_isTurn_0 rfl 1 rfl ?_
  refine z_iconst (v := 1) dX9_isTurn_1 zciconst_1 ?_
  refine z_icmp_eq (tgt := 15) dX9_isTurn_2 (by decide) (fun h1 => ?_) (fun h1 => ?_)
  ·
    refine z_iconst (v := 1) dX9_isTurn_15 zciconst_1 ?_
    refine z_goto (tgt := 20) dX9_isTurn_16 (by decide) ?_
    refine z_sub [0] rfl ?_
    exact (kk.1 h1)
  ·
    refine z_iload_n dX9_isTurn_5 rfl 1 rfl ?_
    refine z_iconst (v := 3) dX9_isTurn_6 zciconst_3 ?_
    refine z_icmp_eq (tgt := 15) dX9_isTurn_7 (by decide) (fun h2 => ?_) (fun h2 => ?_)
    ·
      refine z_iconst (v := 1) dX9_isTurn_15 zciconst_1 ?_
      refine z_goto (tgt := 20) dX9_isTurn_16 (by decide) ?_
      refine z_sub [0] rfl ?_
      exact ((kk.2 h1).1 h2)
    ·
      refine z_iload_n dX9_isTurn_10 rfl 1 rfl ?_
      refine z_iconst (v := 5) dX9_isTurn_11 zciconst_5 ?_
      refine z_icmp_le (tgt := 19) dX9_isTurn_12 (by decide) (fun h3 => ?_) (fun h3 => ?_)
      ·
        refine z_iconst (v := 0) dX9_isTurn_19 zciconst_0 ?_
        refine z_sub [0] rfl ?_
        exact (((kk.2 h1).2 h2).1 h3)
      ·
        refine z_iconst (v := 1) dX9_isTurn_15 zciconst_1 ?_
        refine z_goto (tgt := 20) dX9_isTurn_16 (by decide) ?_
        refine z_sub [0] rfl ?_
        exact (((kk.2 h1).2 h2).2 h3)
theorem bX9_isTurn_20 (s0 : Int32) (mem : zm_Mem) (post : zm_Post) (kk : ((s0 = 0 → post 1 0 mem) ∧ (¬ s0 = 0 → ((¬ (mem 21 1) = (mem 21 2) → post 0 0 mem) ∧ ((mem 21 1) = (mem 21 2) → post 1 0 mem))))) : zm_Z gX9_isTurn post 20 [(0, .ref 21)] [.int s0] mem := by
  refine z_istore_n (lv' := [(2, .int s0), (0, .ref 21)]) dX9_isTurn_20 rfl (by decide) rfl ?_
  refine z_iload_n dX9_isTurn_21 rfl 0 rfl ?_
  refine z_if_eq (tgt := 36) dX9_isTurn_22 (by decide) (fun h1 => ?_) (fun h1 => ?_)
  ·
    refine z_iconst (v := 1) dX9_isTurn_36 zciconst_1 ?_
    refine z_goto (tgt := 41) dX9_isTurn_37 (by decide) ?_
    exact z_zret rfl (by decide) dX9_isTurn_41 (kk.1 h1)
  ·
    refine z_aload_n dX9_isTurn_25 rfl 1 rfl ?_
    refine z_geti (ci := 9) (j := 1) (T := TX9) rfl rfl hX9 rfl (by decide) fkX9_7 dX9_isTurn_26 ?_
    refine z_aload_n dX9_isTurn_29 rfl 1 rfl ?_
    refine z_geti (ci := 9) (j := 2) (T := TX9) rfl rfl hX9 rfl (by decide) fkX9_13 dX9_isTurn_30 ?_
    refine z_icmp_ne (tgt := 40) dX9_isTurn_33 (by decide) (fun h2 => ?_) (fun h2 => ?_)
    ·
      refine z_iconst (v := 0) dX9_isTurn_40 zciconst_0 ?_
      exact z_zret rfl (by decide) dX9_isTurn_41 ((kk.2 h1).1 h2)
    ·
      refine z_iconst (v := 1) dX9_isTurn_36 zciconst_1 ?_
      refine z_goto (tgt := 41) dX9_isTurn_37 (by decide) ?_
      exact z_zret rfl (by decide) dX9_isTurn_41 ((kk.2 h1).2 h2)
theorem dX9_noMove_0 : decode cX9_noMove 0 = .ok (.iload_n 1, 1) := by decide +kernel
theorem dX9_noMove_1 : decode cX9_noMove 1 = .ok (.i2l, 1) := by decide +kernel
theorem dX9_noMove_2 : decode cX9_noMove 2 = .ok (.lconst 0, 1) := by decide +kernel
theorem dX9_noMove_3 : decode cX9_noMove 3 = .ok (.bipush 8, 2) := by decide +kernel
theorem dX9_noMove_5 : decode cX9_noMove 5 = .ok (.aload_n 0, 1) := by decide +kernel
theorem dX9_noMove_6 : decode cX9_noMove 6 = .ok (.invokevirtual 72, 3) := by decide +kernel
theorem dX9_noMove_9 : decode cX9_noMove 9 = .ok (.imul, 1) := by decide +kernel
theorem dX9_noMove_10 : decode cX9_noMove 10 = .ok (.iconst 1, 1) := by decide +kernel
theorem dX9_noMove_11 : decode cX9_noMove 11 = .ok (.isub, 1) := by decide +kernel
theorem dX9_noMove_12 : decode cX9_noMove 12 = .ok (.i2l, 1) := by decide +kernel
theorem dX9_noMove_13 : decode cX9_noMove 13 = .ok (.invokestatic 76, 3) := by decide +kernel
theorem dX9_noMove_16 : decode cX9_noMove 16 = .ok (.ifCond .eq 16, 3) := by decide +kernel
theorem dX9_noMove_19 : decode cX9_noMove 19 = .ok (.aload_n 0, 1) := by decide +kernel
theorem dX9_noMove_20 : decode cX9_noMove 20 = .ok (.iload_n 1, 1) := by decide +kernel
theorem dX9_noMove_21 : decode cX9_noMove 21 = .ok (.aload_n 0, 1) := by decide +kernel
theorem dX9_noMove_22 : decode cX9_noMove 22 = .ok (.invokevirtual 72, 3) := by decide +kernel
theorem dX9_noMove_25 : decode cX9_noMove 25 = .ok (.idiv, 1) := by decide +kernel
theorem dX9_noMove_26 : decode cX9_noMove 26 = .ok (.invokevirtual 80, 3) := by decide +kernel
theorem dX9_noMove_29 : decode cX9_noMove 29 = .ok (.ifCond .ne 7, 3) := by decide +kernel
theorem dX9_noMove_32 : decode cX9_noMove 32 = .ok (.iconst 1, 1) := by decide +kernel
theorem dX9_noMove_33 : decode cX9_noMove 33 = .ok (.goto 4, 3) := by decide +kernel
theorem dX9_noMove_36 : decode cX9_noMove 36 = .ok (.iconst 0, 1) := by decide +kernel
theorem dX9_noMove_37 : decode cX9_noMove 37 = .ok (.ireturn, 1) := by decide +kernel
theorem bX9_noMove_0 (x1 : Int32) (mem : zm_Mem) (post : zm_Post) (kk : zm_Call gX9_cells [.ref 21] mem (fun r1 w1 u1 => zm_Call gX9_in [.long (Int32.toInt64 x1), .long 0, .long (Int32.toInt64 ((8 * r1) - 1))] u1 (fun r2 w2 u2 => ((r2 = 0 → post 1 0 u2) ∧ (¬ r2 = 0 → zm_Call gX9_cells [.ref 21] u2 (fun r4 w4 u4 => (¬ r4 = 0 ∧ zm_Call gX9_isTurn [.ref 21, .int (x1 / r4)] u4 (fun r5 w5 u5 => ((¬ r5 = 0 → post 0 0 u5) ∧ (r5 = 0 → post 1 0 u5)))))))))) : zm_Call gX9_noMove [.ref 21, .int x1] mem post := by
  refine z_entry (by decide) (Nat.le_of_ble_eq_true rfl) ?_
  show zm_Z gX9_noMove post 0 [(0, .ref 21), (1, .int x1)] [] mem
  refine z_iload_n dX9_noMove_0 rfl 1 rfl ?_
  refine z_i2l dX9_noMove_1 ?_
  refine z_lconst (v := 0) dX9_noMove_2 zclconst_0 ?_
  refine z_bipush (v := 8) dX9_noMove_3 zcbipush_8 ?_
  refine z_aload_n dX9_noMove_5 rfl 0 rfl ?_
  refine z_callVi (g' := gX9_cells) [] (q := 21) (ci := 9) (T := TX9) rfl rfl ⟨lkX9_72, pdX9_cells, by decide, by decide⟩ ⟨_, rfl, by decide⟩ rfl (Nat.le_of_ble_eq_true rfl) dX9_noMove_6 (zm_Call.mono kk (fun r1 w1 u1 k1 => ?_))
  refine z_imul dX9_noMove_9 ?_
  refine z_iconst (v := 1) dX9_noMove_10 zciconst_1 ?_
  refine z_isub dX9_noMove_11 ?_
  refine z_i2l dX9_noMove_12 ?_
  refine z_callSi (g' := gX9_in) (st := []) [.long (Int32.toInt64 x1), .long 0, .long (Int32.toInt64 ((8 * r1) - 1))] ⟨lkX9_76, pdX9_in, by decide, by decide⟩ ⟨_, rfl, by decide⟩ rfl (Nat.le_of_ble_eq_true rfl) dX9_noMove_13 (zm_Call.mono k1 (fun r2 w2 u2 k2 => ?_))
  refine z_if_eq (tgt := 32) dX9_noMove_16 (by decide) (fun h3 => ?_) (fun h3 => ?_)
  ·
    refine z_iconst (v := 1) dX9_noMove_32 zciconst_1 ?_
    refine z_goto (tgt := 37) dX9_noMove_33 (by decide) ?_
    exact z_zret rfl (by decide) dX9_noMove_37 (k2.1 h3)
  ·
    refine z_aload_n dX9_noMove_19 rfl 0 rfl ?_
    refine z_iload_n dX9_noMove_20 rfl 1 rfl ?_
    refine z_aload_n dX9_noMove_21 rfl 0 rfl ?_
    refine z_callVi (g' := gX9_cells) [] (q := 21) (ci := 9) (T := TX9) rfl rfl ⟨lkX9_72, pdX9_cells, by decide, by decide⟩ ⟨_, rfl, by decide⟩ rfl (Nat.le_of_ble_eq_true rfl) dX9_noMove_22 (zm_Call.mono (k2.2 h3) (fun r4 w4 u4 k4 => ?_))
    refine z_idiv dX9_noMove_25 k4.1 ?_
    refine z_callVi (g' := gX9_isTurn) [.int (x1 / r4)] (q := 21) (ci := 9) (T := TX9) rfl rfl ⟨lkX9_80, pdX9_isTurn, by decide, by decide⟩ ⟨_, rfl, by decide⟩ rfl (Nat.le_of_ble_eq_true rfl) dX9_noMove_26 (zm_Call.mono k4.2 (fun r5 w5 u5 k5 => ?_))
    refine z_if_ne (tgt := 36) dX9_noMove_29 (by decide) (fun h6 => ?_) (fun h6 => ?_)
    ·
      refine z_iconst (v := 0) dX9_noMove_36 zciconst_0 ?_
      exact z_zret rfl (by decide) dX9_noMove_37 (k5.1 h6)
    ·
      refine z_iconst (v := 1) dX9_noMove_32 zciconst_1 ?_
      refine z_goto (tgt := 37) dX9_noMove_33 (by decide) ?_
      exact z_zret rfl (by decide) dX9_noMove_37 (k5.2 h6)
theorem dX9_rest_0 : decode cX9_rest 0 = .ok (.iload_n 0, 1) := by decide +kernel
theorem dX9_rest_1 : decode cX9_rest 1 = .ok (.iload_n 1, 1) := by decide +kernel
theorem dX9_rest_2 : decode cX9_rest 2 = .ok (.irem, 1) := by decide +kernel
theorem dX9_rest_3 : decode cX9_rest 3 = .ok (.istore_n 2, 1) := by decide +kernel
theorem dX9_rest_4 : decode cX9_rest 4 = .ok (.iload_n 2, 1) := by decide +kernel
theorem dX9_rest_5 : decode cX9_rest 5 = .ok (.ifCond .ge 9, 3) := by decide +kernel
theorem dX9_rest_8 : decode cX9_rest 8 = .ok (.iload_n 2, 1) := by decide +kernel
theorem dX9_rest_9 : decode cX9_rest 9 = .ok (.iload_n 1, 1) := by decide +kernel
theorem dX9_rest_10 : decode cX9_rest 10 = .ok (.iadd, 1) := by decide +kernel
theorem dX9_rest_11 : decode cX9_rest 11 = .ok (.goto 4, 3) := by decide +kernel
theorem dX9_rest_14 : decode cX9_rest 14 = .ok (.iload_n 2, 1) := by decide +kernel
theorem dX9_rest_15 : decode cX9_rest 15 = .ok (.ireturn, 1) := by decide +kernel
theorem bX9_rest_0 (x0 : Int32) (x1 : Int32) (mem : zm_Mem) (post : zm_Post) (kk : (¬ x1 = 0 ∧ ((0 ≤ (x0 - x0 / x1 * x1) → post (x0 - x0 / x1 * x1) 0 mem) ∧ (¬ 0 ≤ (x0 - x0 / x1 * x1) → post ((x0 - x0 / x1 * x1) + x1) 0 mem)))) : zm_Call gX9_rest [.int x0, .int x1] mem post := by
  refine z_entry (by decide) (Nat.le_of_ble_eq_true rfl) ?_
  show zm_Z gX9_rest post 0 [(0, .int x0), (1, .int x1)] [] mem
  refine z_iload_n dX9_rest_0 rfl 0 rfl ?_
  refine z_iload_n dX9_rest_1 rfl 1 rfl ?_
  refine z_irem dX9_rest_2 kk.1 ?_
  refine z_istore_n (lv' := [(2, .int (x0 - x0 / x1 * x1)), (0, .int x0), (1, .int x1)]) dX9_rest_3 rfl (by decide) rfl ?_
  refine z_iload_n dX9_rest_4 rfl 0 rfl ?_
  refine z_if_ge (tgt := 14) dX9_rest_5 (by decide) (fun h1 => ?_) (fun h1 => ?_)
  ·
    refine z_iload_n dX9_rest_14 rfl 0 rfl ?_
    exact z_iret rfl dX9_rest_15 (kk.2.1 h1)
  ·
    refine z_iload_n dX9_rest_8 rfl 0 rfl ?_
    refine z_iload_n dX9_rest_9 rfl 2 rfl ?_
    refine z_iadd dX9_rest_10 ?_
    refine z_goto (tgt := 15) dX9_rest_11 (by decide) ?_
    exact z_iret rfl dX9_rest_15 (kk.2.2 h1)
theorem dX9_turnedX_0 : decode cX9_turnedX 0 = .ok (.iload_n 0, 1) := by decide +kernel
theorem dX9_turnedX_1 : decode cX9_turnedX 1 = .ok (.tableswitch 51 1 7 #[43, 46, 49, 46, 51, 49, 43], 43) := by decide +kernel
theorem dX9_turnedX_44 : decode cX9_turnedX 44 = .ok (.iload_n 2, 1) := by decide +kernel
theorem dX9_turnedX_45 : decode cX9_turnedX 45 = .ok (.ineg, 1) := by decide +kernel
theorem dX9_turnedX_46 : decode cX9_turnedX 46 = .ok (.ireturn, 1) := by decide +kernel
theorem dX9_turnedX_47 : decode cX9_turnedX 47 = .ok (.iload_n 1, 1) := by decide +kernel
theorem dX9_turnedX_48 : decode cX9_turnedX 48 = .ok (.ineg, 1) := by decide +kernel
theorem dX9_turnedX_49 : decode cX9_turnedX 49 = .ok (.ireturn, 1) := by decide +kernel
theorem dX9_turnedX_50 : decode cX9_turnedX 50 = .ok (.iload_n 2, 1) := by decide +kernel
theorem dX9_turnedX_51 : decode cX9_turnedX 51 = .ok (.ireturn, 1) := by decide +kernel
theorem dX9_turnedX_52 : decode cX9_turnedX 52 = .ok (.iload_n 1, 1) := by decide +kernel
theorem dX9_turnedX_53 : decode cX9_turnedX 53 = .ok (.ireturn, 1) := by decide +kernel
theorem bX9_turnedX_0 (x0 : Int32) (x1 : Int32) (x2 : Int32) (mem : zm_Mem) (post : zm_Post) (kk : (((x0 : Int32).toInt < 1 ∨ 7 < (x0 : Int32).toInt → post x1 0 mem) ∧ ((x0 : Int32).toInt = 1 → post (-x2) 0 mem) ∧ ((x0 : Int32).toInt = 2 → post (-x1) 0 mem) ∧ ((x0 : Int32).toInt = 3 → post x2 0 mem) ∧ ((x0 : Int32).toInt = 4 → post (-x1) 0 mem) ∧ ((x0 : Int32).toInt = 5 → post x1 0 mem) ∧ ((x0 : Int32).toInt = 6 → post x2 0 mem) ∧ ((x0 : Int32).toInt = 7 → post (-x2) 0 mem))) : zm_Call gX9_turnedX [.int x0, .int x1, .int x2] mem post := by
  refine z_entry (by decide) (Nat.le_of_ble_eq_true rfl) ?_
  show zm_Z gX9_turnedX post 0 [(0, .int x0), (1, .int x1), (2, .int x2)] [] mem
  refine z_iload_n dX9_turnedX_0 rfl 0 rfl ?_
  by_cases h1 : (x0 : Int32).toInt < 1 ∨ 7 < (x0 : Int32).toInt
  ·
    refine z_tableOut (tgt := 52) dX9_turnedX_1 h1 (by decide) ?_
    refine z_iload_n dX9_turnedX_52 rfl 1 rfl ?_
    exact z_iret rfl dX9_turnedX_53 (kk.1 h1)
  by_cases h2 : (x0 : Int32).toInt = 1
  ·
    refine z_tableIn (off := 43) (tgt := 44) dX9_turnedX_1 (by omega) (by omega) (by rw [h2]; rfl) (by decide) ?_
    refine z_iload_n dX9_turnedX_44 rfl 2 rfl ?_
    refine z_ineg dX9_turnedX_45 ?_
    exact z_iret rfl dX9_turnedX_46 (kk.2.1 h2)
  by_cases h3 : (x0 : Int32).toInt = 2
  ·
    refine z_tableIn (off := 46) (tgt := 47) dX9_turnedX_1 (by omega) (by omega) (by rw [h3]; rfl) (by decide) ?_
    refine z_iload_n dX9_turnedX_47 rfl 1 rfl ?_
    refine z_ineg dX9_turnedX_48 ?_
    exact z_iret rfl dX9_turnedX_49 (kk.2.2.1 h3)
  by_cases h4 : (x0 : Int32).toInt = 3
  ·
    refine z_tableIn (off := 49) (tgt := 50) dX9_turnedX_1 (by omega) (by omega) (by rw [h4]; rfl) (by decide) ?_
    refine z_iload_n dX9_turnedX_50 rfl 2 rfl ?_
    exact z_iret rfl dX9_turnedX_51 (kk.2.2.2.1 h4)
  by_cases h5 : (x0 : Int32).toInt = 4
  ·
    refine z_tableIn (off := 46) (tgt := 47) dX9_turnedX_1 (by omega) (by omega) (by rw [h5]; rfl) (by decide) ?_
    refine z_iload_n dX9_turnedX_47 rfl 1 rfl ?_
    refine z_ineg dX9_turnedX_48 ?_
    exact z_iret rfl dX9_turnedX_49 (kk.2.2.2.2.1 h5)
  by_cases h6 : (x0 : Int32).toInt = 5
  ·
    refine z_tableIn (off := 51) (tgt := 52) dX9_turnedX_1 (by omega) (by omega) (by rw [h6]; rfl) (by decide) ?_
    refine z_iload_n dX9_turnedX_52 rfl 1 rfl ?_
    exact z_iret rfl dX9_turnedX_53 (kk.2.2.2.2.2.1 h6)
  by_cases h7 : (x0 : Int32).toInt = 6
  ·
    refine z_tableIn (off := 49) (tgt := 50) dX9_turnedX_1 (by omega) (by omega) (by rw [h7]; rfl) (by decide) ?_
    refine z_iload_n dX9_turnedX_50 rfl 2 rfl ?_
    exact z_iret rfl dX9_turnedX_51 (kk.2.2.2.2.2.2.1 h7)
  have h8 : (x0 : Int32).toInt = 7 := by omega
  refine z_tableIn (off := 43) (tgt := 44) dX9_turnedX_1 (by omega) (by omega) (by rw [h8]; rfl) (by decide) ?_
  refine z_iload_n dX9_turnedX_44 rfl 2 rfl ?_
  refine z_ineg dX9_turnedX_45 ?_
  exact z_iret rfl dX9_turnedX_46 (kk.2.2.2.2.2.2.2 h8)
theorem dX9_turnedY_0 : decode cX9_turnedY 0 = .ok (.iload_n 0, 1) := by decide +kernel
theorem dX9_turnedY_1 : decode cX9_turnedY 1 = .ok (.tableswitch 51 1 7 #[43, 45, 48, 51, 45, 43, 48], 43) := by decide +kernel
theorem dX9_turnedY_44 : decode cX9_turnedY 44 = .ok (.iload_n 1, 1) := by decide +kernel
theorem dX9_turnedY_45 : decode cX9_turnedY 45 = .ok (.ireturn, 1) := by decide +kernel
theorem dX9_turnedY_46 : decode cX9_turnedY 46 = .ok (.iload_n 2, 1) := by decide +kernel
theorem dX9_turnedY_47 : decode cX9_turnedY 47 = .ok (.ineg, 1) := by decide +kernel
theorem dX9_turnedY_48 : decode cX9_turnedY 48 = .ok (.ireturn, 1) := by decide +kernel
theorem dX9_turnedY_49 : decode cX9_turnedY 49 = .ok (.iload_n 1, 1) := by decide +kernel
theorem dX9_turnedY_50 : decode cX9_turnedY 50 = .ok (.ineg, 1) := by decide +kernel
theorem dX9_turnedY_51 : decode cX9_turnedY 51 = .ok (.ireturn, 1) := by decide +kernel
theorem dX9_turnedY_52 : decode cX9_turnedY 52 = .ok (.iload_n 2, 1) := by decide +kernel
theorem dX9_turnedY_53 : decode cX9_turnedY 53 = .ok (.ireturn, 1) := by decide +kernel
theorem bX9_turnedY_0 (x0 : Int32) (x1 : Int32) (x2 : Int32) (mem : zm_Mem) (post : zm_Post) (kk : (((x0 : Int32).toInt < 1 ∨ 7 < (x0 : Int32).toInt → post x2 0 mem) ∧ ((x0 : Int32).toInt = 1 → post x1 0 mem) ∧ ((x0 : Int32).toInt = 2 → post (-x2) 0 mem) ∧ ((x0 : Int32).toInt = 3 → post (-x1) 0 mem) ∧ ((x0 : Int32).toInt = 4 → post x2 0 mem) ∧ ((x0 : Int32).toInt = 5 → post (-x2) 0 mem) ∧ ((x0 : Int32).toInt = 6 → post x1 0 mem) ∧ ((x0 : Int32).toInt = 7 → post (-x1) 0 mem))) : zm_Call gX9_turnedY [.int x0, .int x1, .int x2] mem post := by
  refine z_entry (by decide) (Nat.le_of_ble_eq_true rfl) ?_
  show zm_Z gX9_turnedY post 0 [(0, .int x0), (1, .int x1), (2, .int x2)] [] mem
  refine z_iload_n dX9_turnedY_0 rfl 0 rfl ?_
  by_cases h1 : (x0 : Int32).toInt < 1 ∨ 7 < (x0 : Int32).toInt
  ·
    refine z_tableOut (tgt := 52) dX9_turnedY_1 h1 (by decide) ?_
    refine z_iload_n dX9_turnedY_52 rfl 2 rfl ?_
    exact z_iret rfl dX9_turnedY_53 (kk.1 h1)
  by_cases h2 : (x0 : Int32).toInt = 1
  ·
    refine z_tableIn (off := 43) (tgt := 44) dX9_turnedY_1 (by omega) (by omega) (by rw [h2]; rfl) (by decide) ?_
    refine z_iload_n dX9_turnedY_44 rfl 1 rfl ?_
    exact z_iret rfl dX9_turnedY_45 (kk.2.1 h2)
  by_cases h3 : (x0 : Int32).toInt = 2
  ·
    refine z_tableIn (off := 45) (tgt := 46) dX9_turnedY_1 (by omega) (by omega) (by rw [h3]; rfl) (by decide) ?_
    refine z_iload_n dX9_turnedY_46 rfl 2 rfl ?_
    refine z_ineg dX9_turnedY_47 ?_
    exact z_iret rfl dX9_turnedY_48 (kk.2.2.1 h3)
  by_cases h4 : (x0 : Int32).toInt = 3
  ·
    refine z_tableIn (off := 48) (tgt := 49) dX9_turnedY_1 (by omega) (by omega) (by rw [h4]; rfl) (by decide) ?_
    refine z_iload_n dX9_turnedY_49 rfl 1 rfl ?_
    refine z_ineg dX9_turnedY_50 ?_
    exact z_iret rfl dX9_turnedY_51 (kk.2.2.2.1 h4)
  by_cases h5 : (x0 : Int32).toInt = 4
  ·
    refine z_tableIn (off := 51) (tgt := 52) dX9_turnedY_1 (by omega) (by omega) (by rw [h5]; rfl) (by decide) ?_
    refine z_iload_n dX9_turnedY_52 rfl 2 rfl ?_
    exact z_iret rfl dX9_turnedY_53 (kk.2.2.2.2.1 h5)
  by_cases h6 : (x0 : Int32).toInt = 5
  ·
    refine z_tableIn (off := 45) (tgt := 46) dX9_turnedY_1 (by omega) (by omega) (by rw [h6]; rfl) (by decide) ?_
    refine z_iload_n dX9_turnedY_46 rfl 2 rfl ?_
    refine z_ineg dX9_turnedY_47 ?_
    exact z_iret rfl dX9_turnedY_48 (kk.2.2.2.2.2.1 h6)
  by_cases h7 : (x0 : Int32).toInt = 6
  ·
    refine z_tableIn (off := 43) (tgt := 44) dX9_turnedY_1 (by omega) (by omega) (by rw [h7]; rfl) (by decide) ?_
    refine z_iload_n dX9_turnedY_44 rfl 1 rfl ?_
    exact z_iret rfl dX9_turnedY_45 (kk.2.2.2.2.2.2.1 h7)
  have h8 : (x0 : Int32).toInt = 7 := by omega
  refine z_tableIn (off := 48) (tgt := 49) dX9_turnedY_1 (by omega) (by omega) (by rw [h8]; rfl) (by decide) ?_
  refine z_iload_n dX9_turnedY_49 rfl 1 rfl ?_
  refine z_ineg dX9_turnedY_50 ?_
  exact z_iret rfl dX9_turnedY_51 (kk.2.2.2.2.2.2.2 h8)
theorem dX9_ledTo_0 : decode cX9_ledTo 0 = .ok (.iload_n 1, 1) := by decide +kernel
theorem dX9_ledTo_1 : decode cX9_ledTo 1 = .ok (.aload_n 0, 1) := by decide +kernel
theorem dX9_ledTo_2 : decode cX9_ledTo 2 = .ok (.invokevirtual 72, 3) := by decide +kernel
theorem dX9_ledTo_5 : decode cX9_ledTo 5 = .ok (.idiv, 1) := by decide +kernel
theorem dX9_ledTo_6 : decode cX9_ledTo 6 = .ok (.istore_n 3, 1) := by decide +kernel
theorem dX9_ledTo_7 : decode cX9_ledTo 7 = .ok (.iload_n 1, 1) := by decide +kernel
theorem dX9_ledTo_8 : decode cX9_ledTo 8 = .ok (.aload_n 0, 1) := by decide +kernel
theorem dX9_ledTo_9 : decode cX9_ledTo 9 = .ok (.invokevirtual 72, 3) := by decide +kernel
theorem dX9_ledTo_12 : decode cX9_ledTo 12 = .ok (.irem, 1) := by decide +kernel
theorem dX9_ledTo_13 : decode cX9_ledTo 13 = .ok (.istore 4, 2) := by decide +kernel
theorem dX9_ledTo_15 : decode cX9_ledTo 15 = .ok (.iload_n 3, 1) := by decide +kernel
theorem dX9_ledTo_16 : decode cX9_ledTo 16 = .ok (.iload_n 2, 1) := by decide +kernel
theorem dX9_ledTo_17 : decode cX9_ledTo 17 = .ok (.aload_n 0, 1) := by decide +kernel
theorem dX9_ledTo_18 : decode cX9_ledTo 18 = .ok (.getfield 7, 3) := by decide +kernel
theorem dX9_ledTo_21 : decode cX9_ledTo 21 = .ok (.irem, 1) := by decide +kernel
theorem dX9_ledTo_22 : decode cX9_ledTo 22 = .ok (.iload_n 2, 1) := by decide +kernel
theorem dX9_ledTo_23 : decode cX9_ledTo 23 = .ok (.aload_n 0, 1) := by decide +kernel
theorem dX9_ledTo_24 : decode cX9_ledTo 24 = .ok (.getfield 7, 3) := by decide +kernel
theorem dX9_ledTo_27 : decode cX9_ledTo 27 = .ok (.idiv, 1) := by decide +kernel
theorem dX9_ledTo_28 : decode cX9_ledTo 28 = .ok (.invokestatic 84, 3) := by decide +kernel
theorem dX9_ledTo_31 : decode cX9_ledTo 31 = .ok (.iload 4, 2) := by decide +kernel
theorem dX9_ledTo_33 : decode cX9_ledTo 33 = .ok (.aload_n 0, 1) := by decide +kernel
theorem dX9_ledTo_34 : decode cX9_ledTo 34 = .ok (.getfield 7, 3) := by decide +kernel
theorem dX9_ledTo_37 : decode cX9_ledTo 37 = .ok (.irem, 1) := by decide +kernel
theorem dX9_ledTo_38 : decode cX9_ledTo 38 = .ok (.iadd, 1) := by decide +kernel
theorem dX9_ledTo_39 : decode cX9_ledTo 39 = .ok (.aload_n 0, 1) := by decide +kernel
theorem dX9_ledTo_40 : decode cX9_ledTo 40 = .ok (.getfield 7, 3) := by decide +kernel
theorem dX9_ledTo_43 : decode cX9_ledTo 43 = .ok (.invokestatic 88, 3) := by decide +kernel
theorem dX9_ledTo_46 : decode cX9_ledTo 46 = .ok (.istore 5, 2) := by decide +kernel
theorem dX9_ledTo_48 : decode cX9_ledTo 48 = .ok (.iload_n 3, 1) := by decide +kernel
theorem dX9_ledTo_49 : decode cX9_ledTo 49 = .ok (.iload_n 2, 1) := by decide +kernel
theorem dX9_ledTo_50 : decode cX9_ledTo 50 = .ok (.aload_n 0, 1) := by decide +kernel
theorem dX9_ledTo_51 : decode cX9_ledTo 51 = .ok (.getfield 7, 3) := by decide +kernel
theorem dX9_ledTo_54 : decode cX9_ledTo 54 = .ok (.irem, 1) := by decide +kernel
theorem dX9_ledTo_55 : decode cX9_ledTo 55 = .ok (.iload_n 2, 1) := by decide +kernel
theorem dX9_ledTo_56 : decode cX9_ledTo 56 = .ok (.aload_n 0, 1) := by decide +kernel
theorem dX9_ledTo_57 : decode cX9_ledTo 57 = .ok (.getfield 7, 3) := by decide +kernel
theorem dX9_ledTo_60 : decode cX9_ledTo 60 = .ok (.idiv, 1) := by decide +kernel
theorem dX9_ledTo_61 : decode cX9_ledTo 61 = .ok (.invokestatic 92, 3) := by decide +kernel
theorem dX9_ledTo_64 : decode cX9_ledTo 64 = .ok (.iload 4, 2) := by decide +kernel
theorem dX9_ledTo_66 : decode cX9_ledTo 66 = .ok (.aload_n 0, 1) := by decide +kernel
theorem dX9_ledTo_67 : decode cX9_ledTo 67 = .ok (.getfield 7, 3) := by decide +kernel
theorem dX9_ledTo_70 : decode cX9_ledTo 70 = .ok (.idiv, 1) := by decide +kernel
theorem dX9_ledTo_71 : decode cX9_ledTo 71 = .ok (.iadd, 1) := by decide +kernel
theorem dX9_ledTo_72 : decode cX9_ledTo 72 = .ok (.aload_n 0, 1) := by decide +kernel
theorem dX9_ledTo_73 : decode cX9_ledTo 73 = .ok (.getfield 13, 3) := by decide +kernel
theorem dX9_ledTo_76 : decode cX9_ledTo 76 = .ok (.invokestatic 88, 3) := by decide +kernel
theorem dX9_ledTo_79 : decode cX9_ledTo 79 = .ok (.istore 6, 2) := by decide +kernel
theorem dX9_ledTo_81 : decode cX9_ledTo 81 = .ok (.iload 6, 2) := by decide +kernel
theorem dX9_ledTo_83 : decode cX9_ledTo 83 = .ok (.aload_n 0, 1) := by decide +kernel
theorem dX9_ledTo_84 : decode cX9_ledTo 84 = .ok (.getfield 7, 3) := by decide +kernel
theorem dX9_ledTo_87 : decode cX9_ledTo 87 = .ok (.imul, 1) := by decide +kernel
theorem dX9_ledTo_88 : decode cX9_ledTo 88 = .ok (.iload 5, 2) := by decide +kernel
theorem dX9_ledTo_90 : decode cX9_ledTo 90 = .ok (.iadd, 1) := by decide +kernel
theorem dX9_ledTo_91 : decode cX9_ledTo 91 = .ok (.ireturn, 1) := by decide +kernel
theorem bX9_ledTo_0 (x1 : Int32) (x2 : Int32) (mem : zm_Mem) (post : zm_Post) (kk : zm_Call gX9_cells [.ref 21] mem (fun r1 w1 u1 => (¬ r1 = 0 ∧ zm_Call gX9_cells [.ref 21] u1 (fun r2 w2 u2 => (¬ r2 = 0 ∧ (¬ u2 21 1 = 0 ∧ (¬ u2 21 1 = 0 ∧ zm_Call gX9_turnedX [.int (x1 / r1), .int (x2 - x2 / (u2 21 1) * (u2 21 1)), .int (x2 / (u2 21 1))] u2 (fun r3 w3 u3 => (¬ u3 21 1 = 0 ∧ zm_Call gX9_rest [.int (r3 + ((x1 - x1 / r2 * r2) - (x1 - x1 / r2 * r2) / (u3 21 1) * (u3 21 1))), .int (u3 21 1)] u3 (fun r4 w4 u4 => (¬ u4 21 1 = 0 ∧ (¬ u4 21 1 = 0 ∧ zm_Call gX9_turnedY [.int (x1 / r1), .int (x2 - x2 / (u4 21 1) * (u4 21 1)), .int (x2 / (u4 21 1))] u4 (fun r5 w5 u5 => (¬ u5 21 1 = 0 ∧ zm_Call gX9_rest [.int (r5 + ((x1 - x1 / r2 * r2) / (u5 21 1))), .int (u5 21 2)] u5 (fun r6 w6 u6 => post ((r6 * (u6 21 1)) + r4) 0 u6))))))))))))))) : zm_Call gX9_ledTo [.ref 21, .int x1, .int x2] mem post := by
  refine z_entry (by decide) (Nat.le_of_ble_eq_true rfl) ?_
  show zm_Z gX9_ledTo post 0 [(0, .ref 21), (1, .int x1), (2, .int x2)] [] mem
  refine z_iload_n dX9_ledTo_0 rfl 1 rfl ?_
  refine z_aload_n dX9_ledTo_1 rfl 0 rfl ?_
  refine z_callVi (g' := gX9_cells) [] (q := 21) (ci := 9) (T := TX9) rfl rfl ⟨lkX9_72, pdX9_cells, by decide, by decide⟩ ⟨_, rfl, by decide⟩ rfl (Nat.le_of_ble_eq_true rfl) dX9_ledTo_2 (zm_Call.mono kk (fun r1 w1 u1 k1 => ?_))
  refine z_idiv dX9_ledTo_5 k1.1 ?_
  refine z_istore_n (lv' := [(3, .int (x1 / r1)), (0, .ref 21), (1, .int x1), (2, .int x2)]) dX9_ledTo_6 rfl (by decide) rfl ?_
  refine z_iload_n dX9_ledTo_7 rfl 2 rfl ?_
  refine z_aload_n dX9_ledTo_8 rfl 1 rfl ?_
  refine z_callVi (g' := gX9_cells) [] (q := 21) (ci := 9) (T := TX9) rfl rfl ⟨lkX9_72, pdX9_cells, by decide, by decide⟩ ⟨_, rfl, by decide⟩ rfl (Nat.le_of_ble_eq_true rfl) dX9_ledTo_9 (zm_Call.mono k1.2 (fun r2 w2 u2 k2 => ?_))
  refine z_irem dX9_ledTo_12 k2.1 ?_
  refine z_istore (lv' := [(4, .int (x1 - x1 / r2 * r2)), (3, .int (x1 / r1)), (0, .ref 21), (1, .int x1), (2, .int x2)]) dX9_ledTo_13 (by decide) rfl ?_
  refine z_iload_n dX9_ledTo_15 rfl 1 rfl ?_
  refine z_iload_n dX9_ledTo_16 rfl 4 rfl ?_
  refine z_aload_n dX9_ledTo_17 rfl 2 rfl ?_
  refine z_geti (ci := 9) (j := 1) (T := TX9) rfl rfl hX9 rfl (by decide) fkX9_7 dX9_ledTo_18 ?_
  refine z_irem dX9_ledTo_21 k2.2.1 ?_
  refine z_iload_n dX9_ledTo_22 rfl 4 rfl ?_
  refine z_aload_n dX9_ledTo_23 rfl 2 rfl ?_
  refine z_geti (ci := 9) (j := 1) (T := TX9) rfl rfl hX9 rfl (by decide) fkX9_7 dX9_ledTo_24 ?_
  refine z_idiv dX9_ledTo_27 k2.2.2.1 ?_
  refine z_callSi (g' := gX9_turnedX) (st := []) [.int (x1 / r1), .int (x2 - x2 / (u2 21 1) * (u2 21 1)), .int (x2 / (u2 21 1))] ⟨lkX9_84, pdX9_turnedX, by decide, by decide⟩ ⟨_, rfl, by decide⟩ rfl (Nat.le_of_ble_eq_true rfl) dX9_ledTo_28 (zm_Call.mono k2.2.2.2 (fun r3 w3 u3 k3 => ?_))
  refine z_iload dX9_ledTo_31 0 rfl ?_
  refine z_aload_n dX9_ledTo_33 rfl 2 rfl ?_
  refine z_geti (ci := 9) (j := 1) (T := TX9) rfl rfl hX9 rfl (by decide) fkX9_7 dX9_ledTo_34 ?_
  refine z_irem dX9_ledTo_37 k3.1 ?_
  refine z_iadd dX9_ledTo_38 ?_
  refine z_aload_n dX9_ledTo_39 rfl 2 rfl ?_
  refine z_geti (ci := 9) (j := 1) (T := TX9) rfl rfl hX9 rfl (by decide) fkX9_7 dX9_ledTo_40 ?_
  refine z_callSi (g' := gX9_rest) (st := []) [.int (r3 + ((x1 - x1 / r2 * r2) - (x1 - x1 / r2 * r2) / (u3 21 1) * (u3 21 1))), .int (u3 21 1)] ⟨lkX9_88, pdX9_rest, by decide, by decide⟩ ⟨_, rfl, by decide⟩ rfl (Nat.le_of_ble_eq_true rfl) dX9_ledTo_43 (zm_Call.mono k3.2 (fun r4 w4 u4 k4 => ?_))
  refine z_istore (lv' := [(5, .int r4), (4, .int (x1 - x1 / r2 * r2)), (3, .int (x1 / r1)), (0, .ref 21), (1, .int x1), (2, .int x2)]) dX9_ledTo_46 (by decide) rfl ?_
  refine z_iload_n dX9_ledTo_48 rfl 2 rfl ?_
  refine z_iload_n dX9_ledTo_49 rfl 5 rfl ?_
  refine z_aload_n dX9_ledTo_50 rfl 3 rfl ?_
  refine z_geti (ci := 9) (j := 1) (T := TX9) rfl rfl hX9 rfl (by decide) fkX9_7 dX9_ledTo_51 ?_
  refine z_irem dX9_ledTo_54 k4.1 ?_
  refine z_iload_n dX9_ledTo_55 rfl 5 rfl ?_
  refine z_aload_n dX9_ledTo_56 rfl 3 rfl ?_
  refine z_geti (ci := 9) (j := 1) (T := TX9) rfl rfl hX9 rfl (by decide) fkX9_7 dX9_ledTo_57 ?_
  refine z_idiv dX9_ledTo_60 k4.2.1 ?_
  refine z_callSi (g' := gX9_turnedY) (st := []) [.int (x1 / r1), .int (x2 - x2 / (u4 21 1) * (u4 21 1)), .int (x2 / (u4 21 1))] ⟨lkX9_92, pdX9_turnedY, by decide, by decide⟩ ⟨_, rfl, by decide⟩ rfl (Nat.le_of_ble_eq_true rfl) dX9_ledTo_61 (zm_Call.mono k4.2.2 (fun r5 w5 u5 k5 => ?_))
  refine z_iload dX9_ledTo_64 1 rfl ?_
  refine z_aload_n dX9_ledTo_66 rfl 3 rfl ?_
  refine z_geti (ci := 9) (j := 1) (T := TX9) rfl rfl hX9 rfl (by decide) fkX9_7 dX9_ledTo_67 ?_
  refine z_idiv dX9_ledTo_70 k5.1 ?_
  refine z_iadd dX9_ledTo_71 ?_
  refine z_aload_n dX9_ledTo_72 rfl 3 rfl ?_
  refine z_geti (ci := 9) (j := 2) (T := TX9) rfl rfl hX9 rfl (by decide) fkX9_13 dX9_ledTo_73 ?_
  refine z_callSi (g' := gX9_rest) (st := []) [.int (r5 + ((x1 - x1 / r2 * r2) / (u5 21 1))), .int (u5 21 2)] ⟨lkX9_88, pdX9_rest, by decide, by decide⟩ ⟨_, rfl, by decide⟩ rfl (Nat.le_of_ble_eq_true rfl) dX9_ledTo_76 (zm_Call.mono k5.2 (fun r6 w6 u6 k6 => ?_))
  refine z_istore (lv' := [(6, .int r6), (5, .int r4), (4, .int (x1 - x1 / r2 * r2)), (3, .int (x1 / r1)), (0, .ref 21), (1, .int x1), (2, .int x2)]) dX9_ledTo_79 (by decide) rfl ?_
  refine z_iload dX9_ledTo_81 0 rfl ?_
  refine z_aload_n dX9_ledTo_83 rfl 4 rfl ?_
  refine z_geti (ci := 9) (j := 1) (T := TX9) rfl rfl hX9 rfl (by decide) fkX9_7 dX9_ledTo_84 ?_
  refine z_imul dX9_ledTo_87 ?_
  refine z_iload dX9_ledTo_88 1 rfl ?_
  refine z_iadd dX9_ledTo_90 ?_
  exact z_iret rfl dX9_ledTo_91 k6
theorem dX9_patch_0 : decode cX9_patch 0 = .ok (.aload_n 0, 1) := by decide +kernel
theorem dX9_patch_1 : decode cX9_patch 1 = .ok (.iconst 0, 1) := by decide +kernel
theorem dX9_patch_2 : decode cX9_patch 2 = .ok (.putfield 69, 3) := by decide +kernel
theorem dX9_patch_5 : decode cX9_patch 5 = .ok (.iload_n 1, 1) := by decide +kernel
theorem dX9_patch_6 : decode cX9_patch 6 = .ok (.i2l, 1) := by decide +kernel
theorem dX9_patch_7 : decode cX9_patch 7 = .ok (.lconst 1, 1) := by decide +kernel
theorem dX9_patch_8 : decode cX9_patch 8 = .ok (.ldc2_w 95, 3) := by decide +kernel
theorem dX9_patch_11 : decode cX9_patch 11 = .ok (.invokestatic 76, 3) := by decide +kernel
theorem dX9_patch_14 : decode cX9_patch 14 = .ok (.ifCond .eq 15, 3) := by decide +kernel
theorem dX9_patch_17 : decode cX9_patch 17 = .ok (.iload_n 2, 1) := by decide +kernel
theorem dX9_patch_18 : decode cX9_patch 18 = .ok (.i2l, 1) := by decide +kernel
theorem dX9_patch_19 : decode cX9_patch 19 = .ok (.lconst 1, 1) := by decide +kernel
theorem dX9_patch_20 : decode cX9_patch 20 = .ok (.ldc2_w 95, 3) := by decide +kernel
theorem dX9_patch_23 : decode cX9_patch 23 = .ok (.invokestatic 76, 3) := by decide +kernel
theorem dX9_patch_26 : decode cX9_patch 26 = .ok (.ifCond .ne 6, 3) := by decide +kernel
theorem dX9_patch_29 : decode cX9_patch 29 = .ok (.bipush (-2), 2) := by decide +kernel
theorem dX9_patch_31 : decode cX9_patch 31 = .ok (.ireturn, 1) := by decide +kernel
theorem dX9_patch_32 : decode cX9_patch 32 = .ok (.aload_n 0, 1) := by decide +kernel
theorem dX9_patch_33 : decode cX9_patch 33 = .ok (.iload_n 1, 1) := by decide +kernel
theorem dX9_patch_34 : decode cX9_patch 34 = .ok (.putfield 7, 3) := by decide +kernel
theorem dX9_patch_37 : decode cX9_patch 37 = .ok (.aload_n 0, 1) := by decide +kernel
theorem dX9_patch_38 : decode cX9_patch 38 = .ok (.iload_n 2, 1) := by decide +kernel
theorem dX9_patch_39 : decode cX9_patch 39 = .ok (.putfield 13, 3) := by decide +kernel
theorem dX9_patch_42 : decode cX9_patch 42 = .ok (.iconst 0, 1) := by decide +kernel
theorem dX9_patch_43 : decode cX9_patch 43 = .ok (.istore_n 3, 1) := by decide +kernel
theorem dX9_patch_44 : decode cX9_patch 44 = .ok (.iload_n 3, 1) := by decide +kernel
theorem dX9_patch_45 : decode cX9_patch 45 = .ok (.bipush 36, 2) := by decide +kernel
theorem dX9_patch_47 : decode cX9_patch 47 = .ok (.if_icmp .ge 16, 3) := by decide +kernel
theorem dX9_patch_50 : decode cX9_patch 50 = .ok (.aload_n 0, 1) := by decide +kernel
theorem dX9_patch_51 : decode cX9_patch 51 = .ok (.getfield 19, 3) := by decide +kernel
theorem dX9_patch_54 : decode cX9_patch 54 = .ok (.iload_n 3, 1) := by decide +kernel
theorem dX9_patch_55 : decode cX9_patch 55 = .ok (.iconst 0, 1) := by decide +kernel
theorem dX9_patch_56 : decode cX9_patch 56 = .ok (.iastore, 1) := by decide +kernel
theorem dX9_patch_57 : decode cX9_patch 57 = .ok (.iinc 3 1, 3) := by decide +kernel
theorem dX9_patch_60 : decode cX9_patch 60 = .ok (.goto (-16), 3) := by decide +kernel
theorem dX9_patch_63 : decode cX9_patch 63 = .ok (.aload_n 0, 1) := by decide +kernel
theorem dX9_patch_64 : decode cX9_patch 64 = .ok (.iconst 0, 1) := by decide +kernel
theorem dX9_patch_65 : decode cX9_patch 65 = .ok (.putfield 97, 3) := by decide +kernel
theorem dX9_patch_68 : decode cX9_patch 68 = .ok (.iload_n 1, 1) := by decide +kernel
theorem dX9_patch_69 : decode cX9_patch 69 = .ok (.iload_n 2, 1) := by decide +kernel
theorem dX9_patch_70 : decode cX9_patch 70 = .ok (.imul, 1) := by decide +kernel
theorem dX9_patch_71 : decode cX9_patch 71 = .ok (.ireturn, 1) := by decide +kernel
theorem bX9_patch_0 (x1 : Int32) (x2 : Int32) (mem : zm_Mem) (post : zm_Post) (kk : zm_Call gX9_in [.long (Int32.toInt64 x1), .long 1, .long 6] (zm_st mem 21 0 0) (fun r1 w1 u1 => ((r1 = 0 → post (-2) 0 u1) ∧ (¬ r1 = 0 → zm_Call gX9_in [.long (Int32.toInt64 x2), .long 1, .long 6] u1 (fun r3 w3 u3 => ((¬ r3 = 0 → zm_Z gX9_patch post 44 [(0, .ref 21), (1, .int x1), (2, .int x2), (3, .int 0)] [] (zm_st (zm_st u3 21 1 x1) 21 2 x2)) ∧ (r3 = 0 → post (-2) 0 u3))))))) : zm_Call gX9_patch [.ref 21, .int x1, .int x2] mem post := by
  refine z_entry (by decide) (Nat.le_of_ble_eq_true rfl) ?_
  show zm_Z gX9_patch post 0 [(0, .ref 21), (1, .int x1), (2, .int x2)] [] mem
  refine z_aload_n dX9_patch_0 rfl 0 rfl ?_
  refine z_iconst (v := 0) dX9_patch_1 zciconst_0 ?_
  refine z_put (ci := 9) (j := 0) (T := TX9) (ty0 := tyX9) rfl rfl hX9 tyX9_ok nmX9 rfl (by decide) fkX9_69 rfl rfl rfl dX9_patch_2 ?_
  refine z_iload_n dX9_patch_5 rfl 1 rfl ?_
  refine z_i2l dX9_patch_6 ?_
  refine z_lconst (v := 1) dX9_patch_7 zclconst_1 ?_
  refine z_ldc2 (v := 6) dX9_patch_8 fkX9_95 ?_
  refine z_callSi (g' := gX9_in) (st := []) [.long (Int32.toInt64 x1), .long 1, .long 6] ⟨lkX9_76, pdX9_in, by decide, by decide⟩ ⟨_, rfl, by decide⟩ rfl (Nat.le_of_ble_eq_true rfl) dX9_patch_11 (zm_Call.mono kk (fun r1 w1 u1 k1 => ?_))
  refine z_if_eq (tgt := 29) dX9_patch_14 (by decide) (fun h2 => ?_) (fun h2 => ?_)
  ·
    refine z_bipush (v := (-2)) dX9_patch_29 zcbipush_m2 ?_
    exact z_iret rfl dX9_patch_31 (k1.1 h2)
  ·
    refine z_iload_n dX9_patch_17 rfl 2 rfl ?_
    refine z_i2l dX9_patch_18 ?_
    refine z_lconst (v := 1) dX9_patch_19 zclconst_1 ?_
    refine z_ldc2 (v := 6) dX9_patch_20 fkX9_95 ?_
    refine z_callSi (g' := gX9_in) (st := []) [.long (Int32.toInt64 x2), .long 1, .long 6] ⟨lkX9_76, pdX9_in, by decide, by decide⟩ ⟨_, rfl, by decide⟩ rfl (Nat.le_of_ble_eq_true rfl) dX9_patch_23 (zm_Call.mono (k1.2 h2) (fun r3 w3 u3 k3 => ?_))
    refine z_if_ne (tgt := 32) dX9_patch_26 (by decide) (fun h4 => ?_) (fun h4 => ?_)
    ·
      refine z_aload_n dX9_patch_32 rfl 0 rfl ?_
      refine z_iload_n dX9_patch_33 rfl 1 rfl ?_
      refine z_put (ci := 9) (j := 1) (T := TX9) (ty0 := tyX9) rfl rfl hX9 tyX9_ok nmX9 rfl (by decide) fkX9_7 rfl rfl rfl dX9_patch_34 ?_
      refine z_aload_n dX9_patch_37 rfl 0 rfl ?_
      refine z_iload_n dX9_patch_38 rfl 2 rfl ?_
      refine z_put (ci := 9) (j := 2) (T := TX9) (ty0 := tyX9) rfl rfl hX9 tyX9_ok nmX9 rfl (by decide) fkX9_13 rfl rfl rfl dX9_patch_39 ?_
      refine z_iconst (v := 0) dX9_patch_42 zciconst_0 ?_
      refine z_istore_n (lv' := [(3, .int 0), (0, .ref 21), (1, .int x1), (2, .int x2)]) dX9_patch_43 rfl (by decide) rfl ?_
      refine z_sub [1, 2, 3, 0] rfl ?_
      exact (k3.1 h4)
    ·
      refine z_bipush (v := (-2)) dX9_patch_29 zcbipush_m2 ?_
      exact z_iret rfl dX9_patch_31 (k3.2 h4)
theorem bX9_patch_44 (x1 : Int32) (x2 : Int32) (x3 : Int32) (mem : zm_Mem) (post : zm_Post) (kk : ((36 ≤ x3 → post (x1 * x2) 0 (zm_st mem 21 10 0)) ∧ (¬ 36 ≤ x3 → (vp_in x3 36 ∧ zm_Z gX9_patch post 44 [(0, .ref 21), (1, .int x1), (2, .int x2), (3, .int (x3 + 1))] [] (zm_st mem 22 (Int32.toNatClampNeg x3) 0))))) : zm_Z gX9_patch post 44 [(0, .ref 21), (1, .int x1), (2, .int x2), (3, .int x3)] [] mem := by
  refine z_iload_n dX9_patch_44 rfl 3 rfl ?_
  refine z_bipush (v := 36) dX9_patch_45 zcbipush_36 ?_
  refine z_icmp_ge (tgt := 63) dX9_patch_47 (by decide) (fun h1 => ?_) (fun h1 => ?_)
  ·
    refine z_aload_n dX9_patch_63 rfl 0 rfl ?_
    refine z_iconst (v := 0) dX9_patch_64 zciconst_0 ?_
    refine z_put (ci := 9) (j := 10) (T := TX9) (ty0 := tyX9) rfl rfl hX9 tyX9_ok nmX9 rfl (by decide) fkX9_97 rfl rfl rfl dX9_patch_65 ?_
    refine z_iload_n dX9_patch_68 rfl 1 rfl ?_
    refine z_iload_n dX9_patch_69 rfl 2 rfl ?_
    refine z_imul dX9_patch_70 ?_
    exact z_iret rfl dX9_patch_71 (kk.1 h1)
  ·
    refine z_aload_n dX9_patch_50 rfl 0 rfl ?_
    refine z_getr (ci := 9) (j := 4) (r := 22) (T := TX9) rfl rfl hX9 rfl (by decide) fkX9_19 dX9_patch_51 ?_
    refine z_iload_n dX9_patch_54 rfl 3 rfl ?_
    refine z_iconst (v := 0) dX9_patch_55 zciconst_0 ?_
    refine z_iast (n := 36) rfl (kk.2 h1).1 dX9_patch_56 ?_
    refine z_iinc (v := x3 + 1) (lv' := [(3, .int (x3 + 1)), (0, .ref 21), (1, .int x1), (2, .int x2)]) dX9_patch_57 3 rfl (by rw [zciconst_1]) (by decide) rfl ?_
    refine z_goto (tgt := 44) dX9_patch_60 (by decide) ?_
    refine z_sub [1, 2, 3, 0] rfl ?_
    exact (kk.2 h1).2
theorem dX9_colours_0 : decode cX9_colours 0 = .ok (.aload_n 0, 1) := by decide +kernel
theorem dX9_colours_1 : decode cX9_colours 1 = .ok (.iconst 0, 1) := by decide +kernel
theorem dX9_colours_2 : decode cX9_colours 2 = .ok (.putfield 69, 3) := by decide +kernel
theorem dX9_colours_5 : decode cX9_colours 5 = .ok (.iload_n 1, 1) := by decide +kernel
theorem dX9_colours_6 : decode cX9_colours 6 = .ok (.i2l, 1) := by decide +kernel
theorem dX9_colours_7 : decode cX9_colours 7 = .ok (.lconst 1, 1) := by decide +kernel
theorem dX9_colours_8 : decode cX9_colours 8 = .ok (.ldc2_w 100, 3) := by decide +kernel
theorem dX9_colours_11 : decode cX9_colours 11 = .ok (.invokestatic 76, 3) := by decide +kernel
theorem dX9_colours_14 : decode cX9_colours 14 = .ok (.ifCond .ne 6, 3) := by decide +kernel
theorem dX9_colours_17 : decode cX9_colours 17 = .ok (.bipush (-2), 2) := by decide +kernel
theorem dX9_colours_19 : decode cX9_colours 19 = .ok (.ireturn, 1) := by decide +kernel
theorem dX9_colours_20 : decode cX9_colours 20 = .ok (.aload_n 0, 1) := by decide +kernel
theorem dX9_colours_21 : decode cX9_colours 21 = .ok (.getfield 16, 3) := by decide +kernel
theorem dX9_colours_24 : decode cX9_colours 24 = .ok (.istore_n 2, 1) := by decide +kernel
theorem dX9_colours_25 : decode cX9_colours 25 = .ok (.aload_n 0, 1) := by decide +kernel
theorem dX9_colours_26 : decode cX9_colours 26 = .ok (.iload_n 1, 1) := by decide +kernel
theorem dX9_colours_27 : decode cX9_colours 27 = .ok (.putfield 16, 3) := by decide +kernel
theorem dX9_colours_30 : decode cX9_colours 30 = .ok (.iconst 0, 1) := by decide +kernel
theorem dX9_colours_31 : decode cX9_colours 31 = .ok (.istore_n 3, 1) := by decide +kernel
theorem dX9_colours_32 : decode cX9_colours 32 = .ok (.iload_n 3, 1) := by decide +kernel
theorem dX9_colours_33 : decode cX9_colours 33 = .ok (.aload_n 0, 1) := by decide +kernel
theorem dX9_colours_34 : decode cX9_colours 34 = .ok (.invokevirtual 72, 3) := by decide +kernel
theorem dX9_colours_37 : decode cX9_colours 37 = .ok (.if_icmp .ge 46, 3) := by decide +kernel
theorem dX9_colours_40 : decode cX9_colours 40 = .ok (.aload_n 0, 1) := by decide +kernel
theorem dX9_colours_41 : decode cX9_colours 41 = .ok (.getfield 19, 3) := by decide +kernel
theorem dX9_colours_44 : decode cX9_colours 44 = .ok (.iload_n 3, 1) := by decide +kernel
theorem dX9_colours_45 : decode cX9_colours 45 = .ok (.aload_n 0, 1) := by decide +kernel
theorem dX9_colours_46 : decode cX9_colours 46 = .ok (.getfield 19, 3) := by decide +kernel
theorem dX9_colours_49 : decode cX9_colours 49 = .ok (.iload_n 3, 1) := by decide +kernel
theorem dX9_colours_50 : decode cX9_colours 50 = .ok (.iaload, 1) := by decide +kernel
theorem dX9_colours_51 : decode cX9_colours 51 = .ok (.bipush 9, 2) := by decide +kernel
theorem dX9_colours_53 : decode cX9_colours 53 = .ok (.if_icmp .eq 17, 3) := by decide +kernel
theorem dX9_colours_56 : decode cX9_colours 56 = .ok (.aload_n 0, 1) := by decide +kernel
theorem dX9_colours_57 : decode cX9_colours 57 = .ok (.getfield 19, 3) := by decide +kernel
theorem dX9_colours_60 : decode cX9_colours 60 = .ok (.iload_n 3, 1) := by decide +kernel
theorem dX9_colours_61 : decode cX9_colours 61 = .ok (.iaload, 1) := by decide +kernel
theorem dX9_colours_62 : decode cX9_colours 62 = .ok (.iload_n 1, 1) := by decide +kernel
theorem dX9_colours_63 : decode cX9_colours 63 = .ok (.if_icmp .lt 7, 3) := by decide +kernel
theorem dX9_colours_66 : decode cX9_colours 66 = .ok (.iconst 0, 1) := by decide +kernel
theorem dX9_colours_67 : decode cX9_colours 67 = .ok (.goto 9, 3) := by decide +kernel
theorem dX9_colours_70 : decode cX9_colours 70 = .ok (.aload_n 0, 1) := by decide +kernel
theorem dX9_colours_71 : decode cX9_colours 71 = .ok (.getfield 19, 3) := by decide +kernel
theorem dX9_colours_74 : decode cX9_colours 74 = .ok (.iload_n 3, 1) := by decide +kernel
theorem dX9_colours_75 : decode cX9_colours 75 = .ok (.iaload, 1) := by decide +kernel
theorem dX9_colours_76 : decode cX9_colours 76 = .ok (.iastore, 1) := by decide +kernel
theorem dX9_colours_77 : decode cX9_colours 77 = .ok (.iinc 3 1, 3) := by decide +kernel
theorem dX9_colours_80 : decode cX9_colours 80 = .ok (.goto (-48), 3) := by decide +kernel
theorem dX9_colours_83 : decode cX9_colours 83 = .ok (.iload_n 2, 1) := by decide +kernel
theorem dX9_colours_84 : decode cX9_colours 84 = .ok (.ireturn, 1) := by decide +kernel
theorem bX9_colours_0 (x1 : Int32) (mem : zm_Mem) (post : zm_Post) (kk : zm_Call gX9_in [.long (Int32.toInt64 x1), .long 1, .long 4] (zm_st mem 21 0 0) (fun r1 w1 u1 => ((¬ r1 = 0 → zm_Z gX9_colours post 32 [(0, .ref 21), (1, .int x1), (2, .int (u1 21 3)), (3, .int 0)] [] (zm_st u1 21 3 x1)) ∧ (r1 = 0 → post (-2) 0 u1)))) : zm_Call gX9_colours [.ref 21, .int x1] mem post := by
  refine z_entry (by decide) (Nat.le_of_ble_eq_true rfl) ?_
  show zm_Z gX9_colours post 0 [(0, .ref 21), (1, .int x1)] [] mem
  refine z_aload_n dX9_colours_0 rfl 0 rfl ?_
  refine z_iconst (v := 0) dX9_colours_1 zciconst_0 ?_
  refine z_put (ci := 9) (j := 0) (T := TX9) (ty0 := tyX9) rfl rfl hX9 tyX9_ok nmX9 rfl (by decide) fkX9_69 rfl rfl rfl dX9_colours_2 ?_
  refine z_iload_n dX9_colours_5 rfl 1 rfl ?_
  refine z_i2l dX9_colours_6 ?_
  refine z_lconst (v := 1) dX9_colours_7 zclconst_1 ?_
  refine z_ldc2 (v := 4) dX9_colours_8 fkX9_100 ?_
  refine z_callSi (g' := gX9_in) (st := []) [.long (Int32.toInt64 x1), .long 1, .long 4] ⟨lkX9_76, pdX9_in, by decide, by decide⟩ ⟨_, rfl, by decide⟩ rfl (Nat.le_of_ble_eq_true rfl) dX9_colours_11 (zm_Call.mono kk (fun r1 w1 u1 k1 => ?_))
  refine z_if_ne (tgt := 20) dX9_colours_14 (by decide) (fun h2 => ?_) (fun h2 => ?_)
  ·
    refine z_aload_n dX9_colours_20 rfl 0 rfl ?_
    refine z_geti (ci := 9) (j := 3) (T := TX9) rfl rfl hX9 rfl (by decide) fkX9_16 dX9_colours_21 ?_
    refine z_istore_n (lv' := [(2, .int (u1 21 3)), (0, .ref 21), (1, .int x1)]) dX9_colours_24 rfl (by decide) rfl ?_
    refine z_aload_n dX9_colours_25 rfl 1 rfl ?_
    refine z_iload_n dX9_colours_26 rfl 2 rfl ?_
    refine z_put (ci := 9) (j := 3) (T := TX9) (ty0 := tyX9) rfl rfl hX9 tyX9_ok nmX9 rfl (by decide) fkX9_16 rfl rfl rfl dX9_colours_27 ?_
    refine z_iconst (v := 0) dX9_colours_30 zciconst_0 ?_
    refine z_istore_n (lv' := [(3, .int 0), (2, .int (u1 21 3)), (0, .ref 21), (1, .int x1)]) dX9_colours_31 rfl (by decide) rfl ?_
    refine z_sub [2, 3, 1, 0] rfl ?_
    exact (k1.1 h2)
  ·
    refine z_bipush (v := (-2)) dX9_colours_17 zcbipush_m2 ?_
    exact z_iret rfl dX9_colours_19 (k1.2 h2)
theorem bX9_colours_32 (x1 : Int32) (x2 : Int32) (x3 : Int32) (mem : zm_Mem) (post : zm_Post) (kk : zm_Call gX9_cells [.ref 21] mem (fun r1 w1 u1 => ((r1 ≤ x3 → post x2 0 u1) ∧ (¬ r1 ≤ x3 → (vp_in x3 36 ∧ (((u1 22 (Int32.toNatClampNeg x3)) = 9 → zm_Z gX9_colours post 70 [(0, .ref 21), (1, .int x1), (2, .int x2), (3, .int x3)] [.int x3, .ref 22] u1) ∧ (¬ (u1 22 (Int32.toNatClampNeg x3)) = 9 → (vp_in x3 36 ∧ (((u1 22 (Int32.toNatClampNeg x3)) < x1 → zm_Z gX9_colours post 70 [(0, .ref 21), (1, .int x1), (2, .int x2), (3, .int x3)] [.int x3, .ref 22] u1) ∧ (¬ (u1 22 (Int32.toNatClampNeg x3)) < x1 → (vp_in x3 36 ∧ zm_Z gX9_colours post 32 [(0, .ref 21), (1, .int x1), (2, .int x2), (3, .int (x3 + 1))] [] (zm_st u1 22 (Int32.toNatClampNeg x3) 0)))))))))))) : zm_Z gX9_colours post 32 [(0, .ref 21), (1, .int x1), (2, .int x2), (3, .int x3)] [] mem := by
  refine z_iload_n dX9_colours_32 rfl 3 rfl ?_
  refine z_aload_n dX9_colours_33 rfl 0 rfl ?_
  refine z_callVi (g' := gX9_cells) [] (q := 21) (ci := 9) (T := TX9) rfl rfl ⟨lkX9_72, pdX9_cells, by decide, by decide⟩ ⟨_, rfl, by decide⟩ rfl (Nat.le_of_ble_eq_true rfl) dX9_colours_34 (zm_Call.mono kk (fun r1 w1 u1 k1 => ?_))
  refine z_icmp_ge (tgt := 83) dX9_colours_37 (by decide) (fun h2 => ?_) (fun h2 => ?_)
  ·
    refine z_iload_n dX9_colours_83 rfl 2 rfl ?_
    exact z_iret rfl dX9_colours_84 (k1.1 h2)
  ·
    refine z_aload_n dX9_colours_40 rfl 0 rfl ?_
    refine z_getr (ci := 9) (j := 4) (r := 22) (T := TX9) rfl rfl hX9 rfl (by decide) fkX9_19 dX9_colours_41 ?_
    refine z_iload_n dX9_colours_44 rfl 3 rfl ?_
    refine z_aload_n dX9_colours_45 rfl 0 rfl ?_
    refine z_getr (ci := 9) (j := 4) (r := 22) (T := TX9) rfl rfl hX9 rfl (by decide) fkX9_19 dX9_colours_46 ?_
    refine z_iload_n dX9_colours_49 rfl 3 rfl ?_
    refine z_iald (n := 36) rfl (k1.2 h2).1 dX9_colours_50 ?_
    refine z_bipush (v := 9) dX9_colours_51 zcbipush_9 ?_
    refine z_icmp_eq (tgt := 70) dX9_colours_53 (by decide) (fun h3 => ?_) (fun h3 => ?_)
    ·
      exact ((k1.2 h2).2.1 h3)
    ·
      refine z_aload_n dX9_colours_56 rfl 0 rfl ?_
      refine z_getr (ci := 9) (j := 4) (r := 22) (T := TX9) rfl rfl hX9 rfl (by decide) fkX9_19 dX9_colours_57 ?_
      refine z_iload_n dX9_colours_60 rfl 3 rfl ?_
      refine z_iald (n := 36) rfl ((k1.2 h2).2.2 h3).1 dX9_colours_61 ?_
      refine z_iload_n dX9_colours_62 rfl 1 rfl ?_
      refine z_icmp_lt (tgt := 70) dX9_colours_63 (by decide) (fun h4 => ?_) (fun h4 => ?_)
      ·
        exact (((k1.2 h2).2.2 h3).2.1 h4)
      ·
        refine z_iconst (v := 0) dX9_colours_66 zciconst_0 ?_
        refine z_goto (tgt := 76) dX9_colours_67 (by decide) ?_
        refine z_iast (n := 36) rfl (((k1.2 h2).2.2 h3).2.2 h4).1 dX9_colours_76 ?_
        refine z_iinc (v := x3 + 1) (lv' := [(3, .int (x3 + 1)), (0, .ref 21), (1, .int x1), (2, .int x2)]) dX9_colours_77 3 rfl (by rw [zciconst_1]) (by decide) rfl ?_
        refine z_goto (tgt := 32) dX9_colours_80 (by decide) ?_
        refine z_sub [1, 2, 3, 0] rfl ?_
        exact (((k1.2 h2).2.2 h3).2.2 h4).2
theorem bX9_colours_70 (x1 : Int32) (x2 : Int32) (x3 : Int32) (s0 : Int32) (mem : zm_Mem) (post : zm_Post) (kk : (vp_in x3 36 ∧ (vp_in s0 36 ∧ zm_Z gX9_colours post 32 [(0, .ref 21), (1, .int x1), (2, .int x2), (3, .int (x3 + 1))] [] (zm_st mem 22 (Int32.toNatClampNeg s0) (mem 22 (Int32.toNatClampNeg x3)))))) : zm_Z gX9_colours post 70 [(0, .ref 21), (1, .int x1), (2, .int x2), (3, .int x3)] [.int s0, .ref 22] mem := by
  refine z_aload_n dX9_colours_70 rfl 0 rfl ?_
  refine z_getr (ci := 9) (j := 4) (r := 22) (T := TX9) rfl rfl hX9 rfl (by decide) fkX9_19 dX9_colours_71 ?_
  refine z_iload_n dX9_colours_74 rfl 3 rfl ?_
  refine z_iald (n := 36) rfl kk.1 dX9_colours_75 ?_
  refine z_iast (n := 36) rfl kk.2.1 dX9_colours_76 ?_
  refine z_iinc (v := x3 + 1) (lv' := [(3, .int (x3 + 1)), (0, .ref 21), (1, .int x1), (2, .int x2)]) dX9_colours_77 3 rfl (by rw [zciconst_1]) (by decide) rfl ?_
  refine z_goto (tgt := 32) dX9_colours_80 (by decide) ?_
  refine z_sub [1, 2, 3, 0] rfl ?_
  exact kk.2.2
theorem dX9_isColour_0 : decode cX9_isColour 0 = .ok (.iload_n 1, 1) := by decide +kernel
theorem dX9_isColour_1 : decode cX9_isColour 1 = .ok (.bipush 9, 2) := by decide +kernel
theorem dX9_isColour_3 : decode cX9_isColour 3 = .ok (.if_icmp .eq 19, 3) := by decide +kernel
theorem dX9_isColour_6 : decode cX9_isColour 6 = .ok (.iload_n 1, 1) := by decide +kernel
theorem dX9_isColour_7 : decode cX9_isColour 7 = .ok (.i2l, 1) := by decide +kernel
theorem dX9_isColour_8 : decode cX9_isColour 8 = .ok (.lconst 0, 1) := by decide +kernel
theorem dX9_isColour_9 : decode cX9_isColour 9 = .ok (.aload_n 0, 1) := by decide +kernel
theorem dX9_isColour_10 : decode cX9_isColour 10 = .ok (.getfield 16, 3) := by decide +kernel
theorem dX9_isColour_13 : decode cX9_isColour 13 = .ok (.iconst 1, 1) := by decide +kernel
theorem dX9_isColour_14 : decode cX9_isColour 14 = .ok (.isub, 1) := by decide +kernel
theorem dX9_isColour_15 : decode cX9_isColour 15 = .ok (.i2l, 1) := by decide +kernel
theorem dX9_isColour_16 : decode cX9_isColour 16 = .ok (.invokestatic 76, 3) := by decide +kernel
theorem dX9_isColour_19 : decode cX9_isColour 19 = .ok (.ifCond .eq 7, 3) := by decide +kernel
theorem dX9_isColour_22 : decode cX9_isColour 22 = .ok (.iconst 1, 1) := by decide +kernel
theorem dX9_isColour_23 : decode cX9_isColour 23 = .ok (.goto 4, 3) := by decide +kernel
theorem dX9_isColour_26 : decode cX9_isColour 26 = .ok (.iconst 0, 1) := by decide +kernel
theorem dX9_isColour_27 : decode cX9_isColour 27 = .ok (.ireturn, 1) := by decide +kernel
theorem bX9_isColour_0 (x1 : Int32) (mem : zm_Mem) (post : zm_Post) (kk : ((x1 = 9 → post 1 0 mem) ∧ (¬ x1 = 9 → zm_Call gX9_in [.long (Int32.toInt64 x1), .long 0, .long (Int32.toInt64 ((mem 21 3) - 1))] mem (fun r2 w2 u2 => ((r2 = 0 → post 0 0 u2) ∧ (¬ r2 = 0 → post 1 0 u2)))))) : zm_Call gX9_isColour [.ref 21, .int x1] mem post := by
  refine z_entry (by decide) (Nat.le_of_ble_eq_true rfl) ?_
  show zm_Z gX9_isColour post 0 [(0, .ref 21), (1, .int x1)] [] mem
  refine z_iload_n dX9_isColour_0 rfl 1 rfl ?_
  refine z_bipush (v := 9) dX9_isColour_1 zcbipush_9 ?_
  refine z_icmp_eq (tgt := 22) dX9_isColour_3 (by decide) (fun h1 => ?_) (fun h1 => ?_)
  ·
    refine z_iconst (v := 1) dX9_isColour_22 zciconst_1 ?_
    refine z_goto (tgt := 27) dX9_isColour_23 (by decide) ?_
    exact z_zret rfl (by decide) dX9_isColour_27 (kk.1 h1)
  ·
    refine z_iload_n dX9_isColour_6 rfl 1 rfl ?_
    refine z_i2l dX9_isColour_7 ?_
    refine z_lconst (v := 0) dX9_isColour_8 zclconst_0 ?_
    refine z_aload_n dX9_isColour_9 rfl 0 rfl ?_
    refine z_geti (ci := 9) (j := 3) (T := TX9) rfl rfl hX9 rfl (by decide) fkX9_16 dX9_isColour_10 ?_
    refine z_iconst (v := 1) dX9_isColour_13 zciconst_1 ?_
    refine z_isub dX9_isColour_14 ?_
    refine z_i2l dX9_isColour_15 ?_
    refine z_callSi (g' := gX9_in) (st := []) [.long (Int32.toInt64 x1), .long 0, .long (Int32.toInt64 ((mem 21 3) - 1))] ⟨lkX9_76, pdX9_in, by decide, by decide⟩ ⟨_, rfl, by decide⟩ rfl (Nat.le_of_ble_eq_true rfl) dX9_isColour_16 (zm_Call.mono (kk.2 h1) (fun r2 w2 u2 k2 => ?_))
    refine z_if_eq (tgt := 26) dX9_isColour_19 (by decide) (fun h3 => ?_) (fun h3 => ?_)
    ·
      refine z_iconst (v := 0) dX9_isColour_26 zciconst_0 ?_
      exact z_zret rfl (by decide) dX9_isColour_27 (k2.1 h3)
    ·
      refine z_iconst (v := 1) dX9_isColour_22 zciconst_1 ?_
      refine z_goto (tgt := 27) dX9_isColour_23 (by decide) ?_
      exact z_zret rfl (by decide) dX9_isColour_27 (k2.2 h3)
theorem dX9_dye_0 : decode cX9_dye 0 = .ok (.aload_n 0, 1) := by decide +kernel
theorem dX9_dye_1 : decode cX9_dye 1 = .ok (.iconst 0, 1) := by decide +kernel
theorem dX9_dye_2 : decode cX9_dye 2 = .ok (.putfield 69, 3) := by decide +kernel
theorem dX9_dye_5 : decode cX9_dye 5 = .ok (.aload_n 0, 1) := by decide +kernel
theorem dX9_dye_6 : decode cX9_dye 6 = .ok (.iload_n 1, 1) := by decide +kernel
theorem dX9_dye_7 : decode cX9_dye 7 = .ok (.invokevirtual 102, 3) := by decide +kernel
theorem dX9_dye_10 : decode cX9_dye 10 = .ok (.ifCond .eq 5, 3) := by decide +kernel
theorem dX9_dye_13 : decode cX9_dye 13 = .ok (.iconst (-1), 1) := by decide +kernel
theorem dX9_dye_14 : decode cX9_dye 14 = .ok (.ireturn, 1) := by decide +kernel
theorem dX9_dye_15 : decode cX9_dye 15 = .ok (.aload_n 0, 1) := by decide +kernel
theorem dX9_dye_16 : decode cX9_dye 16 = .ok (.iload_n 2, 1) := by decide +kernel
theorem dX9_dye_17 : decode cX9_dye 17 = .ok (.invokevirtual 105, 3) := by decide +kernel
theorem dX9_dye_20 : decode cX9_dye 20 = .ok (.ifCond .ne 6, 3) := by decide +kernel
theorem dX9_dye_23 : decode cX9_dye 23 = .ok (.bipush (-2), 2) := by decide +kernel
theorem dX9_dye_25 : decode cX9_dye 25 = .ok (.ireturn, 1) := by decide +kernel
theorem dX9_dye_26 : decode cX9_dye 26 = .ok (.aload_n 0, 1) := by decide +kernel
theorem dX9_dye_27 : decode cX9_dye 27 = .ok (.getfield 19, 3) := by decide +kernel
theorem dX9_dye_30 : decode cX9_dye 30 = .ok (.iload_n 1, 1) := by decide +kernel
theorem dX9_dye_31 : decode cX9_dye 31 = .ok (.iaload, 1) := by decide +kernel
theorem dX9_dye_32 : decode cX9_dye 32 = .ok (.istore_n 3, 1) := by decide +kernel
theorem dX9_dye_33 : decode cX9_dye 33 = .ok (.aload_n 0, 1) := by decide +kernel
theorem dX9_dye_34 : decode cX9_dye 34 = .ok (.getfield 19, 3) := by decide +kernel
theorem dX9_dye_37 : decode cX9_dye 37 = .ok (.iload_n 1, 1) := by decide +kernel
theorem dX9_dye_38 : decode cX9_dye 38 = .ok (.iload_n 2, 1) := by decide +kernel
theorem dX9_dye_39 : decode cX9_dye 39 = .ok (.iastore, 1) := by decide +kernel
theorem dX9_dye_40 : decode cX9_dye 40 = .ok (.iload_n 3, 1) := by decide +kernel
theorem dX9_dye_41 : decode cX9_dye 41 = .ok (.ireturn, 1) := by decide +kernel
theorem bX9_dye_0 (x1 : Int32) (x2 : Int32) (mem : zm_Mem) (post : zm_Post) (kk : zm_Call gX9_noCell [.ref 21, .int x1] (zm_st mem 21 0 0) (fun r1 w1 u1 => ((r1 = 0 → zm_Call gX9_isColour [.ref 21, .int x2] u1 (fun r3 w3 u3 => ((¬ r3 = 0 → (vp_in x1 36 ∧ (vp_in x1 36 ∧ post (u3 22 (Int32.toNatClampNeg x1)) 0 (zm_st u3 22 (Int32.toNatClampNeg x1) x2)))) ∧ (r3 = 0 → post (-2) 0 u3)))) ∧ (¬ r1 = 0 → post (-1) 0 u1)))) : zm_Call gX9_dye [.ref 21, .int x1, .int x2] mem post := by
  refine z_entry (by decide) (Nat.le_of_ble_eq_true rfl) ?_
  show zm_Z gX9_dye post 0 [(0, .ref 21), (1, .int x1), (2, .int x2)] [] mem
  refine z_aload_n dX9_dye_0 rfl 0 rfl ?_
  refine z_iconst (v := 0) dX9_dye_1 zciconst_0 ?_
  refine z_put (ci := 9) (j := 0) (T := TX9) (ty0 := tyX9) rfl rfl hX9 tyX9_ok nmX9 rfl (by decide) fkX9_69 rfl rfl rfl dX9_dye_2 ?_
  refine z_aload_n dX9_dye_5 rfl 0 rfl ?_
  refine z_iload_n dX9_dye_6 rfl 1 rfl ?_
  refine z_callVi (g' := gX9_noCell) [.int x1] (q := 21) (ci := 9) (T := TX9) rfl rfl ⟨lkX9_102, pdX9_noCell, by decide, by decide⟩ ⟨_, rfl, by decide⟩ rfl (Nat.le_of_ble_eq_true rfl) dX9_dye_7 (zm_Call.mono kk (fun r1 w1 u1 k1 => ?_))
  refine z_if_eq (tgt := 15) dX9_dye_10 (by decide) (fun h2 => ?_) (fun h2 => ?_)
  ·
    refine z_aload_n dX9_dye_15 rfl 0 rfl ?_
    refine z_iload_n dX9_dye_16 rfl 2 rfl ?_
    refine z_callVi (g' := gX9_isColour) [.int x2] (q := 21) (ci := 9) (T := TX9) rfl rfl ⟨lkX9_105, pdX9_isColour, by decide, by decide⟩ ⟨_, rfl, by decide⟩ rfl (Nat.le_of_ble_eq_true rfl) dX9_dye_17 (zm_Call.mono (k1.1 h2) (fun r3 w3 u3 k3 => ?_))
    refine z_if_ne (tgt := 26) dX9_dye_20 (by decide) (fun h4 => ?_) (fun h4 => ?_)
    ·
      refine z_aload_n dX9_dye_26 rfl 0 rfl ?_
      refine z_getr (ci := 9) (j := 4) (r := 22) (T := TX9) rfl rfl hX9 rfl (by decide) fkX9_19 dX9_dye_27 ?_
      refine z_iload_n dX9_dye_30 rfl 1 rfl ?_
      refine z_iald (n := 36) rfl (k3.1 h4).1 dX9_dye_31 ?_
      refine z_istore_n (lv' := [(3, .int (u3 22 (Int32.toNatClampNeg x1))), (0, .ref 21), (1, .int x1), (2, .int x2)]) dX9_dye_32 rfl (by decide) rfl ?_
      refine z_aload_n dX9_dye_33 rfl 1 rfl ?_
      refine z_getr (ci := 9) (j := 4) (r := 22) (T := TX9) rfl rfl hX9 rfl (by decide) fkX9_19 dX9_dye_34 ?_
      refine z_iload_n dX9_dye_37 rfl 2 rfl ?_
      refine z_iload_n dX9_dye_38 rfl 3 rfl ?_
      refine z_iast (n := 36) rfl (k3.1 h4).2.1 dX9_dye_39 ?_
      refine z_iload_n dX9_dye_40 rfl 0 rfl ?_
      exact z_iret rfl dX9_dye_41 (k3.1 h4).2.2
    ·
      refine z_bipush (v := (-2)) dX9_dye_23 zcbipush_m2 ?_
      exact z_iret rfl dX9_dye_25 (k3.2 h4)
  ·
    refine z_iconst (v := (-1)) dX9_dye_13 zciconst_m1 ?_
    exact z_iret rfl dX9_dye_14 (k1.2 h2)
theorem dX9_dyes_0 : decode cX9_dyes 0 = .ok (.aload_n 0, 1) := by decide +kernel
theorem dX9_dyes_1 : decode cX9_dyes 1 = .ok (.iconst 0, 1) := by decide +kernel
theorem dX9_dyes_2 : decode cX9_dyes 2 = .ok (.putfield 69, 3) := by decide +kernel
theorem dX9_dyes_5 : decode cX9_dyes 5 = .ok (.aload_n 0, 1) := by decide +kernel
theorem dX9_dyes_6 : decode cX9_dyes 6 = .ok (.iload_n 1, 1) := by decide +kernel
theorem dX9_dyes_7 : decode cX9_dyes 7 = .ok (.invokevirtual 102, 3) := by decide +kernel
theorem dX9_dyes_10 : decode cX9_dyes 10 = .ok (.ifCond .ne 13, 3) := by decide +kernel
theorem dX9_dyes_13 : decode cX9_dyes 13 = .ok (.iload_n 2, 1) := by decide +kernel
theorem dX9_dyes_14 : decode cX9_dyes 14 = .ok (.aload_n 0, 1) := by decide +kernel
theorem dX9_dyes_15 : decode cX9_dyes 15 = .ok (.invokevirtual 72, 3) := by decide +kernel
theorem dX9_dyes_18 : decode cX9_dyes 18 = .ok (.iload_n 1, 1) := by decide +kernel
theorem dX9_dyes_19 : decode cX9_dyes 19 = .ok (.isub, 1) := by decide +kernel
theorem dX9_dyes_20 : decode cX9_dyes 20 = .ok (.if_icmp .le 5, 3) := by decide +kernel
theorem dX9_dyes_23 : decode cX9_dyes 23 = .ok (.iconst (-1), 1) := by decide +kernel
theorem dX9_dyes_24 : decode cX9_dyes 24 = .ok (.ireturn, 1) := by decide +kernel
theorem dX9_dyes_25 : decode cX9_dyes 25 = .ok (.iload_n 2, 1) := by decide +kernel
theorem dX9_dyes_26 : decode cX9_dyes 26 = .ok (.i2l, 1) := by decide +kernel
theorem dX9_dyes_27 : decode cX9_dyes 27 = .ok (.lconst 1, 1) := by decide +kernel
theorem dX9_dyes_28 : decode cX9_dyes 28 = .ok (.ldc2_w 108, 3) := by decide +kernel
theorem dX9_dyes_31 : decode cX9_dyes 31 = .ok (.invokestatic 76, 3) := by decide +kernel
theorem dX9_dyes_34 : decode cX9_dyes 34 = .ok (.ifCond .eq 7, 3) := by decide +kernel
theorem dX9_dyes_37 : decode cX9_dyes 37 = .ok (.iload_n 3, 1) := by decide +kernel
theorem dX9_dyes_38 : decode cX9_dyes 38 = .ok (.ifCond .ge 6, 3) := by decide +kernel
theorem dX9_dyes_41 : decode cX9_dyes 41 = .ok (.bipush (-2), 2) := by decide +kernel
theorem dX9_dyes_43 : decode cX9_dyes 43 = .ok (.ireturn, 1) := by decide +kernel
theorem dX9_dyes_44 : decode cX9_dyes 44 = .ok (.iload_n 3, 1) := by decide +kernel
theorem dX9_dyes_45 : decode cX9_dyes 45 = .ok (.istore 4, 2) := by decide +kernel
theorem dX9_dyes_47 : decode cX9_dyes 47 = .ok (.iload_n 2, 1) := by decide +kernel
theorem dX9_dyes_48 : decode cX9_dyes 48 = .ok (.iconst 1, 1) := by decide +kernel
theorem dX9_dyes_49 : decode cX9_dyes 49 = .ok (.isub, 1) := by decide +kernel
theorem dX9_dyes_50 : decode cX9_dyes 50 = .ok (.istore 5, 2) := by decide +kernel
theorem dX9_dyes_52 : decode cX9_dyes 52 = .ok (.iload 5, 2) := by decide +kernel
theorem dX9_dyes_54 : decode cX9_dyes 54 = .ok (.ifCond .lt 43, 3) := by decide +kernel
theorem dX9_dyes_57 : decode cX9_dyes 57 = .ok (.aload_n 0, 1) := by decide +kernel
theorem dX9_dyes_58 : decode cX9_dyes 58 = .ok (.iload 4, 2) := by decide +kernel
theorem dX9_dyes_60 : decode cX9_dyes 60 = .ok (.bipush 10, 2) := by decide +kernel
theorem dX9_dyes_62 : decode cX9_dyes 62 = .ok (.irem, 1) := by decide +kernel
theorem dX9_dyes_63 : decode cX9_dyes 63 = .ok (.invokevirtual 105, 3) := by decide +kernel
theorem dX9_dyes_66 : decode cX9_dyes 66 = .ok (.ifCond .ne 6, 3) := by decide +kernel
theorem dX9_dyes_69 : decode cX9_dyes 69 = .ok (.bipush (-2), 2) := by decide +kernel
theorem dX9_dyes_71 : decode cX9_dyes 71 = .ok (.ireturn, 1) := by decide +kernel
theorem dX9_dyes_72 : decode cX9_dyes 72 = .ok (.aload_n 0, 1) := by decide +kernel
theorem dX9_dyes_73 : decode cX9_dyes 73 = .ok (.getfield 23, 3) := by decide +kernel
theorem dX9_dyes_76 : decode cX9_dyes 76 = .ok (.iload 5, 2) := by decide +kernel
theorem dX9_dyes_78 : decode cX9_dyes 78 = .ok (.iload 4, 2) := by decide +kernel
theorem dX9_dyes_80 : decode cX9_dyes 80 = .ok (.bipush 10, 2) := by decide +kernel
theorem dX9_dyes_82 : decode cX9_dyes 82 = .ok (.irem, 1) := by decide +kernel
theorem dX9_dyes_83 : decode cX9_dyes 83 = .ok (.iastore, 1) := by decide +kernel
theorem dX9_dyes_84 : decode cX9_dyes 84 = .ok (.iload 4, 2) := by decide +kernel
theorem dX9_dyes_86 : decode cX9_dyes 86 = .ok (.bipush 10, 2) := by decide +kernel
theorem dX9_dyes_88 : decode cX9_dyes 88 = .ok (.idiv, 1) := by decide +kernel
theorem dX9_dyes_89 : decode cX9_dyes 89 = .ok (.istore 4, 2) := by decide +kernel
theorem dX9_dyes_91 : decode cX9_dyes 91 = .ok (.iinc 5 (-1), 3) := by decide +kernel
theorem dX9_dyes_94 : decode cX9_dyes 94 = .ok (.goto (-42), 3) := by decide +kernel
theorem dX9_dyes_97 : decode cX9_dyes 97 = .ok (.iload 4, 2) := by decide +kernel
theorem dX9_dyes_99 : decode cX9_dyes 99 = .ok (.ifCond .le 6, 3) := by decide +kernel
theorem dX9_dyes_102 : decode cX9_dyes 102 = .ok (.bipush (-2), 2) := by decide +kernel
theorem dX9_dyes_104 : decode cX9_dyes 104 = .ok (.ireturn, 1) := by decide +kernel
theorem dX9_dyes_105 : decode cX9_dyes 105 = .ok (.iconst 0, 1) := by decide +kernel
theorem dX9_dyes_106 : decode cX9_dyes 106 = .ok (.istore 5, 2) := by decide +kernel
theorem dX9_dyes_108 : decode cX9_dyes 108 = .ok (.iconst 0, 1) := by decide +kernel
theorem dX9_dyes_109 : decode cX9_dyes 109 = .ok (.istore 6, 2) := by decide +kernel
theorem dX9_dyes_111 : decode cX9_dyes 111 = .ok (.iload 6, 2) := by decide +kernel
theorem dX9_dyes_113 : decode cX9_dyes 113 = .ok (.iload_n 2, 1) := by decide +kernel
theorem dX9_dyes_114 : decode cX9_dyes 114 = .ok (.if_icmp .ge 54, 3) := by decide +kernel
theorem dX9_dyes_117 : decode cX9_dyes 117 = .ok (.iload 5, 2) := by decide +kernel
theorem dX9_dyes_119 : decode cX9_dyes 119 = .ok (.aload_n 0, 1) := by decide +kernel
theorem dX9_dyes_120 : decode cX9_dyes 120 = .ok (.getfield 19, 3) := by decide +kernel
theorem dX9_dyes_123 : decode cX9_dyes 123 = .ok (.iload_n 1, 1) := by decide +kernel
theorem dX9_dyes_124 : decode cX9_dyes 124 = .ok (.iload 6, 2) := by decide +kernel
theorem dX9_dyes_126 : decode cX9_dyes 126 = .ok (.iadd, 1) := by decide +kernel
theorem dX9_dyes_127 : decode cX9_dyes 127 = .ok (.iaload, 1) := by decide +kernel
theorem dX9_dyes_128 : decode cX9_dyes 128 = .ok (.aload_n 0, 1) := by decide +kernel
theorem dX9_dyes_129 : decode cX9_dyes 129 = .ok (.getfield 23, 3) := by decide +kernel
theorem dX9_dyes_132 : decode cX9_dyes 132 = .ok (.iload 6, 2) := by decide +kernel
theorem dX9_dyes_134 : decode cX9_dyes 134 = .ok (.iaload, 1) := by decide +kernel
theorem dX9_dyes_135 : decode cX9_dyes 135 = .ok (.if_icmp .ne 7, 3) := by decide +kernel
theorem dX9_dyes_138 : decode cX9_dyes 138 = .ok (.iconst 0, 1) := by decide +kernel
theorem dX9_dyes_139 : decode cX9_dyes 139 = .ok (.goto 4, 3) := by decide +kernel
theorem dX9_dyes_142 : decode cX9_dyes 142 = .ok (.iconst 1, 1) := by decide +kernel
theorem dX9_dyes_143 : decode cX9_dyes 143 = .ok (.iadd, 1) := by decide +kernel
theorem dX9_dyes_144 : decode cX9_dyes 144 = .ok (.istore 5, 2) := by decide +kernel
theorem dX9_dyes_146 : decode cX9_dyes 146 = .ok (.aload_n 0, 1) := by decide +kernel
theorem dX9_dyes_147 : decode cX9_dyes 147 = .ok (.getfield 19, 3) := by decide +kernel
theorem dX9_dyes_150 : decode cX9_dyes 150 = .ok (.iload_n 1, 1) := by decide +kernel
theorem dX9_dyes_151 : decode cX9_dyes 151 = .ok (.iload 6, 2) := by decide +kernel
theorem dX9_dyes_153 : decode cX9_dyes 153 = .ok (.iadd, 1) := by decide +kernel
theorem dX9_dyes_154 : decode cX9_dyes 154 = .ok (.aload_n 0, 1) := by decide +kernel
theorem dX9_dyes_155 : decode cX9_dyes 155 = .ok (.getfield 23, 3) := by decide +kernel
theorem dX9_dyes_158 : decode cX9_dyes 158 = .ok (.iload 6, 2) := by decide +kernel
theorem dX9_dyes_160 : decode cX9_dyes 160 = .ok (.iaload, 1) := by decide +kernel
theorem dX9_dyes_161 : decode cX9_dyes 161 = .ok (.iastore, 1) := by decide +kernel
theorem dX9_dyes_162 : decode cX9_dyes 162 = .ok (.iinc 6 1, 3) := by decide +kernel
theorem dX9_dyes_165 : decode cX9_dyes 165 = .ok (.goto (-54), 3) := by decide +kernel
theorem dX9_dyes_168 : decode cX9_dyes 168 = .ok (.iload 5, 2) := by decide +kernel
theorem dX9_dyes_170 : decode cX9_dyes 170 = .ok (.ireturn, 1) := by decide +kernel
theorem bX9_dyes_0 (x1 : Int32) (x2 : Int32) (x3 : Int32) (mem : zm_Mem) (post : zm_Post) (kk : zm_Call gX9_noCell [.ref 21, .int x1] (zm_st mem 21 0 0) (fun r1 w1 u1 => ((¬ r1 = 0 → post (-1) 0 u1) ∧ (r1 = 0 → zm_Call gX9_cells [.ref 21] u1 (fun r3 w3 u3 => ((x2 ≤ (r3 - x1) → zm_Call gX9_in [.long (Int32.toInt64 x2), .long 1, .long 9] u3 (fun r5 w5 u5 => ((r5 = 0 → post (-2) 0 u5) ∧ (¬ r5 = 0 → ((0 ≤ x3 → zm_Z gX9_dyes post 52 [(0, .ref 21), (1, .int x1), (2, .int x2), (4, .int x3), (5, .int (x2 - 1))] [] u5) ∧ (¬ 0 ≤ x3 → post (-2) 0 u5)))))) ∧ (¬ x2 ≤ (r3 - x1) → post (-1) 0 u3))))))) : zm_Call gX9_dyes [.ref 21, .int x1, .int x2, .int x3] mem post := by
  refine z_entry (by decide) (Nat.le_of_ble_eq_true rfl) ?_
  show zm_Z gX9_dyes post 0 [(0, .ref 21), (1, .int x1), (2, .int x2), (3, .int x3)] [] mem
  refine z_aload_n dX9_dyes_0 rfl 0 rfl ?_
  refine z_iconst (v := 0) dX9_dyes_1 zciconst_0 ?_
  refine z_put (ci := 9) (j := 0) (T := TX9) (ty0 := tyX9) rfl rfl hX9 tyX9_ok nmX9 rfl (by decide) fkX9_69 rfl rfl rfl dX9_dyes_2 ?_
  refine z_aload_n dX9_dyes_5 rfl 0 rfl ?_
  refine z_iload_n dX9_dyes_6 rfl 1 rfl ?_
  refine z_callVi (g' := gX9_noCell) [.int x1] (q := 21) (ci := 9) (T := TX9) rfl rfl ⟨lkX9_102, pdX9_noCell, by decide, by decide⟩ ⟨_, rfl, by decide⟩ rfl (Nat.le_of_ble_eq_true rfl) dX9_dyes_7 (zm_Call.mono kk (fun r1 w1 u1 k1 => ?_))
  refine z_if_ne (tgt := 23) dX9_dyes_10 (by decide) (fun h2 => ?_) (fun h2 => ?_)
  ·
    refine z_iconst (v := (-1)) dX9_dyes_23 zciconst_m1 ?_
    exact z_iret rfl dX9_dyes_24 (k1.1 h2)
  ·
    refine z_iload_n dX9_dyes_13 rfl 2 rfl ?_
    refine z_aload_n dX9_dyes_14 rfl 0 rfl ?_
    refine z_callVi (g' := gX9_cells) [] (q := 21) (ci := 9) (T := TX9) rfl rfl ⟨lkX9_72, pdX9_cells, by decide, by decide⟩ ⟨_, rfl, by decide⟩ rfl (Nat.le_of_ble_eq_true rfl) dX9_dyes_15 (zm_Call.mono (k1.2 h2) (fun r3 w3 u3 k3 => ?_))
    refine z_iload_n dX9_dyes_18 rfl 1 rfl ?_
    refine z_isub dX9_dyes_19 ?_
    refine z_icmp_le (tgt := 25) dX9_dyes_20 (by decide) (fun h4 => ?_) (fun h4 => ?_)
    ·
      refine z_iload_n dX9_dyes_25 rfl 2 rfl ?_
      refine z_i2l dX9_dyes_26 ?_
      refine z_lconst (v := 1) dX9_dyes_27 zclconst_1 ?_
      refine z_ldc2 (v := 9) dX9_dyes_28 fkX9_108 ?_
      refine z_callSi (g' := gX9_in) (st := []) [.long (Int32.toInt64 x2), .long 1, .long 9] ⟨lkX9_76, pdX9_in, by decide, by decide⟩ ⟨_, rfl, by decide⟩ rfl (Nat.le_of_ble_eq_true rfl) dX9_dyes_31 (zm_Call.mono (k3.1 h4) (fun r5 w5 u5 k5 => ?_))
      refine z_if_eq (tgt := 41) dX9_dyes_34 (by decide) (fun h6 => ?_) (fun h6 => ?_)
      ·
        refine z_bipush (v := (-2)) dX9_dyes_41 zcbipush_m2 ?_
        exact z_iret rfl dX9_dyes_43 (k5.1 h6)
      ·
        refine z_iload_n dX9_dyes_37 rfl 3 rfl ?_
        refine z_if_ge (tgt := 44) dX9_dyes_38 (by decide) (fun h7 => ?_) (fun h7 => ?_)
        ·
          refine z_iload_n dX9_dyes_44 rfl 3 rfl ?_
          refine z_istore (lv' := [(4, .int x3), (0, .ref 21), (1, .int x1), (2, .int x2), (3, .int x3)]) dX9_dyes_45 (by decide) rfl ?_
          refine z_iload_n dX9_dyes_47 rfl 3 rfl ?_
          refine z_iconst (v := 1) dX9_dyes_48 zciconst_1 ?_
          refine z_isub dX9_dyes_49 ?_
          refine z_istore (lv' := [(5, .int (x2 - 1)), (4, .int x3), (0, .ref 21), (1, .int x1), (2, .int x2), (3, .int x3)]) dX9_dyes_50 (by decide) rfl ?_
          refine z_sub [2, 3, 4, 1, 0] rfl ?_
          exact ((k5.2 h6).1 h7)
        ·
          refine z_bipush (v := (-2)) dX9_dyes_41 zcbipush_m2 ?_
          exact z_iret rfl dX9_dyes_43 ((k5.2 h6).2 h7)
    ·
      refine z_iconst (v := (-1)) dX9_dyes_23 zciconst_m1 ?_
      exact z_iret rfl dX9_dyes_24 (k3.2 h4)
theorem bX9_dyes_52 (x1 : Int32) (x2 : Int32) (x4 : Int32) (x5 : Int32) (mem : zm_Mem) (post : zm_Post) (kk : ((x5 < 0 → ((x4 ≤ 0 → zm_Z gX9_dyes post 111 [(0, .ref 21), (1, .int x1), (2, .int x2), (5, .int 0), (6, .int 0)] [] mem) ∧ (¬ x4 ≤ 0 → post (-2) 0 mem))) ∧ (¬ x5 < 0 → zm_Call gX9_isColour [.ref 21, .int (x4 - x4 / 10 * 10)] mem (fun r3 w3 u3 => ((¬ r3 = 0 → (vp_in x5 36 ∧ zm_Z gX9_dyes post 52 [(0, .ref 21), (1, .int x1), (2, .int x2), (4, .int (x4 / 10)), (5, .int (x5 + (-1)))] [] (zm_st u3 23 (Int32.toNatClampNeg x5) (x4 - x4 / 10 * 10)))) ∧ (r3 = 0 → post (-2) 0 u3)))))) : zm_Z gX9_dyes post 52 [(0, .ref 21), (1, .int x1), (2, .int x2), (4, .int x4), (5, .int x5)] [] mem := by
  refine z_iload dX9_dyes_52 4 rfl ?_
  refine z_if_lt (tgt := 97) dX9_dyes_54 (by decide) (fun h1 => ?_) (fun h1 => ?_)
  ·
    refine z_iload dX9_dyes_97 3 rfl ?_
    refine z_if_le (tgt := 105) dX9_dyes_99 (by decide) (fun h2 => ?_) (fun h2 => ?_)
    ·
      refine z_iconst (v := 0) dX9_dyes_105 zciconst_0 ?_
      refine z_istore (lv' := [(5, .int 0), (0, .ref 21), (1, .int x1), (2, .int x2), (4, .int x4)]) dX9_dyes_106 (by decide) rfl ?_
      refine z_iconst (v := 0) dX9_dyes_108 zciconst_0 ?_
      refine z_istore (lv' := [(6, .int 0), (5, .int 0), (0, .ref 21), (1, .int x1), (2, .int x2), (4, .int x4)]) dX9_dyes_109 (by decide) rfl ?_
      refine z_sub [2, 3, 4, 1, 0] rfl ?_
      exact ((kk.1 h1).1 h2)
    ·
      refine z_bipush (v := (-2)) dX9_dyes_102 zcbipush_m2 ?_
      exact z_iret rfl dX9_dyes_104 ((kk.1 h1).2 h2)
  ·
    refine z_aload_n dX9_dyes_57 rfl 0 rfl ?_
    refine z_iload dX9_dyes_58 3 rfl ?_
    refine z_bipush (v := 10) dX9_dyes_60 zcbipush_10 ?_
    refine z_irem dX9_dyes_62 (by decide) ?_
    refine z_callVi (g' := gX9_isColour) [.int (x4 - x4 / 10 * 10)] (q := 21) (ci := 9) (T := TX9) rfl rfl ⟨lkX9_105, pdX9_isColour, by decide, by decide⟩ ⟨_, rfl, by decide⟩ rfl (Nat.le_of_ble_eq_true rfl) dX9_dyes_63 (zm_Call.mono (kk.2 h1) (fun r3 w3 u3 k3 => ?_))
    refine z_if_ne (tgt := 72) dX9_dyes_66 (by decide) (fun h4 => ?_) (fun h4 => ?_)
    ·
      refine z_aload_n dX9_dyes_72 rfl 0 rfl ?_
      refine z_getr (ci := 9) (j := 5) (r := 23) (T := TX9) rfl rfl hX9 rfl (by decide) fkX9_23 dX9_dyes_73 ?_
      refine z_iload dX9_dyes_76 4 rfl ?_
      refine z_iload dX9_dyes_78 3 rfl ?_
      refine z_bipush (v := 10) dX9_dyes_80 zcbipush_10 ?_
      refine z_irem dX9_dyes_82 (by decide) ?_
      refine z_iast (n := 36) rfl (k3.1 h4).1 dX9_dyes_83 ?_
      refine z_iload dX9_dyes_84 3 rfl ?_
      refine z_bipush (v := 10) dX9_dyes_86 zcbipush_10 ?_
      refine z_idiv dX9_dyes_88 (by decide) ?_
      refine z_istore (lv' := [(4, .int (x4 / 10)), (0, .ref 21), (1, .int x1), (2, .int x2), (5, .int x5)]) dX9_dyes_89 (by decide) rfl ?_
      refine z_iinc (v := x5 + (-1)) (lv' := [(5, .int (x5 + (-1))), (4, .int (x4 / 10)), (0, .ref 21), (1, .int x1), (2, .int x2)]) dX9_dyes_91 4 rfl (by rw [zciconst_m1]) (by decide) rfl ?_
      refine z_goto (tgt := 52) dX9_dyes_94 (by decide) ?_
      refine z_sub [2, 3, 4, 1, 0] rfl ?_
      exact (k3.1 h4).2
    ·
      refine z_bipush (v := (-2)) dX9_dyes_69 zcbipush_m2 ?_
      exact z_iret rfl dX9_dyes_71 (k3.2 h4)
theorem bX9_dyes_111 (x1 : Int32) (x2 : Int32) (x5 : Int32) (x6 : Int32) (mem : zm_Mem) (post : zm_Post) (kk : ((x2 ≤ x6 → post x5 0 mem) ∧ (¬ x2 ≤ x6 → (vp_in (x1 + x6) 36 ∧ (vp_in x6 36 ∧ ((¬ (mem 22 (Int32.toNatClampNeg (x1 + x6))) = (mem 23 (Int32.toNatClampNeg x6)) → zm_Z gX9_dyes post 143 [(0, .ref 21), (1, .int x1), (2, .int x2), (6, .int x6)] [.int 1, .int x5] mem) ∧ ((mem 22 (Int32.toNatClampNeg (x1 + x6))) = (mem 23 (Int32.toNatClampNeg x6)) → zm_Z gX9_dyes post 143 [(0, .ref 21), (1, .int x1), (2, .int x2), (6, .int x6)] [.int 0, .int x5] mem))))))) : zm_Z gX9_dyes post 111 [(0, .ref 21), (1, .int x1), (2, .int x2), (5, .int x5), (6, .int x6)] [] mem := by
  refine z_iload dX9_dyes_111 4 rfl ?_
  refine z_iload_n dX9_dyes_113 rfl 2 rfl ?_
  refine z_icmp_ge (tgt := 168) dX9_dyes_114 (by decide) (fun h1 => ?_) (fun h1 => ?_)
  ·
    refine z_iload dX9_dyes_168 3 rfl ?_
    exact z_iret rfl dX9_dyes_170 (kk.1 h1)
  ·
    refine z_iload dX9_dyes_117 3 rfl ?_
    refine z_aload_n dX9_dyes_119 rfl 0 rfl ?_
    refine z_getr (ci := 9) (j := 4) (r := 22) (T := TX9) rfl rfl hX9 rfl (by decide) fkX9_19 dX9_dyes_120 ?_
    refine z_iload_n dX9_dyes_123 rfl 1 rfl ?_
    refine z_iload dX9_dyes_124 4 rfl ?_
    refine z_iadd dX9_dyes_126 ?_
    refine z_iald (n := 36) rfl (kk.2 h1).1 dX9_dyes_127 ?_
    refine z_aload_n dX9_dyes_128 rfl 0 rfl ?_
    refine z_getr (ci := 9) (j := 5) (r := 23) (T := TX9) rfl rfl hX9 rfl (by decide) fkX9_23 dX9_dyes_129 ?_
    refine z_iload dX9_dyes_132 4 rfl ?_
    refine z_iald (n := 36) rfl (kk.2 h1).2.1 dX9_dyes_134 ?_
    refine z_icmp_ne (tgt := 142) dX9_dyes_135 (by decide) (fun h2 => ?_) (fun h2 => ?_)
    ·
      refine z_iconst (v := 1) dX9_dyes_142 zciconst_1 ?_
      refine z_sub [0, 1, 2, 4] rfl ?_
      exact ((kk.2 h1).2.2.1 h2)
    ·
      refine z_iconst (v := 0) dX9_dyes_138 zciconst_0 ?_
      refine z_goto (tgt := 143) dX9_dyes_139 (by decide) ?_
      refine z_sub [0, 1, 2, 4] rfl ?_
      exact ((kk.2 h1).2.2.2 h2)
theorem bX9_dyes_143 (x1 : Int32) (x2 : Int32) (x6 : Int32) (s0 : Int32) (s1 : Int32) (mem : zm_Mem) (post : zm_Post) (kk : (vp_in x6 36 ∧ (vp_in (x1 + x6) 36 ∧ zm_Z gX9_dyes post 111 [(0, .ref 21), (1, .int x1), (2, .int x2), (5, .int (s1 + s0)), (6, .int (x6 + 1))] [] (zm_st mem 22 (Int32.toNatClampNeg (x1 + x6)) (mem 23 (Int32.toNatClampNeg x6)))))) : zm_Z gX9_dyes post 143 [(0, .ref 21), (1, .int x1), (2, .int x2), (6, .int x6)] [.int s0, .int s1] mem := by
  refine z_iadd dX9_dyes_143 ?_
  refine z_istore (lv' := [(5, .int (s1 + s0)), (0, .ref 21), (1, .int x1), (2, .int x2), (6, .int x6)]) dX9_dyes_144 (by decide) rfl ?_
  refine z_aload_n dX9_dyes_146 rfl 1 rfl ?_
  refine z_getr (ci := 9) (j := 4) (r := 22) (T := TX9) rfl rfl hX9 rfl (by decide) fkX9_19 dX9_dyes_147 ?_
  refine z_iload_n dX9_dyes_150 rfl 2 rfl ?_
  refine z_iload dX9_dyes_151 4 rfl ?_
  refine z_iadd dX9_dyes_153 ?_
  refine z_aload_n dX9_dyes_154 rfl 1 rfl ?_
  refine z_getr (ci := 9) (j := 5) (r := 23) (T := TX9) rfl rfl hX9 rfl (by decide) fkX9_23 dX9_dyes_155 ?_
  refine z_iload dX9_dyes_158 4 rfl ?_
  refine z_iald (n := 36) rfl kk.1 dX9_dyes_160 ?_
  refine z_iast (n := 36) rfl kk.2.1 dX9_dyes_161 ?_
  refine z_iinc (v := x6 + 1) (lv' := [(6, .int (x6 + 1)), (5, .int (s1 + s0)), (0, .ref 21), (1, .int x1), (2, .int x2)]) dX9_dyes_162 4 rfl (by rw [zciconst_1]) (by decide) rfl ?_
  refine z_goto (tgt := 111) dX9_dyes_165 (by decide) ?_
  refine z_sub [2, 3, 4, 1, 0] rfl ?_
  exact kk.2.2
theorem dX9_at_0 : decode cX9_at 0 = .ok (.aload_n 0, 1) := by decide +kernel
theorem dX9_at_1 : decode cX9_at 1 = .ok (.iconst 0, 1) := by decide +kernel
theorem dX9_at_2 : decode cX9_at 2 = .ok (.putfield 69, 3) := by decide +kernel
theorem dX9_at_5 : decode cX9_at 5 = .ok (.aload_n 0, 1) := by decide +kernel
theorem dX9_at_6 : decode cX9_at 6 = .ok (.iload_n 1, 1) := by decide +kernel
theorem dX9_at_7 : decode cX9_at 7 = .ok (.invokevirtual 102, 3) := by decide +kernel
theorem dX9_at_10 : decode cX9_at 10 = .ok (.ifCond .eq 7, 3) := by decide +kernel
theorem dX9_at_13 : decode cX9_at 13 = .ok (.iconst (-1), 1) := by decide +kernel
theorem dX9_at_14 : decode cX9_at 14 = .ok (.goto 9, 3) := by decide +kernel
theorem dX9_at_17 : decode cX9_at 17 = .ok (.aload_n 0, 1) := by decide +kernel
theorem dX9_at_18 : decode cX9_at 18 = .ok (.getfield 19, 3) := by decide +kernel
theorem dX9_at_21 : decode cX9_at 21 = .ok (.iload_n 1, 1) := by decide +kernel
theorem dX9_at_22 : decode cX9_at 22 = .ok (.iaload, 1) := by decide +kernel
theorem dX9_at_23 : decode cX9_at 23 = .ok (.ireturn, 1) := by decide +kernel
theorem bX9_at_0 (x1 : Int32) (mem : zm_Mem) (post : zm_Post) (kk : zm_Call gX9_noCell [.ref 21, .int x1] (zm_st mem 21 0 0) (fun r1 w1 u1 => ((r1 = 0 → (vp_in x1 36 ∧ post (u1 22 (Int32.toNatClampNeg x1)) 0 u1)) ∧ (¬ r1 = 0 → post (-1) 0 u1)))) : zm_Call gX9_at [.ref 21, .int x1] mem post := by
  refine z_entry (by decide) (Nat.le_of_ble_eq_true rfl) ?_
  show zm_Z gX9_at post 0 [(0, .ref 21), (1, .int x1)] [] mem
  refine z_aload_n dX9_at_0 rfl 0 rfl ?_
  refine z_iconst (v := 0) dX9_at_1 zciconst_0 ?_
  refine z_put (ci := 9) (j := 0) (T := TX9) (ty0 := tyX9) rfl rfl hX9 tyX9_ok nmX9 rfl (by decide) fkX9_69 rfl rfl rfl dX9_at_2 ?_
  refine z_aload_n dX9_at_5 rfl 0 rfl ?_
  refine z_iload_n dX9_at_6 rfl 1 rfl ?_
  refine z_callVi (g' := gX9_noCell) [.int x1] (q := 21) (ci := 9) (T := TX9) rfl rfl ⟨lkX9_102, pdX9_noCell, by decide, by decide⟩ ⟨_, rfl, by decide⟩ rfl (Nat.le_of_ble_eq_true rfl) dX9_at_7 (zm_Call.mono kk (fun r1 w1 u1 k1 => ?_))
  refine z_if_eq (tgt := 17) dX9_at_10 (by decide) (fun h2 => ?_) (fun h2 => ?_)
  ·
    refine z_aload_n dX9_at_17 rfl 0 rfl ?_
    refine z_getr (ci := 9) (j := 4) (r := 22) (T := TX9) rfl rfl hX9 rfl (by decide) fkX9_19 dX9_at_18 ?_
    refine z_iload_n dX9_at_21 rfl 1 rfl ?_
    refine z_iald (n := 36) rfl (k1.1 h2).1 dX9_at_22 ?_
    exact z_iret rfl dX9_at_23 (k1.1 h2).2
  ·
    refine z_iconst (v := (-1)) dX9_at_13 zciconst_m1 ?_
    refine z_goto (tgt := 23) dX9_at_14 (by decide) ?_
    exact z_iret rfl dX9_at_23 (k1.2 h2)
theorem dX9_moves_0 : decode cX9_moves 0 = .ok (.aload_n 0, 1) := by decide +kernel
theorem dX9_moves_1 : decode cX9_moves 1 = .ok (.iconst 0, 1) := by decide +kernel
theorem dX9_moves_2 : decode cX9_moves 2 = .ok (.putfield 69, 3) := by decide +kernel
theorem dX9_moves_5 : decode cX9_moves 5 = .ok (.aload_n 0, 1) := by decide +kernel
theorem dX9_moves_6 : decode cX9_moves 6 = .ok (.getfield 7, 3) := by decide +kernel
theorem dX9_moves_9 : decode cX9_moves 9 = .ok (.aload_n 0, 1) := by decide +kernel
theorem dX9_moves_10 : decode cX9_moves 10 = .ok (.getfield 13, 3) := by decide +kernel
theorem dX9_moves_13 : decode cX9_moves 13 = .ok (.if_icmp .ne 13, 3) := by decide +kernel
theorem dX9_moves_16 : decode cX9_moves 16 = .ok (.bipush 8, 2) := by decide +kernel
theorem dX9_moves_18 : decode cX9_moves 18 = .ok (.aload_n 0, 1) := by decide +kernel
theorem dX9_moves_19 : decode cX9_moves 19 = .ok (.invokevirtual 72, 3) := by decide +kernel
theorem dX9_moves_22 : decode cX9_moves 22 = .ok (.imul, 1) := by decide +kernel
theorem dX9_moves_23 : decode cX9_moves 23 = .ok (.goto 9, 3) := by decide +kernel
theorem dX9_moves_26 : decode cX9_moves 26 = .ok (.iconst 4, 1) := by decide +kernel
theorem dX9_moves_27 : decode cX9_moves 27 = .ok (.aload_n 0, 1) := by decide +kernel
theorem dX9_moves_28 : decode cX9_moves 28 = .ok (.invokevirtual 72, 3) := by decide +kernel
theorem dX9_moves_31 : decode cX9_moves 31 = .ok (.imul, 1) := by decide +kernel
theorem dX9_moves_32 : decode cX9_moves 32 = .ok (.ireturn, 1) := by decide +kernel
theorem bX9_moves_0 (mem : zm_Mem) (post : zm_Post) (kk : ((¬ ((zm_st mem 21 0 0) 21 1) = ((zm_st mem 21 0 0) 21 2) → zm_Call gX9_cells [.ref 21] (zm_st mem 21 0 0) (fun r2 w2 u2 => post (4 * r2) 0 u2)) ∧ (((zm_st mem 21 0 0) 21 1) = ((zm_st mem 21 0 0) 21 2) → zm_Call gX9_cells [.ref 21] (zm_st mem 21 0 0) (fun r3 w3 u3 => post (8 * r3) 0 u3)))) : zm_Call gX9_moves [.ref 21] mem post := by
  refine z_entry (by decide) (Nat.le_of_ble_eq_true rfl) ?_
  show zm_Z gX9_moves post 0 [(0, .ref 21)] [] mem
  refine z_aload_n dX9_moves_0 rfl 0 rfl ?_
  refine z_iconst (v := 0) dX9_moves_1 zciconst_0 ?_
  refine z_put (ci := 9) (j := 0) (T := TX9) (ty0 := tyX9) rfl rfl hX9 tyX9_ok nmX9 rfl (by decide) fkX9_69 rfl rfl rfl dX9_moves_2 ?_
  refine z_aload_n dX9_moves_5 rfl 0 rfl ?_
  refine z_geti (ci := 9) (j := 1) (T := TX9) rfl rfl hX9 rfl (by decide) fkX9_7 dX9_moves_6 ?_
  refine z_aload_n dX9_moves_9 rfl 0 rfl ?_
  refine z_geti (ci := 9) (j := 2) (T := TX9) rfl rfl hX9 rfl (by decide) fkX9_13 dX9_moves_10 ?_
  refine z_icmp_ne (tgt := 26) dX9_moves_13 (by decide) (fun h1 => ?_) (fun h1 => ?_)
  ·
    refine z_iconst (v := 4) dX9_moves_26 zciconst_4 ?_
    refine z_aload_n dX9_moves_27 rfl 0 rfl ?_
    refine z_callVi (g' := gX9_cells) [] (q := 21) (ci := 9) (T := TX9) rfl rfl ⟨lkX9_72, pdX9_cells, by decide, by decide⟩ ⟨_, rfl, by decide⟩ rfl (Nat.le_of_ble_eq_true rfl) dX9_moves_28 (zm_Call.mono (kk.1 h1) (fun r2 w2 u2 k2 => ?_))
    refine z_imul dX9_moves_31 ?_
    exact z_iret rfl dX9_moves_32 k2
  ·
    refine z_bipush (v := 8) dX9_moves_16 zcbipush_8 ?_
    refine z_aload_n dX9_moves_18 rfl 0 rfl ?_
    refine z_callVi (g' := gX9_cells) [] (q := 21) (ci := 9) (T := TX9) rfl rfl ⟨lkX9_72, pdX9_cells, by decide, by decide⟩ ⟨_, rfl, by decide⟩ rfl (Nat.le_of_ble_eq_true rfl) dX9_moves_19 (zm_Call.mono (kk.2 h1) (fun r3 w3 u3 k3 => ?_))
    refine z_imul dX9_moves_22 ?_
    refine z_goto (tgt := 32) dX9_moves_23 (by decide) ?_
    exact z_iret rfl dX9_moves_32 k3
theorem dX9_lead_0 : decode cX9_lead 0 = .ok (.aload_n 0, 1) := by decide +kernel
theorem dX9_lead_1 : decode cX9_lead 1 = .ok (.iconst 0, 1) := by decide +kernel
theorem dX9_lead_2 : decode cX9_lead 2 = .ok (.putfield 69, 3) := by decide +kernel
theorem dX9_lead_5 : decode cX9_lead 5 = .ok (.aload_n 0, 1) := by decide +kernel
theorem dX9_lead_6 : decode cX9_lead 6 = .ok (.iload_n 1, 1) := by decide +kernel
theorem dX9_lead_7 : decode cX9_lead 7 = .ok (.invokevirtual 110, 3) := by decide +kernel
theorem dX9_lead_10 : decode cX9_lead 10 = .ok (.ifCond .ne 11, 3) := by decide +kernel
theorem dX9_lead_13 : decode cX9_lead 13 = .ok (.aload_n 0, 1) := by decide +kernel
theorem dX9_lead_14 : decode cX9_lead 14 = .ok (.iload_n 2, 1) := by decide +kernel
theorem dX9_lead_15 : decode cX9_lead 15 = .ok (.invokevirtual 102, 3) := by decide +kernel
theorem dX9_lead_18 : decode cX9_lead 18 = .ok (.ifCond .eq 7, 3) := by decide +kernel
theorem dX9_lead_21 : decode cX9_lead 21 = .ok (.iconst (-1), 1) := by decide +kernel
theorem dX9_lead_22 : decode cX9_lead 22 = .ok (.goto 9, 3) := by decide +kernel
theorem dX9_lead_25 : decode cX9_lead 25 = .ok (.aload_n 0, 1) := by decide +kernel
theorem dX9_lead_26 : decode cX9_lead 26 = .ok (.iload_n 1, 1) := by decide +kernel
theorem dX9_lead_27 : decode cX9_lead 27 = .ok (.iload_n 2, 1) := by decide +kernel
theorem dX9_lead_28 : decode cX9_lead 28 = .ok (.invokevirtual 113, 3) := by decide +kernel
theorem dX9_lead_31 : decode cX9_lead 31 = .ok (.ireturn, 1) := by decide +kernel
theorem bX9_lead_0 (x1 : Int32) (x2 : Int32) (mem : zm_Mem) (post : zm_Post) (kk : zm_Call gX9_noMove [.ref 21, .int x1] (zm_st mem 21 0 0) (fun r1 w1 u1 => ((¬ r1 = 0 → post (-1) 0 u1) ∧ (r1 = 0 → zm_Call gX9_noCell [.ref 21, .int x2] u1 (fun r3 w3 u3 => ((r3 = 0 → zm_Call gX9_ledTo [.ref 21, .int x1, .int x2] u3 (fun r5 w5 u5 => post r5 0 u5)) ∧ (¬ r3 = 0 → post (-1) 0 u3))))))) : zm_Call gX9_lead [.ref 21, .int x1, .int x2] mem post := by
  refine z_entry (by decide) (Nat.le_of_ble_eq_true rfl) ?_
  show zm_Z gX9_lead post 0 [(0, .ref 21), (1, .int x1), (2, .int x2)] [] mem
  refine z_aload_n dX9_lead_0 rfl 0 rfl ?_
  refine z_iconst (v := 0) dX9_lead_1 zciconst_0 ?_
  refine z_put (ci := 9) (j := 0) (T := TX9) (ty0 := tyX9) rfl rfl hX9 tyX9_ok nmX9 rfl (by decide) fkX9_69 rfl rfl rfl dX9_lead_2 ?_
  refine z_aload_n dX9_lead_5 rfl 0 rfl ?_
  refine z_iload_n dX9_lead_6 rfl 1 rfl ?_
  refine z_callVi (g' := gX9_noMove) [.int x1] (q := 21) (ci := 9) (T := TX9) rfl rfl ⟨lkX9_110, pdX9_noMove, by decide, by decide⟩ ⟨_, rfl, by decide⟩ rfl (Nat.le_of_ble_eq_true rfl) dX9_lead_7 (zm_Call.mono kk (fun r1 w1 u1 k1 => ?_))
  refine z_if_ne (tgt := 21) dX9_lead_10 (by decide) (fun h2 => ?_) (fun h2 => ?_)
  ·
    refine z_iconst (v := (-1)) dX9_lead_21 zciconst_m1 ?_
    refine z_goto (tgt := 31) dX9_lead_22 (by decide) ?_
    exact z_iret rfl dX9_lead_31 (k1.1 h2)
  ·
    refine z_aload_n dX9_lead_13 rfl 0 rfl ?_
    refine z_iload_n dX9_lead_14 rfl 2 rfl ?_
    refine z_callVi (g' := gX9_noCell) [.int x2] (q := 21) (ci := 9) (T := TX9) rfl rfl ⟨lkX9_102, pdX9_noCell, by decide, by decide⟩ ⟨_, rfl, by decide⟩ rfl (Nat.le_of_ble_eq_true rfl) dX9_lead_15 (zm_Call.mono (k1.2 h2) (fun r3 w3 u3 k3 => ?_))
    refine z_if_eq (tgt := 25) dX9_lead_18 (by decide) (fun h4 => ?_) (fun h4 => ?_)
    ·
      refine z_aload_n dX9_lead_25 rfl 0 rfl ?_
      refine z_iload_n dX9_lead_26 rfl 1 rfl ?_
      refine z_iload_n dX9_lead_27 rfl 2 rfl ?_
      refine z_callVi (g' := gX9_ledTo) [.int x1, .int x2] (q := 21) (ci := 9) (T := TX9) rfl rfl ⟨lkX9_113, pdX9_ledTo, by decide, by decide⟩ ⟨_, rfl, by decide⟩ rfl (Nat.le_of_ble_eq_true rfl) dX9_lead_28 (zm_Call.mono (k3.1 h4) (fun r5 w5 u5 k5 => ?_))
      exact z_iret rfl dX9_lead_31 k5
    ·
      refine z_iconst (v := (-1)) dX9_lead_21 zciconst_m1 ?_
      refine z_goto (tgt := 31) dX9_lead_22 (by decide) ?_
      exact z_iret rfl dX9_lead_31 (k3.2 h4)
theorem dX9_turnOf_0 : decode cX9_turnOf 0 = .ok (.iload_n 0, 1) := by decide +kernel
theorem dX9_turnOf_1 : decode cX9_turnOf 1 = .ok (.iconst 1, 1) := by decide +kernel
theorem dX9_turnOf_2 : decode cX9_turnOf 2 = .ok (.iconst 2, 1) := by decide +kernel
theorem dX9_turnOf_3 : decode cX9_turnOf 3 = .ok (.invokestatic 84, 3) := by decide +kernel
theorem dX9_turnOf_6 : decode cX9_turnOf 6 = .ok (.istore_n 2, 1) := by decide +kernel
theorem dX9_turnOf_7 : decode cX9_turnOf 7 = .ok (.iload_n 0, 1) := by decide +kernel
theorem dX9_turnOf_8 : decode cX9_turnOf 8 = .ok (.iconst 1, 1) := by decide +kernel
theorem dX9_turnOf_9 : decode cX9_turnOf 9 = .ok (.iconst 2, 1) := by decide +kernel
theorem dX9_turnOf_10 : decode cX9_turnOf 10 = .ok (.invokestatic 92, 3) := by decide +kernel
theorem dX9_turnOf_13 : decode cX9_turnOf 13 = .ok (.istore_n 3, 1) := by decide +kernel
theorem dX9_turnOf_14 : decode cX9_turnOf 14 = .ok (.iload_n 1, 1) := by decide +kernel
theorem dX9_turnOf_15 : decode cX9_turnOf 15 = .ok (.iload_n 2, 1) := by decide +kernel
theorem dX9_turnOf_16 : decode cX9_turnOf 16 = .ok (.iload_n 3, 1) := by decide +kernel
theorem dX9_turnOf_17 : decode cX9_turnOf 17 = .ok (.invokestatic 84, 3) := by decide +kernel
theorem dX9_turnOf_20 : decode cX9_turnOf 20 = .ok (.istore 4, 2) := by decide +kernel
theorem dX9_turnOf_22 : decode cX9_turnOf 22 = .ok (.iload_n 1, 1) := by decide +kernel
theorem dX9_turnOf_23 : decode cX9_turnOf 23 = .ok (.iload_n 2, 1) := by decide +kernel
theorem dX9_turnOf_24 : decode cX9_turnOf 24 = .ok (.iload_n 3, 1) := by decide +kernel
theorem dX9_turnOf_25 : decode cX9_turnOf 25 = .ok (.invokestatic 92, 3) := by decide +kernel
theorem dX9_turnOf_28 : decode cX9_turnOf 28 = .ok (.istore 5, 2) := by decide +kernel
theorem dX9_turnOf_30 : decode cX9_turnOf 30 = .ok (.iconst 0, 1) := by decide +kernel
theorem dX9_turnOf_31 : decode cX9_turnOf 31 = .ok (.istore 6, 2) := by decide +kernel
theorem dX9_turnOf_33 : decode cX9_turnOf 33 = .ok (.iconst 0, 1) := by decide +kernel
theorem dX9_turnOf_34 : decode cX9_turnOf 34 = .ok (.istore 7, 2) := by decide +kernel
theorem dX9_turnOf_36 : decode cX9_turnOf 36 = .ok (.iload 7, 2) := by decide +kernel
theorem dX9_turnOf_38 : decode cX9_turnOf 38 = .ok (.bipush 8, 2) := by decide +kernel
theorem dX9_turnOf_40 : decode cX9_turnOf 40 = .ok (.if_icmp .ge 42, 3) := by decide +kernel
theorem dX9_turnOf_43 : decode cX9_turnOf 43 = .ok (.iload 7, 2) := by decide +kernel
theorem dX9_turnOf_45 : decode cX9_turnOf 45 = .ok (.iconst 1, 1) := by decide +kernel
theorem dX9_turnOf_46 : decode cX9_turnOf 46 = .ok (.iconst 2, 1) := by decide +kernel
theorem dX9_turnOf_47 : decode cX9_turnOf 47 = .ok (.invokestatic 84, 3) := by decide +kernel
theorem dX9_turnOf_50 : decode cX9_turnOf 50 = .ok (.iload 4, 2) := by decide +kernel
theorem dX9_turnOf_52 : decode cX9_turnOf 52 = .ok (.if_icmp .ne 20, 3) := by decide +kernel
theorem dX9_turnOf_55 : decode cX9_turnOf 55 = .ok (.iload 7, 2) := by decide +kernel
theorem dX9_turnOf_57 : decode cX9_turnOf 57 = .ok (.iconst 1, 1) := by decide +kernel
theorem dX9_turnOf_58 : decode cX9_turnOf 58 = .ok (.iconst 2, 1) := by decide +kernel
theorem dX9_turnOf_59 : decode cX9_turnOf 59 = .ok (.invokestatic 92, 3) := by decide +kernel
theorem dX9_turnOf_62 : decode cX9_turnOf 62 = .ok (.iload 5, 2) := by decide +kernel
theorem dX9_turnOf_64 : decode cX9_turnOf 64 = .ok (.if_icmp .ne 8, 3) := by decide +kernel
theorem dX9_turnOf_67 : decode cX9_turnOf 67 = .ok (.iload 7, 2) := by decide +kernel
theorem dX9_turnOf_69 : decode cX9_turnOf 69 = .ok (.goto 5, 3) := by decide +kernel
theorem dX9_turnOf_72 : decode cX9_turnOf 72 = .ok (.iload 6, 2) := by decide +kernel
theorem dX9_turnOf_74 : decode cX9_turnOf 74 = .ok (.istore 6, 2) := by decide +kernel
theorem dX9_turnOf_76 : decode cX9_turnOf 76 = .ok (.iinc 7 1, 3) := by decide +kernel
theorem dX9_turnOf_79 : decode cX9_turnOf 79 = .ok (.goto (-43), 3) := by decide +kernel
theorem dX9_turnOf_82 : decode cX9_turnOf 82 = .ok (.iload 6, 2) := by decide +kernel
theorem dX9_turnOf_84 : decode cX9_turnOf 84 = .ok (.ireturn, 1) := by decide +kernel
theorem bX9_turnOf_0 (x0 : Int32) (x1 : Int32) (mem : zm_Mem) (post : zm_Post) (kk : zm_Call gX9_turnedX [.int x0, .int 1, .int 2] mem (fun r1 w1 u1 => zm_Call gX9_turnedY [.int x0, .int 1, .int 2] u1 (fun r2 w2 u2 => zm_Call gX9_turnedX [.int x1, .int r1, .int r2] u2 (fun r3 w3 u3 => zm_Call gX9_turnedY [.int x1, .int r1, .int r2] u3 (fun r4 w4 u4 => zm_Z gX9_turnOf post 36 [(4, .int r3), (5, .int r4), (6, .int 0), (7, .int 0)] [] u4))))) : zm_Call gX9_turnOf [.int x0, .int x1] mem post := by
  refine z_entry (by decide) (Nat.le_of_ble_eq_true rfl) ?_
  show zm_Z gX9_turnOf post 0 [(0, .int x0), (1, .int x1)] [] mem
  refine z_iload_n dX9_turnOf_0 rfl 0 rfl ?_
  refine z_iconst (v := 1) dX9_turnOf_1 zciconst_1 ?_
  refine z_iconst (v := 2) dX9_turnOf_2 zciconst_2 ?_
  refine z_callSi (g' := gX9_turnedX) (st := []) [.int x0, .int 1, .int 2] ⟨lkX9_84, pdX9_turnedX, by decide, by decide⟩ ⟨_, rfl, by decide⟩ rfl (Nat.le_of_ble_eq_true rfl) dX9_turnOf_3 (zm_Call.mono kk (fun r1 w1 u1 k1 => ?_))
  refine z_istore_n (lv' := [(2, .int r1), (0, .int x0), (1, .int x1)]) dX9_turnOf_6 rfl (by decide) rfl ?_
  refine z_iload_n dX9_turnOf_7 rfl 1 rfl ?_
  refine z_iconst (v := 1) dX9_turnOf_8 zciconst_1 ?_
  refine z_iconst (v := 2) dX9_turnOf_9 zciconst_2 ?_
  refine z_callSi (g' := gX9_turnedY) (st := []) [.int x0, .int 1, .int 2] ⟨lkX9_92, pdX9_turnedY, by decide, by decide⟩ ⟨_, rfl, by decide⟩ rfl (Nat.le_of_ble_eq_true rfl) dX9_turnOf_10 (zm_Call.mono k1 (fun r2 w2 u2 k2 => ?_))
  refine z_istore_n (lv' := [(3, .int r2), (2, .int r1), (0, .int x0), (1, .int x1)]) dX9_turnOf_13 rfl (by decide) rfl ?_
  refine z_iload_n dX9_turnOf_14 rfl 3 rfl ?_
  refine z_iload_n dX9_turnOf_15 rfl 1 rfl ?_
  refine z_iload_n dX9_turnOf_16 rfl 0 rfl ?_
  refine z_callSi (g' := gX9_turnedX) (st := []) [.int x1, .int r1, .int r2] ⟨lkX9_84, pdX9_turnedX, by decide, by decide⟩ ⟨_, rfl, by decide⟩ rfl (Nat.le_of_ble_eq_true rfl) dX9_turnOf_17 (zm_Call.mono k2 (fun r3 w3 u3 k3 => ?_))
  refine z_istore (lv' := [(4, .int r3), (3, .int r2), (2, .int r1), (0, .int x0), (1, .int x1)]) dX9_turnOf_20 (by decide) rfl ?_
  refine z_iload_n dX9_turnOf_22 rfl 4 rfl ?_
  refine z_iload_n dX9_turnOf_23 rfl 2 rfl ?_
  refine z_iload_n dX9_turnOf_24 rfl 1 rfl ?_
  refine z_callSi (g' := gX9_turnedY) (st := []) [.int x1, .int r1, .int r2] ⟨lkX9_92, pdX9_turnedY, by decide, by decide⟩ ⟨_, rfl, by decide⟩ rfl (Nat.le_of_ble_eq_true rfl) dX9_turnOf_25 (zm_Call.mono k3 (fun r4 w4 u4 k4 => ?_))
  refine z_istore (lv' := [(5, .int r4), (4, .int r3), (3, .int r2), (2, .int r1), (0, .int x0), (1, .int x1)]) dX9_turnOf_28 (by decide) rfl ?_
  refine z_iconst (v := 0) dX9_turnOf_30 zciconst_0 ?_
  refine z_istore (lv' := [(6, .int 0), (5, .int r4), (4, .int r3), (3, .int r2), (2, .int r1), (0, .int x0), (1, .int x1)]) dX9_turnOf_31 (by decide) rfl ?_
  refine z_iconst (v := 0) dX9_turnOf_33 zciconst_0 ?_
  refine z_istore (lv' := [(7, .int 0), (6, .int 0), (5, .int r4), (4, .int r3), (3, .int r2), (2, .int r1), (0, .int x0), (1, .int x1)]) dX9_turnOf_34 (by decide) rfl ?_
  refine z_sub [3, 2, 1, 0] rfl ?_
  exact k4
theorem bX9_turnOf_36 (x4 : Int32) (x5 : Int32) (x6 : Int32) (x7 : Int32) (mem : zm_Mem) (post : zm_Post) (kk : ((8 ≤ x7 → post x6 0 mem) ∧ (¬ 8 ≤ x7 → zm_Call gX9_turnedX [.int x7, .int 1, .int 2] mem (fun r2 w2 u2 => ((¬ r2 = x4 → zm_Z gX9_turnOf post 36 [(4, .int x4), (5, .int x5), (6, .int x6), (7, .int (x7 + 1))] [] u2) ∧ (r2 = x4 → zm_Call gX9_turnedY [.int x7, .int 1, .int 2] u2 (fun r4 w4 u4 => ((¬ r4 = x5 → zm_Z gX9_turnOf post 36 [(4, .int x4), (5, .int x5), (6, .int x6), (7, .int (x7 + 1))] [] u4) ∧ (r4 = x5 → zm_Z gX9_turnOf post 36 [(4, .int x4), (5, .int x5), (6, .int x7), (7, .int (x7 + 1))] [] u4))))))))) : zm_Z gX9_turnOf post 36 [(4, .int x4), (5, .int x5), (6, .int x6), (7, .int x7)] [] mem := by
  refine z_iload dX9_turnOf_36 3 rfl ?_
  refine z_bipush (v := 8) dX9_turnOf_38 zcbipush_8 ?_
  refine z_icmp_ge (tgt := 82) dX9_turnOf_40 (by decide) (fun h1 => ?_) (fun h1 => ?_)
  ·
    refine z_iload dX9_turnOf_82 2 rfl ?_
    exact z_iret rfl dX9_turnOf_84 (kk.1 h1)
  ·
    refine z_iload dX9_turnOf_43 3 rfl ?_
    refine z_iconst (v := 1) dX9_turnOf_45 zciconst_1 ?_
    refine z_iconst (v := 2) dX9_turnOf_46 zciconst_2 ?_
    refine z_callSi (g' := gX9_turnedX) (st := []) [.int x7, .int 1, .int 2] ⟨lkX9_84, pdX9_turnedX, by decide, by decide⟩ ⟨_, rfl, by decide⟩ rfl (Nat.le_of_ble_eq_true rfl) dX9_turnOf_47 (zm_Call.mono (kk.2 h1) (fun r2 w2 u2 k2 => ?_))
    refine z_iload dX9_turnOf_50 0 rfl ?_
    refine z_icmp_ne (tgt := 72) dX9_turnOf_52 (by decide) (fun h3 => ?_) (fun h3 => ?_)
    ·
      refine z_iload dX9_turnOf_72 2 rfl ?_
      refine z_istore (lv' := [(6, .int x6), (4, .int x4), (5, .int x5), (7, .int x7)]) dX9_turnOf_74 (by decide) rfl ?_
      refine z_iinc (v := x7 + 1) (lv' := [(7, .int (x7 + 1)), (6, .int x6), (4, .int x4), (5, .int x5)]) dX9_turnOf_76 3 rfl (by rw [zciconst_1]) (by decide) rfl ?_
      refine z_goto (tgt := 36) dX9_turnOf_79 (by decide) ?_
      refine z_sub [2, 3, 1, 0] rfl ?_
      exact (k2.1 h3)
    ·
      refine z_iload dX9_turnOf_55 3 rfl ?_
      refine z_iconst (v := 1) dX9_turnOf_57 zciconst_1 ?_
      refine z_iconst (v := 2) dX9_turnOf_58 zciconst_2 ?_
      refine z_callSi (g' := gX9_turnedY) (st := []) [.int x7, .int 1, .int 2] ⟨lkX9_92, pdX9_turnedY, by decide, by decide⟩ ⟨_, rfl, by decide⟩ rfl (Nat.le_of_ble_eq_true rfl) dX9_turnOf_59 (zm_Call.mono (k2.2 h3) (fun r4 w4 u4 k4 => ?_))
      refine z_iload dX9_turnOf_62 1 rfl ?_
      refine z_icmp_ne (tgt := 72) dX9_turnOf_64 (by decide) (fun h5 => ?_) (fun h5 => ?_)
      ·
        refine z_iload dX9_turnOf_72 2 rfl ?_
        refine z_istore (lv' := [(6, .int x6), (4, .int x4), (5, .int x5), (7, .int x7)]) dX9_turnOf_74 (by decide) rfl ?_
        refine z_iinc (v := x7 + 1) (lv' := [(7, .int (x7 + 1)), (6, .int x6), (4, .int x4), (5, .int x5)]) dX9_turnOf_76 3 rfl (by rw [zciconst_1]) (by decide) rfl ?_
        refine z_goto (tgt := 36) dX9_turnOf_79 (by decide) ?_
        refine z_sub [2, 3, 1, 0] rfl ?_
        exact (k4.1 h5)
      ·
        refine z_iload dX9_turnOf_67 3 rfl ?_
        refine z_goto (tgt := 74) dX9_turnOf_69 (by decide) ?_
        refine z_istore (lv' := [(6, .int x7), (4, .int x4), (5, .int x5), (7, .int x7)]) dX9_turnOf_74 (by decide) rfl ?_
        refine z_iinc (v := x7 + 1) (lv' := [(7, .int (x7 + 1)), (6, .int x7), (4, .int x4), (5, .int x5)]) dX9_turnOf_76 3 rfl (by rw [zciconst_1]) (by decide) rfl ?_
        refine z_goto (tgt := 36) dX9_turnOf_79 (by decide) ?_
        refine z_sub [2, 3, 1, 0] rfl ?_
        exact (k4.2 h5)
theorem dX9_two_0 : decode cX9_two 0 = .ok (.iload_n 1, 1) := by decide +kernel
theorem dX9_two_1 : decode cX9_two 1 = .ok (.aload_n 0, 1) := by decide +kernel
theorem dX9_two_2 : decode cX9_two 2 = .ok (.invokevirtual 72, 3) := by decide +kernel
theorem dX9_two_5 : decode cX9_two 5 = .ok (.irem, 1) := by decide +kernel
theorem dX9_two_6 : decode cX9_two 6 = .ok (.istore_n 3, 1) := by decide +kernel
theorem dX9_two_7 : decode cX9_two 7 = .ok (.aload_n 0, 1) := by decide +kernel
theorem dX9_two_8 : decode cX9_two 8 = .ok (.invokevirtual 72, 3) := by decide +kernel
theorem dX9_two_11 : decode cX9_two 11 = .ok (.iload_n 1, 1) := by decide +kernel
theorem dX9_two_12 : decode cX9_two 12 = .ok (.aload_n 0, 1) := by decide +kernel
theorem dX9_two_13 : decode cX9_two 13 = .ok (.invokevirtual 72, 3) := by decide +kernel
theorem dX9_two_16 : decode cX9_two 16 = .ok (.idiv, 1) := by decide +kernel
theorem dX9_two_17 : decode cX9_two 17 = .ok (.iload_n 2, 1) := by decide +kernel
theorem dX9_two_18 : decode cX9_two 18 = .ok (.aload_n 0, 1) := by decide +kernel
theorem dX9_two_19 : decode cX9_two 19 = .ok (.invokevirtual 72, 3) := by decide +kernel
theorem dX9_two_22 : decode cX9_two 22 = .ok (.idiv, 1) := by decide +kernel
theorem dX9_two_23 : decode cX9_two 23 = .ok (.invokestatic 116, 3) := by decide +kernel
theorem dX9_two_26 : decode cX9_two 26 = .ok (.imul, 1) := by decide +kernel
theorem dX9_two_27 : decode cX9_two 27 = .ok (.aload_n 0, 1) := by decide +kernel
theorem dX9_two_28 : decode cX9_two 28 = .ok (.iload_n 2, 1) := by decide +kernel
theorem dX9_two_29 : decode cX9_two 29 = .ok (.iload_n 3, 1) := by decide +kernel
theorem dX9_two_30 : decode cX9_two 30 = .ok (.invokevirtual 113, 3) := by decide +kernel
theorem dX9_two_33 : decode cX9_two 33 = .ok (.iadd, 1) := by decide +kernel
theorem dX9_two_34 : decode cX9_two 34 = .ok (.ireturn, 1) := by decide +kernel
theorem bX9_two_0 (x1 : Int32) (x2 : Int32) (mem : zm_Mem) (post : zm_Post) (kk : zm_Call gX9_cells [.ref 21] mem (fun r1 w1 u1 => (¬ r1 = 0 ∧ zm_Call gX9_cells [.ref 21] u1 (fun r2 w2 u2 => zm_Call gX9_cells [.ref 21] u2 (fun r3 w3 u3 => (¬ r3 = 0 ∧ zm_Call gX9_cells [.ref 21] u3 (fun r4 w4 u4 => (¬ r4 = 0 ∧ zm_Call gX9_turnOf [.int (x1 / r3), .int (x2 / r4)] u4 (fun r5 w5 u5 => zm_Call gX9_ledTo [.ref 21, .int x2, .int (x1 - x1 / r1 * r1)] u5 (fun r6 w6 u6 => post ((r2 * r5) + r6) 0 u6)))))))))) : zm_Call gX9_two [.ref 21, .int x1, .int x2] mem post := by
  refine z_entry (by decide) (Nat.le_of_ble_eq_true rfl) ?_
  show zm_Z gX9_two post 0 [(0, .ref 21), (1, .int x1), (2, .int x2)] [] mem
  refine z_iload_n dX9_two_0 rfl 1 rfl ?_
  refine z_aload_n dX9_two_1 rfl 0 rfl ?_
  refine z_callVi (g' := gX9_cells) [] (q := 21) (ci := 9) (T := TX9) rfl rfl ⟨lkX9_72, pdX9_cells, by decide, by decide⟩ ⟨_, rfl, by decide⟩ rfl (Nat.le_of_ble_eq_true rfl) dX9_two_2 (zm_Call.mono kk (fun r1 w1 u1 k1 => ?_))
  refine z_irem dX9_two_5 k1.1 ?_
  refine z_istore_n (lv' := [(3, .int (x1 - x1 / r1 * r1)), (0, .ref 21), (1, .int x1), (2, .int x2)]) dX9_two_6 rfl (by decide) rfl ?_
  refine z_aload_n dX9_two_7 rfl 1 rfl ?_
  refine z_callVi (g' := gX9_cells) [] (q := 21) (ci := 9) (T := TX9) rfl rfl ⟨lkX9_72, pdX9_cells, by decide, by decide⟩ ⟨_, rfl, by decide⟩ rfl (Nat.le_of_ble_eq_true rfl) dX9_two_8 (zm_Call.mono k1.2 (fun r2 w2 u2 k2 => ?_))
  refine z_iload_n dX9_two_11 rfl 2 rfl ?_
  refine z_aload_n dX9_two_12 rfl 1 rfl ?_
  refine z_callVi (g' := gX9_cells) [] (q := 21) (ci := 9) (T := TX9) rfl rfl ⟨lkX9_72, pdX9_cells, by decide, by decide⟩ ⟨_, rfl, by decide⟩ rfl (Nat.le_of_ble_eq_true rfl) dX9_two_13 (zm_Call.mono k2 (fun r3 w3 u3 k3 => ?_))
  refine z_idiv dX9_two_16 k3.1 ?_
  refine z_iload_n dX9_two_17 rfl 3 rfl ?_
  refine z_aload_n dX9_two_18 rfl 1 rfl ?_
  refine z_callVi (g' := gX9_cells) [] (q := 21) (ci := 9) (T := TX9) rfl rfl ⟨lkX9_72, pdX9_cells, by decide, by decide⟩ ⟨_, rfl, by decide⟩ rfl (Nat.le_of_ble_eq_true rfl) dX9_two_19 (zm_Call.mono k3.2 (fun r4 w4 u4 k4 => ?_))
  refine z_idiv dX9_two_22 k4.1 ?_
  refine z_callSi (g' := gX9_turnOf) (st := [.int r2]) [.int (x1 / r3), .int (x2 / r4)] ⟨lkX9_116, pdX9_turnOf, by decide, by decide⟩ ⟨_, rfl, by decide⟩ rfl (Nat.le_of_ble_eq_true rfl) dX9_two_23 (zm_Call.mono k4.2 (fun r5 w5 u5 k5 => ?_))
  refine z_imul dX9_two_26 ?_
  refine z_aload_n dX9_two_27 rfl 1 rfl ?_
  refine z_iload_n dX9_two_28 rfl 3 rfl ?_
  refine z_iload_n dX9_two_29 rfl 0 rfl ?_
  refine z_callVi (g' := gX9_ledTo) [.int x2, .int (x1 - x1 / r1 * r1)] (q := 21) (ci := 9) (T := TX9) rfl rfl ⟨lkX9_113, pdX9_ledTo, by decide, by decide⟩ ⟨_, rfl, by decide⟩ rfl (Nat.le_of_ble_eq_true rfl) dX9_two_30 (zm_Call.mono k5 (fun r6 w6 u6 k6 => ?_))
  refine z_iadd dX9_two_33 ?_
  exact z_iret rfl dX9_two_34 k6
theorem dX9_behind_0 : decode cX9_behind 0 = .ok (.aload_n 0, 1) := by decide +kernel
theorem dX9_behind_1 : decode cX9_behind 1 = .ok (.iconst 0, 1) := by decide +kernel
theorem dX9_behind_2 : decode cX9_behind 2 = .ok (.putfield 69, 3) := by decide +kernel
theorem dX9_behind_5 : decode cX9_behind 5 = .ok (.aload_n 0, 1) := by decide +kernel
theorem dX9_behind_6 : decode cX9_behind 6 = .ok (.iload_n 1, 1) := by decide +kernel
theorem dX9_behind_7 : decode cX9_behind 7 = .ok (.invokevirtual 110, 3) := by decide +kernel
theorem dX9_behind_10 : decode cX9_behind 10 = .ok (.ifCond .ne 11, 3) := by decide +kernel
theorem dX9_behind_13 : decode cX9_behind 13 = .ok (.aload_n 0, 1) := by decide +kernel
theorem dX9_behind_14 : decode cX9_behind 14 = .ok (.iload_n 2, 1) := by decide +kernel
theorem dX9_behind_15 : decode cX9_behind 15 = .ok (.invokevirtual 110, 3) := by decide +kernel
theorem dX9_behind_18 : decode cX9_behind 18 = .ok (.ifCond .eq 7, 3) := by decide +kernel
theorem dX9_behind_21 : decode cX9_behind 21 = .ok (.iconst (-1), 1) := by decide +kernel
theorem dX9_behind_22 : decode cX9_behind 22 = .ok (.goto 9, 3) := by decide +kernel
theorem dX9_behind_25 : decode cX9_behind 25 = .ok (.aload_n 0, 1) := by decide +kernel
theorem dX9_behind_26 : decode cX9_behind 26 = .ok (.iload_n 1, 1) := by decide +kernel
theorem dX9_behind_27 : decode cX9_behind 27 = .ok (.iload_n 2, 1) := by decide +kernel
theorem dX9_behind_28 : decode cX9_behind 28 = .ok (.invokevirtual 119, 3) := by decide +kernel
theorem dX9_behind_31 : decode cX9_behind 31 = .ok (.ireturn, 1) := by decide +kernel
theorem bX9_behind_0 (x1 : Int32) (x2 : Int32) (mem : zm_Mem) (post : zm_Post) (kk : zm_Call gX9_noMove [.ref 21, .int x1] (zm_st mem 21 0 0) (fun r1 w1 u1 => ((¬ r1 = 0 → post (-1) 0 u1) ∧ (r1 = 0 → zm_Call gX9_noMove [.ref 21, .int x2] u1 (fun r3 w3 u3 => ((r3 = 0 → zm_Call gX9_two [.ref 21, .int x1, .int x2] u3 (fun r5 w5 u5 => post r5 0 u5)) ∧ (¬ r3 = 0 → post (-1) 0 u3))))))) : zm_Call gX9_behind [.ref 21, .int x1, .int x2] mem post := by
  refine z_entry (by decide) (Nat.le_of_ble_eq_true rfl) ?_
  show zm_Z gX9_behind post 0 [(0, .ref 21), (1, .int x1), (2, .int x2)] [] mem
  refine z_aload_n dX9_behind_0 rfl 0 rfl ?_
  refine z_iconst (v := 0) dX9_behind_1 zciconst_0 ?_
  refine z_put (ci := 9) (j := 0) (T := TX9) (ty0 := tyX9) rfl rfl hX9 tyX9_ok nmX9 rfl (by decide) fkX9_69 rfl rfl rfl dX9_behind_2 ?_
  refine z_aload_n dX9_behind_5 rfl 0 rfl ?_
  refine z_iload_n dX9_behind_6 rfl 1 rfl ?_
  refine z_callVi (g' := gX9_noMove) [.int x1] (q := 21) (ci := 9) (T := TX9) rfl rfl ⟨lkX9_110, pdX9_noMove, by decide, by decide⟩ ⟨_, rfl, by decide⟩ rfl (Nat.le_of_ble_eq_true rfl) dX9_behind_7 (zm_Call.mono kk (fun r1 w1 u1 k1 => ?_))
  refine z_if_ne (tgt := 21) dX9_behind_10 (by decide) (fun h2 => ?_) (fun h2 => ?_)
  ·
    refine z_iconst (v := (-1)) dX9_behind_21 zciconst_m1 ?_
    refine z_goto (tgt := 31) dX9_behind_22 (by decide) ?_
    exact z_iret rfl dX9_behind_31 (k1.1 h2)
  ·
    refine z_aload_n dX9_behind_13 rfl 0 rfl ?_
    refine z_iload_n dX9_behind_14 rfl 2 rfl ?_
    refine z_callVi (g' := gX9_noMove) [.int x2] (q := 21) (ci := 9) (T := TX9) rfl rfl ⟨lkX9_110, pdX9_noMove, by decide, by decide⟩ ⟨_, rfl, by decide⟩ rfl (Nat.le_of_ble_eq_true rfl) dX9_behind_15 (zm_Call.mono (k1.2 h2) (fun r3 w3 u3 k3 => ?_))
    refine z_if_eq (tgt := 25) dX9_behind_18 (by decide) (fun h4 => ?_) (fun h4 => ?_)
    ·
      refine z_aload_n dX9_behind_25 rfl 0 rfl ?_
      refine z_iload_n dX9_behind_26 rfl 1 rfl ?_
      refine z_iload_n dX9_behind_27 rfl 2 rfl ?_
      refine z_callVi (g' := gX9_two) [.int x1, .int x2] (q := 21) (ci := 9) (T := TX9) rfl rfl ⟨lkX9_119, pdX9_two, by decide, by decide⟩ ⟨_, rfl, by decide⟩ rfl (Nat.le_of_ble_eq_true rfl) dX9_behind_28 (zm_Call.mono (k3.1 h4) (fun r5 w5 u5 k5 => ?_))
      exact z_iret rfl dX9_behind_31 k5
    ·
      refine z_iconst (v := (-1)) dX9_behind_21 zciconst_m1 ?_
      refine z_goto (tgt := 31) dX9_behind_22 (by decide) ?_
      exact z_iret rfl dX9_behind_31 (k3.2 h4)
theorem dX9_back_0 : decode cX9_back 0 = .ok (.aload_n 0, 1) := by decide +kernel
theorem dX9_back_1 : decode cX9_back 1 = .ok (.iconst 0, 1) := by decide +kernel
theorem dX9_back_2 : decode cX9_back 2 = .ok (.putfield 69, 3) := by decide +kernel
theorem dX9_back_5 : decode cX9_back 5 = .ok (.aload_n 0, 1) := by decide +kernel
theorem dX9_back_6 : decode cX9_back 6 = .ok (.iload_n 1, 1) := by decide +kernel
theorem dX9_back_7 : decode cX9_back 7 = .ok (.invokevirtual 110, 3) := by decide +kernel
theorem dX9_back_10 : decode cX9_back 10 = .ok (.ifCond .eq 5, 3) := by decide +kernel
theorem dX9_back_13 : decode cX9_back 13 = .ok (.iconst (-1), 1) := by decide +kernel
theorem dX9_back_14 : decode cX9_back 14 = .ok (.ireturn, 1) := by decide +kernel
theorem dX9_back_15 : decode cX9_back 15 = .ok (.iconst 0, 1) := by decide +kernel
theorem dX9_back_16 : decode cX9_back 16 = .ok (.istore_n 2, 1) := by decide +kernel
theorem dX9_back_17 : decode cX9_back 17 = .ok (.aload_n 0, 1) := by decide +kernel
theorem dX9_back_18 : decode cX9_back 18 = .ok (.iload_n 2, 1) := by decide +kernel
theorem dX9_back_19 : decode cX9_back 19 = .ok (.invokevirtual 110, 3) := by decide +kernel
theorem dX9_back_22 : decode cX9_back 22 = .ok (.ifCond .ne 12, 3) := by decide +kernel
theorem dX9_back_25 : decode cX9_back 25 = .ok (.aload_n 0, 1) := by decide +kernel
theorem dX9_back_26 : decode cX9_back 26 = .ok (.iload_n 1, 1) := by decide +kernel
theorem dX9_back_27 : decode cX9_back 27 = .ok (.iload_n 2, 1) := by decide +kernel
theorem dX9_back_28 : decode cX9_back 28 = .ok (.invokevirtual 119, 3) := by decide +kernel
theorem dX9_back_31 : decode cX9_back 31 = .ok (.ifCond .eq 9, 3) := by decide +kernel
theorem dX9_back_34 : decode cX9_back 34 = .ok (.iinc 2 1, 3) := by decide +kernel
theorem dX9_back_37 : decode cX9_back 37 = .ok (.goto (-20), 3) := by decide +kernel
theorem dX9_back_40 : decode cX9_back 40 = .ok (.iload_n 2, 1) := by decide +kernel
theorem dX9_back_41 : decode cX9_back 41 = .ok (.ireturn, 1) := by decide +kernel
theorem bX9_back_0 (x1 : Int32) (mem : zm_Mem) (post : zm_Post) (kk : zm_Call gX9_noMove [.ref 21, .int x1] (zm_st mem 21 0 0) (fun r1 w1 u1 => ((r1 = 0 → zm_Z gX9_back post 17 [(0, .ref 21), (1, .int x1), (2, .int 0)] [] u1) ∧ (¬ r1 = 0 → post (-1) 0 u1)))) : zm_Call gX9_back [.ref 21, .int x1] mem post := by
  refine z_entry (by decide) (Nat.le_of_ble_eq_true rfl) ?_
  show zm_Z gX9_back post 0 [(0, .ref 21), (1, .int x1)] [] mem
  refine z_aload_n dX9_back_0 rfl 0 rfl ?_
  refine z_iconst (v := 0) dX9_back_1 zciconst_0 ?_
  refine z_put (ci := 9) (j := 0) (T := TX9) (ty0 := tyX9) rfl rfl hX9 tyX9_ok nmX9 rfl (by decide) fkX9_69 rfl rfl rfl dX9_back_2 ?_
  refine z_aload_n dX9_back_5 rfl 0 rfl ?_
  refine z_iload_n dX9_back_6 rfl 1 rfl ?_
  refine z_callVi (g' := gX9_noMove) [.int x1] (q := 21) (ci := 9) (T := TX9) rfl rfl ⟨lkX9_110, pdX9_noMove, by decide, by decide⟩ ⟨_, rfl, by decide⟩ rfl (Nat.le_of_ble_eq_true rfl) dX9_back_7 (zm_Call.mono kk (fun r1 w1 u1 k1 => ?_))
  refine z_if_eq (tgt := 15) dX9_back_10 (by decide) (fun h2 => ?_) (fun h2 => ?_)
  ·
    refine z_iconst (v := 0) dX9_back_15 zciconst_0 ?_
    refine z_istore_n (lv' := [(2, .int 0), (0, .ref 21), (1, .int x1)]) dX9_back_16 rfl (by decide) rfl ?_
    refine z_sub [1, 2, 0] rfl ?_
    exact (k1.1 h2)
  ·
    refine z_iconst (v := (-1)) dX9_back_13 zciconst_m1 ?_
    exact z_iret rfl dX9_back_14 (k1.2 h2)
theorem bX9_back_17 (x1 : Int32) (x2 : Int32) (mem : zm_Mem) (post : zm_Post) (kk : zm_Call gX9_noMove [.ref 21, .int x2] mem (fun r1 w1 u1 => ((¬ r1 = 0 → zm_Z gX9_back post 17 [(0, .ref 21), (1, .int x1), (2, .int (x2 + 1))] [] u1) ∧ (r1 = 0 → zm_Call gX9_two [.ref 21, .int x1, .int x2] u1 (fun r3 w3 u3 => ((r3 = 0 → post x2 0 u3) ∧ (¬ r3 = 0 → zm_Z gX9_back post 17 [(0, .ref 21), (1, .int x1), (2, .int (x2 + 1))] [] u3))))))) : zm_Z gX9_back post 17 [(0, .ref 21), (1, .int x1), (2, .int x2)] [] mem := by
  refine z_aload_n dX9_back_17 rfl 0 rfl ?_
  refine z_iload_n dX9_back_18 rfl 2 rfl ?_
  refine z_callVi (g' := gX9_noMove) [.int x2] (q := 21) (ci := 9) (T := TX9) rfl rfl ⟨lkX9_110, pdX9_noMove, by decide, by decide⟩ ⟨_, rfl, by decide⟩ rfl (Nat.le_of_ble_eq_true rfl) dX9_back_19 (zm_Call.mono kk (fun r1 w1 u1 k1 => ?_))
  refine z_if_ne (tgt := 34) dX9_back_22 (by decide) (fun h2 => ?_) (fun h2 => ?_)
  ·
    refine z_iinc (v := x2 + 1) (lv' := [(2, .int (x2 + 1)), (0, .ref 21), (1, .int x1)]) dX9_back_34 2 rfl (by rw [zciconst_1]) (by decide) rfl ?_
    refine z_goto (tgt := 17) dX9_back_37 (by decide) ?_
    refine z_sub [1, 2, 0] rfl ?_
    exact (k1.1 h2)
  ·
    refine z_aload_n dX9_back_25 rfl 0 rfl ?_
    refine z_iload_n dX9_back_26 rfl 1 rfl ?_
    refine z_iload_n dX9_back_27 rfl 2 rfl ?_
    refine z_callVi (g' := gX9_two) [.int x1, .int x2] (q := 21) (ci := 9) (T := TX9) rfl rfl ⟨lkX9_119, pdX9_two, by decide, by decide⟩ ⟨_, rfl, by decide⟩ rfl (Nat.le_of_ble_eq_true rfl) dX9_back_28 (zm_Call.mono (k1.2 h2) (fun r3 w3 u3 k3 => ?_))
    refine z_if_eq (tgt := 40) dX9_back_31 (by decide) (fun h4 => ?_) (fun h4 => ?_)
    ·
      refine z_iload_n dX9_back_40 rfl 2 rfl ?_
      exact z_iret rfl dX9_back_41 (k3.1 h4)
    ·
      refine z_iinc (v := x2 + 1) (lv' := [(2, .int (x2 + 1)), (0, .ref 21), (1, .int x1)]) dX9_back_34 2 rfl (by rw [zciconst_1]) (by decide) rfl ?_
      refine z_goto (tgt := 17) dX9_back_37 (by decide) ?_
      refine z_sub [1, 2, 0] rfl ?_
      exact (k3.2 h4)
theorem dX9_order_0 : decode cX9_order 0 = .ok (.aload_n 0, 1) := by decide +kernel
theorem dX9_order_1 : decode cX9_order 1 = .ok (.iconst 0, 1) := by decide +kernel
theorem dX9_order_2 : decode cX9_order 2 = .ok (.putfield 69, 3) := by decide +kernel
theorem dX9_order_5 : decode cX9_order 5 = .ok (.aload_n 0, 1) := by decide +kernel
theorem dX9_order_6 : decode cX9_order 6 = .ok (.iload_n 1, 1) := by decide +kernel
theorem dX9_order_7 : decode cX9_order 7 = .ok (.invokevirtual 110, 3) := by decide +kernel
theorem dX9_order_10 : decode cX9_order 10 = .ok (.ifCond .eq 5, 3) := by decide +kernel
theorem dX9_order_13 : decode cX9_order 13 = .ok (.iconst (-1), 1) := by decide +kernel
theorem dX9_order_14 : decode cX9_order 14 = .ok (.ireturn, 1) := by decide +kernel
theorem dX9_order_15 : decode cX9_order 15 = .ok (.iconst 0, 1) := by decide +kernel
theorem dX9_order_16 : decode cX9_order 16 = .ok (.istore_n 2, 1) := by decide +kernel
theorem dX9_order_17 : decode cX9_order 17 = .ok (.iload_n 2, 1) := by decide +kernel
theorem dX9_order_18 : decode cX9_order 18 = .ok (.aload_n 0, 1) := by decide +kernel
theorem dX9_order_19 : decode cX9_order 19 = .ok (.invokevirtual 72, 3) := by decide +kernel
theorem dX9_order_22 : decode cX9_order 22 = .ok (.if_icmp .ge 16, 3) := by decide +kernel
theorem dX9_order_25 : decode cX9_order 25 = .ok (.aload_n 0, 1) := by decide +kernel
theorem dX9_order_26 : decode cX9_order 26 = .ok (.getfield 23, 3) := by decide +kernel
theorem dX9_order_29 : decode cX9_order 29 = .ok (.iload_n 2, 1) := by decide +kernel
theorem dX9_order_30 : decode cX9_order 30 = .ok (.iload_n 2, 1) := by decide +kernel
theorem dX9_order_31 : decode cX9_order 31 = .ok (.iastore, 1) := by decide +kernel
theorem dX9_order_32 : decode cX9_order 32 = .ok (.iinc 2 1, 3) := by decide +kernel
theorem dX9_order_35 : decode cX9_order 35 = .ok (.goto (-18), 3) := by decide +kernel
theorem dX9_order_38 : decode cX9_order 38 = .ok (.iconst 0, 1) := by decide +kernel
theorem dX9_order_39 : decode cX9_order 39 = .ok (.istore_n 2, 1) := by decide +kernel
theorem dX9_order_40 : decode cX9_order 40 = .ok (.iconst 0, 1) := by decide +kernel
theorem dX9_order_41 : decode cX9_order 41 = .ok (.istore_n 3, 1) := by decide +kernel
theorem dX9_order_42 : decode cX9_order 42 = .ok (.iload_n 3, 1) := by decide +kernel
theorem dX9_order_43 : decode cX9_order 43 = .ok (.ifCond .ne 70, 3) := by decide +kernel
theorem dX9_order_46 : decode cX9_order 46 = .ok (.iconst 1, 1) := by decide +kernel
theorem dX9_order_47 : decode cX9_order 47 = .ok (.istore_n 3, 1) := by decide +kernel
theorem dX9_order_48 : decode cX9_order 48 = .ok (.iconst 0, 1) := by decide +kernel
theorem dX9_order_49 : decode cX9_order 49 = .ok (.istore 4, 2) := by decide +kernel
theorem dX9_order_51 : decode cX9_order 51 = .ok (.iload 4, 2) := by decide +kernel
theorem dX9_order_53 : decode cX9_order 53 = .ok (.aload_n 0, 1) := by decide +kernel
theorem dX9_order_54 : decode cX9_order 54 = .ok (.invokevirtual 72, 3) := by decide +kernel
theorem dX9_order_57 : decode cX9_order 57 = .ok (.if_icmp .ge 50, 3) := by decide +kernel
theorem dX9_order_60 : decode cX9_order 60 = .ok (.aload_n 0, 1) := by decide +kernel
theorem dX9_order_61 : decode cX9_order 61 = .ok (.getfield 23, 3) := by decide +kernel
theorem dX9_order_64 : decode cX9_order 64 = .ok (.iload 4, 2) := by decide +kernel
theorem dX9_order_66 : decode cX9_order 66 = .ok (.aload_n 0, 1) := by decide +kernel
theorem dX9_order_67 : decode cX9_order 67 = .ok (.iload_n 1, 1) := by decide +kernel
theorem dX9_order_68 : decode cX9_order 68 = .ok (.aload_n 0, 1) := by decide +kernel
theorem dX9_order_69 : decode cX9_order 69 = .ok (.getfield 23, 3) := by decide +kernel
theorem dX9_order_72 : decode cX9_order 72 = .ok (.iload 4, 2) := by decide +kernel
theorem dX9_order_74 : decode cX9_order 74 = .ok (.iaload, 1) := by decide +kernel
theorem dX9_order_75 : decode cX9_order 75 = .ok (.invokevirtual 113, 3) := by decide +kernel
theorem dX9_order_78 : decode cX9_order 78 = .ok (.iastore, 1) := by decide +kernel
theorem dX9_order_79 : decode cX9_order 79 = .ok (.iload_n 3, 1) := by decide +kernel
theorem dX9_order_80 : decode cX9_order 80 = .ok (.ifCond .eq 19, 3) := by decide +kernel
theorem dX9_order_83 : decode cX9_order 83 = .ok (.aload_n 0, 1) := by decide +kernel
theorem dX9_order_84 : decode cX9_order 84 = .ok (.getfield 23, 3) := by decide +kernel
theorem dX9_order_87 : decode cX9_order 87 = .ok (.iload 4, 2) := by decide +kernel
theorem dX9_order_89 : decode cX9_order 89 = .ok (.iaload, 1) := by decide +kernel
theorem dX9_order_90 : decode cX9_order 90 = .ok (.iload 4, 2) := by decide +kernel
theorem dX9_order_92 : decode cX9_order 92 = .ok (.if_icmp .ne 7, 3) := by decide +kernel
theorem dX9_order_95 : decode cX9_order 95 = .ok (.iconst 1, 1) := by decide +kernel
theorem dX9_order_96 : decode cX9_order 96 = .ok (.goto 4, 3) := by decide +kernel
theorem dX9_order_99 : decode cX9_order 99 = .ok (.iconst 0, 1) := by decide +kernel
theorem dX9_order_100 : decode cX9_order 100 = .ok (.istore_n 3, 1) := by decide +kernel
theorem dX9_order_101 : decode cX9_order 101 = .ok (.iinc 4 1, 3) := by decide +kernel
theorem dX9_order_104 : decode cX9_order 104 = .ok (.goto (-53), 3) := by decide +kernel
theorem dX9_order_107 : decode cX9_order 107 = .ok (.iinc 2 1, 3) := by decide +kernel
theorem dX9_order_110 : decode cX9_order 110 = .ok (.goto (-68), 3) := by decide +kernel
theorem dX9_order_113 : decode cX9_order 113 = .ok (.iload_n 2, 1) := by decide +kernel
theorem dX9_order_114 : decode cX9_order 114 = .ok (.ireturn, 1) := by decide +kernel
theorem bX9_order_0 (x1 : Int32) (mem : zm_Mem) (post : zm_Post) (kk : zm_Call gX9_noMove [.ref 21, .int x1] (zm_st mem 21 0 0) (fun r1 w1 u1 => ((r1 = 0 → zm_Z gX9_order post 17 [(0, .ref 21), (1, .int x1), (2, .int 0)] [] u1) ∧ (¬ r1 = 0 → post (-1) 0 u1)))) : zm_Call gX9_order [.ref 21, .int x1] mem post := by
  refine z_entry (by decide) (Nat.le_of_ble_eq_true rfl) ?_
  show zm_Z gX9_order post 0 [(0, .ref 21), (1, .int x1)] [] mem
  refine z_aload_n dX9_order_0 rfl 0 rfl ?_
  refine z_iconst (v := 0) dX9_order_1 zciconst_0 ?_
  refine z_put (ci := 9) (j := 0) (T := TX9) (ty0 := tyX9) rfl rfl hX9 tyX9_ok nmX9 rfl (by decide) fkX9_69 rfl rfl rfl dX9_order_2 ?_
  refine z_aload_n dX9_order_5 rfl 0 rfl ?_
  refine z_iload_n dX9_order_6 rfl 1 rfl ?_
  refine z_callVi (g' := gX9_noMove) [.int x1] (q := 21) (ci := 9) (T := TX9) rfl rfl ⟨lkX9_110, pdX9_noMove, by decide, by decide⟩ ⟨_, rfl, by decide⟩ rfl (Nat.le_of_ble_eq_true rfl) dX9_order_7 (zm_Call.mono kk (fun r1 w1 u1 k1 => ?_))
  refine z_if_eq (tgt := 15) dX9_order_10 (by decide) (fun h2 => ?_) (fun h2 => ?_)
  ·
    refine z_iconst (v := 0) dX9_order_15 zciconst_0 ?_
    refine z_istore_n (lv' := [(2, .int 0), (0, .ref 21), (1, .int x1)]) dX9_order_16 rfl (by decide) rfl ?_
    refine z_sub [1, 2, 0] rfl ?_
    exact (k1.1 h2)
  ·
    refine z_iconst (v := (-1)) dX9_order_13 zciconst_m1 ?_
    exact z_iret rfl dX9_order_14 (k1.2 h2)
theorem bX9_order_17 (x1 : Int32) (x2 : Int32) (mem : zm_Mem) (post : zm_Post) (kk : zm_Call gX9_cells [.ref 21] mem (fun r1 w1 u1 => ((r1 ≤ x2 → zm_Z gX9_order post 42 [(0, .ref 21), (1, .int x1), (2, .int 0), (3, .int 0)] [] u1) ∧ (¬ r1 ≤ x2 → (vp_in x2 36 ∧ zm_Z gX9_order post 17 [(0, .ref 21), (1, .int x1), (2, .int (x2 + 1))] [] (zm_st u1 23 (Int32.toNatClampNeg x2) x2)))))) : zm_Z gX9_order post 17 [(0, .ref 21), (1, .int x1), (2, .int x2)] [] mem := by
  refine z_iload_n dX9_order_17 rfl 2 rfl ?_
  refine z_aload_n dX9_order_18 rfl 0 rfl ?_
  refine z_callVi (g' := gX9_cells) [] (q := 21) (ci := 9) (T := TX9) rfl rfl ⟨lkX9_72, pdX9_cells, by decide, by decide⟩ ⟨_, rfl, by decide⟩ rfl (Nat.le_of_ble_eq_true rfl) dX9_order_19 (zm_Call.mono kk (fun r1 w1 u1 k1 => ?_))
  refine z_icmp_ge (tgt := 38) dX9_order_22 (by decide) (fun h2 => ?_) (fun h2 => ?_)
  ·
    refine z_iconst (v := 0) dX9_order_38 zciconst_0 ?_
    refine z_istore_n (lv' := [(2, .int 0), (0, .ref 21), (1, .int x1)]) dX9_order_39 rfl (by decide) rfl ?_
    refine z_iconst (v := 0) dX9_order_40 zciconst_0 ?_
    refine z_istore_n (lv' := [(3, .int 0), (2, .int 0), (0, .ref 21), (1, .int x1)]) dX9_order_41 rfl (by decide) rfl ?_
    refine z_sub [2, 3, 1, 0] rfl ?_
    exact (k1.1 h2)
  ·
    refine z_aload_n dX9_order_25 rfl 0 rfl ?_
    refine z_getr (ci := 9) (j := 5) (r := 23) (T := TX9) rfl rfl hX9 rfl (by decide) fkX9_23 dX9_order_26 ?_
    refine z_iload_n dX9_order_29 rfl 2 rfl ?_
    refine z_iload_n dX9_order_30 rfl 2 rfl ?_
    refine z_iast (n := 36) rfl (k1.2 h2).1 dX9_order_31 ?_
    refine z_iinc (v := x2 + 1) (lv' := [(2, .int (x2 + 1)), (0, .ref 21), (1, .int x1)]) dX9_order_32 2 rfl (by rw [zciconst_1]) (by decide) rfl ?_
    refine z_goto (tgt := 17) dX9_order_35 (by decide) ?_
    refine z_sub [1, 2, 0] rfl ?_
    exact (k1.2 h2).2
theorem bX9_order_42 (x1 : Int32) (x2 : Int32) (x3 : Int32) (mem : zm_Mem) (post : zm_Post) (kk : ((¬ x3 = 0 → post x2 0 mem) ∧ (x3 = 0 → zm_Z gX9_order post 51 [(0, .ref 21), (1, .int x1), (2, .int x2), (3, .int 1), (4, .int 0)] [] mem))) : zm_Z gX9_order post 42 [(0, .ref 21), (1, .int x1), (2, .int x2), (3, .int x3)] [] mem := by
  refine z_iload_n dX9_order_42 rfl 3 rfl ?_
  refine z_if_ne (tgt := 113) dX9_order_43 (by decide) (fun h1 => ?_) (fun h1 => ?_)
  ·
    refine z_iload_n dX9_order_113 rfl 2 rfl ?_
    exact z_iret rfl dX9_order_114 (kk.1 h1)
  ·
    refine z_iconst (v := 1) dX9_order_46 zciconst_1 ?_
    refine z_istore_n (lv' := [(3, .int 1), (0, .ref 21), (1, .int x1), (2, .int x2)]) dX9_order_47 rfl (by decide) rfl ?_
    refine z_iconst (v := 0) dX9_order_48 zciconst_0 ?_
    refine z_istore (lv' := [(4, .int 0), (3, .int 1), (0, .ref 21), (1, .int x1), (2, .int x2)]) dX9_order_49 (by decide) rfl ?_
    refine z_sub [2, 3, 4, 1, 0] rfl ?_
    exact (kk.2 h1)
theorem bX9_order_51 (x1 : Int32) (x2 : Int32) (x3 : Int32) (x4 : Int32) (mem : zm_Mem) (post : zm_Post) (kk : zm_Call gX9_cells [.ref 21] mem (fun r1 w1 u1 => ((r1 ≤ x4 → zm_Z gX9_order post 42 [(0, .ref 21), (1, .int x1), (2, .int (x2 + 1)), (3, .int x3)] [] u1) ∧ (¬ r1 ≤ x4 → (vp_in x4 36 ∧ zm_Call gX9_ledTo [.ref 21, .int x1, .int (u1 23 (Int32.toNatClampNeg x4))] u1 (fun r3 w3 u3 => (vp_in x4 36 ∧ ((x3 = 0 → zm_Z gX9_order post 51 [(0, .ref 21), (1, .int x1), (2, .int x2), (3, .int 0), (4, .int (x4 + 1))] [] (zm_st u3 23 (Int32.toNatClampNeg x4) r3)) ∧ (¬ x3 = 0 → (vp_in x4 36 ∧ ((¬ ((zm_st u3 23 (Int32.toNatClampNeg x4) r3) 23 (Int32.toNatClampNeg x4)) = x4 → zm_Z gX9_order post 51 [(0, .ref 21), (1, .int x1), (2, .int x2), (3, .int 0), (4, .int (x4 + 1))] [] (zm_st u3 23 (Int32.toNatClampNeg x4) r3)) ∧ (((zm_st u3 23 (Int32.toNatClampNeg x4) r3) 23 (Int32.toNatClampNeg x4)) = x4 → zm_Z gX9_order post 51 [(0, .ref 21), (1, .int x1), (2, .int x2), (3, .int 1), (4, .int (x4 + 1))] [] (zm_st u3 23 (Int32.toNatClampNeg x4) r3))))))))))))) : zm_Z gX9_order post 51 [(0, .ref 21), (1, .int x1), (2, .int x2), (3, .int x3), (4, .int x4)] [] mem := by
  refine z_iload dX9_order_51 4 rfl ?_
  refine z_aload_n dX9_order_53 rfl 0 rfl ?_
  refine z_callVi (g' := gX9_cells) [] (q := 21) (ci := 9) (T := TX9) rfl rfl ⟨lkX9_72, pdX9_cells, by decide, by decide⟩ ⟨_, rfl, by decide⟩ rfl (Nat.le_of_ble_eq_true rfl) dX9_order_54 (zm_Call.mono kk (fun r1 w1 u1 k1 => ?_))
  refine z_icmp_ge (tgt := 107) dX9_order_57 (by decide) (fun h2 => ?_) (fun h2 => ?_)
  ·
    refine z_iinc (v := x2 + 1) (lv' := [(2, .int (x2 + 1)), (0, .ref 21), (1, .int x1), (3, .int x3), (4, .int x4)]) dX9_order_107 2 rfl (by rw [zciconst_1]) (by decide) rfl ?_
    refine z_goto (tgt := 42) dX9_order_110 (by decide) ?_
    refine z_sub [1, 2, 0, 3] rfl ?_
    exact (k1.1 h2)
  ·
    refine z_aload_n dX9_order_60 rfl 0 rfl ?_
    refine z_getr (ci := 9) (j := 5) (r := 23) (T := TX9) rfl rfl hX9 rfl (by decide) fkX9_23 dX9_order_61 ?_
    refine z_iload dX9_order_64 4 rfl ?_
    refine z_aload_n dX9_order_66 rfl 0 rfl ?_
    refine z_iload_n dX9_order_67 rfl 1 rfl ?_
    refine z_aload_n dX9_order_68 rfl 0 rfl ?_
    refine z_getr (ci := 9) (j := 5) (r := 23) (T := TX9) rfl rfl hX9 rfl (by decide) fkX9_23 dX9_order_69 ?_
    refine z_iload dX9_order_72 4 rfl ?_
    refine z_iald (n := 36) rfl (k1.2 h2).1 dX9_order_74 ?_
    refine z_callVi (g' := gX9_ledTo) [.int x1, .int (u1 23 (Int32.toNatClampNeg x4))] (q := 21) (ci := 9) (T := TX9) rfl rfl ⟨lkX9_113, pdX9_ledTo, by decide, by decide⟩ ⟨_, rfl, by decide⟩ rfl (Nat.le_of_ble_eq_true rfl) dX9_order_75 (zm_Call.mono (k1.2 h2).2 (fun r3 w3 u3 k3 => ?_))
    refine z_iast (n := 36) rfl k3.1 dX9_order_78 ?_
    refine z_iload_n dX9_order_79 rfl 3 rfl ?_
    refine z_if_eq (tgt := 99) dX9_order_80 (by decide) (fun h4 => ?_) (fun h4 => ?_)
    ·
      refine z_iconst (v := 0) dX9_order_99 zciconst_0 ?_
      refine z_istore_n (lv' := [(3, .int 0), (0, .ref 21), (1, .int x1), (2, .int x2), (4, .int x4)]) dX9_order_100 rfl (by decide) rfl ?_
      refine z_iinc (v := x4 + 1) (lv' := [(4, .int (x4 + 1)), (3, .int 0), (0, .ref 21), (1, .int x1), (2, .int x2)]) dX9_order_101 4 rfl (by rw [zciconst_1]) (by decide) rfl ?_
      refine z_goto (tgt := 51) dX9_order_104 (by decide) ?_
      refine z_sub [2, 3, 4, 1, 0] rfl ?_
      exact (k3.2.1 h4)
    ·
      refine z_aload_n dX9_order_83 rfl 0 rfl ?_
      refine z_getr (ci := 9) (j := 5) (r := 23) (T := TX9) rfl rfl hX9 rfl (by decide) fkX9_23 dX9_order_84 ?_
      refine z_iload dX9_order_87 4 rfl ?_
      refine z_iald (n := 36) rfl (k3.2.2 h4).1 dX9_order_89 ?_
      refine z_iload dX9_order_90 4 rfl ?_
      refine z_icmp_ne (tgt := 99) dX9_order_92 (by decide) (fun h5 => ?_) (fun h5 => ?_)
      ·
        refine z_iconst (v := 0) dX9_order_99 zciconst_0 ?_
        refine z_istore_n (lv' := [(3, .int 0), (0, .ref 21), (1, .int x1), (2, .int x2), (4, .int x4)]) dX9_order_100 rfl (by decide) rfl ?_
        refine z_iinc (v := x4 + 1) (lv' := [(4, .int (x4 + 1)), (3, .int 0), (0, .ref 21), (1, .int x1), (2, .int x2)]) dX9_order_101 4 rfl (by rw [zciconst_1]) (by decide) rfl ?_
        refine z_goto (tgt := 51) dX9_order_104 (by decide) ?_
        refine z_sub [2, 3, 4, 1, 0] rfl ?_
        exact ((k3.2.2 h4).2.1 h5)
      ·
        refine z_iconst (v := 1) dX9_order_95 zciconst_1 ?_
        refine z_goto (tgt := 100) dX9_order_96 (by decide) ?_
        refine z_istore_n (lv' := [(3, .int 1), (0, .ref 21), (1, .int x1), (2, .int x2), (4, .int x4)]) dX9_order_100 rfl (by decide) rfl ?_
        refine z_iinc (v := x4 + 1) (lv' := [(4, .int (x4 + 1)), (3, .int 1), (0, .ref 21), (1, .int x1), (2, .int x2)]) dX9_order_101 4 rfl (by rw [zciconst_1]) (by decide) rfl ?_
        refine z_goto (tgt := 51) dX9_order_104 (by decide) ?_
        refine z_sub [2, 3, 4, 1, 0] rfl ?_
        exact ((k3.2.2 h4).2.2 h5)
theorem dX9_keepsIt_0 : decode cX9_keepsIt 0 = .ok (.iconst 1, 1) := by decide +kernel
theorem dX9_keepsIt_1 : decode cX9_keepsIt 1 = .ok (.istore_n 2, 1) := by decide +kernel
theorem dX9_keepsIt_2 : decode cX9_keepsIt 2 = .ok (.iconst 0, 1) := by decide +kernel
theorem dX9_keepsIt_3 : decode cX9_keepsIt 3 = .ok (.istore_n 3, 1) := by decide +kernel
theorem dX9_keepsIt_4 : decode cX9_keepsIt 4 = .ok (.iload_n 3, 1) := by decide +kernel
theorem dX9_keepsIt_5 : decode cX9_keepsIt 5 = .ok (.aload_n 0, 1) := by decide +kernel
theorem dX9_keepsIt_6 : decode cX9_keepsIt 6 = .ok (.invokevirtual 72, 3) := by decide +kernel
theorem dX9_keepsIt_9 : decode cX9_keepsIt 9 = .ok (.if_icmp .ge 39, 3) := by decide +kernel
theorem dX9_keepsIt_12 : decode cX9_keepsIt 12 = .ok (.iload_n 2, 1) := by decide +kernel
theorem dX9_keepsIt_13 : decode cX9_keepsIt 13 = .ok (.ifCond .eq 27, 3) := by decide +kernel
theorem dX9_keepsIt_16 : decode cX9_keepsIt 16 = .ok (.aload_n 0, 1) := by decide +kernel
theorem dX9_keepsIt_17 : decode cX9_keepsIt 17 = .ok (.getfield 19, 3) := by decide +kernel
theorem dX9_keepsIt_20 : decode cX9_keepsIt 20 = .ok (.iload_n 3, 1) := by decide +kernel
theorem dX9_keepsIt_21 : decode cX9_keepsIt 21 = .ok (.iaload, 1) := by decide +kernel
theorem dX9_keepsIt_22 : decode cX9_keepsIt 22 = .ok (.aload_n 0, 1) := by decide +kernel
theorem dX9_keepsIt_23 : decode cX9_keepsIt 23 = .ok (.getfield 19, 3) := by decide +kernel
theorem dX9_keepsIt_26 : decode cX9_keepsIt 26 = .ok (.aload_n 0, 1) := by decide +kernel
theorem dX9_keepsIt_27 : decode cX9_keepsIt 27 = .ok (.iload_n 1, 1) := by decide +kernel
theorem dX9_keepsIt_28 : decode cX9_keepsIt 28 = .ok (.iload_n 3, 1) := by decide +kernel
theorem dX9_keepsIt_29 : decode cX9_keepsIt 29 = .ok (.invokevirtual 113, 3) := by decide +kernel
theorem dX9_keepsIt_32 : decode cX9_keepsIt 32 = .ok (.iaload, 1) := by decide +kernel
theorem dX9_keepsIt_33 : decode cX9_keepsIt 33 = .ok (.if_icmp .ne 7, 3) := by decide +kernel
theorem dX9_keepsIt_36 : decode cX9_keepsIt 36 = .ok (.iconst 1, 1) := by decide +kernel
theorem dX9_keepsIt_37 : decode cX9_keepsIt 37 = .ok (.goto 4, 3) := by decide +kernel
theorem dX9_keepsIt_40 : decode cX9_keepsIt 40 = .ok (.iconst 0, 1) := by decide +kernel
theorem dX9_keepsIt_41 : decode cX9_keepsIt 41 = .ok (.istore_n 2, 1) := by decide +kernel
theorem dX9_keepsIt_42 : decode cX9_keepsIt 42 = .ok (.iinc 3 1, 3) := by decide +kernel
theorem dX9_keepsIt_45 : decode cX9_keepsIt 45 = .ok (.goto (-41), 3) := by decide +kernel
theorem dX9_keepsIt_48 : decode cX9_keepsIt 48 = .ok (.iload_n 2, 1) := by decide +kernel
theorem dX9_keepsIt_49 : decode cX9_keepsIt 49 = .ok (.ireturn, 1) := by decide +kernel
theorem bX9_keepsIt_0 (x1 : Int32) (mem : zm_Mem) (post : zm_Post) (kk : zm_Z gX9_keepsIt post 4 [(0, .ref 21), (1, .int x1), (2, .int 1), (3, .int 0)] [] mem) : zm_Call gX9_keepsIt [.ref 21, .int x1] mem post := by
  refine z_entry (by decide) (Nat.le_of_ble_eq_true rfl) ?_
  show zm_Z gX9_keepsIt post 0 [(0, .ref 21), (1, .int x1)] [] mem
  refine z_iconst (v := 1) dX9_keepsIt_0 zciconst_1 ?_
  refine z_istore_n (lv' := [(2, .int 1), (0, .ref 21), (1, .int x1)]) dX9_keepsIt_1 rfl (by decide) rfl ?_
  refine z_iconst (v := 0) dX9_keepsIt_2 zciconst_0 ?_
  refine z_istore_n (lv' := [(3, .int 0), (2, .int 1), (0, .ref 21), (1, .int x1)]) dX9_keepsIt_3 rfl (by decide) rfl ?_
  refine z_sub [2, 3, 1, 0] rfl ?_
  exact kk
theorem bX9_keepsIt_4 (x1 : Int32) (x2 : Int32) (x3 : Int32) (mem : zm_Mem) (post : zm_Post) (kk : zm_Call gX9_cells [.ref 21] mem (fun r1 w1 u1 => ((r1 ≤ x3 → ((x2 = 0 ∨ x2 = 1) ∧ post x2 0 u1)) ∧ (¬ r1 ≤ x3 → ((x2 = 0 → zm_Z gX9_keepsIt post 4 [(0, .ref 21), (1, .int x1), (2, .int 0), (3, .int (x3 + 1))] [] u1) ∧ (¬ x2 = 0 → (vp_in x3 36 ∧ zm_Call gX9_ledTo [.ref 21, .int x1, .int x3] u1 (fun r4 w4 u4 => (vp_in r4 36 ∧ ((¬ (u1 22 (Int32.toNatClampNeg x3)) = (u4 22 (Int32.toNatClampNeg r4)) → zm_Z gX9_keepsIt post 4 [(0, .ref 21), (1, .int x1), (2, .int 0), (3, .int (x3 + 1))] [] u4) ∧ ((u1 22 (Int32.toNatClampNeg x3)) = (u4 22 (Int32.toNatClampNeg r4)) → zm_Z gX9_keepsIt post 4 [(0, .ref 21), (1, .int x1), (2, .int 1), (3, .int (x3 + 1))] [] u4))))))))))) : zm_Z gX9_keepsIt post 4 [(0, .ref 21), (1, .int x1), (2, .int x2), (3, .int x3)] [] mem := by
  refine z_iload_n dX9_keepsIt_4 rfl 3 rfl ?_
  refine z_aload_n dX9_keepsIt_5 rfl 0 rfl ?_
  refine z_callVi (g' := gX9_cells) [] (q := 21) (ci := 9) (T := TX9) rfl rfl ⟨lkX9_72, pdX9_cells, by decide, by decide⟩ ⟨_, rfl, by decide⟩ rfl (Nat.le_of_ble_eq_true rfl) dX9_keepsIt_6 (zm_Call.mono kk (fun r1 w1 u1 k1 => ?_))
  refine z_icmp_ge (tgt := 48) dX9_keepsIt_9 (by decide) (fun h2 => ?_) (fun h2 => ?_)
  ·
    refine z_iload_n dX9_keepsIt_48 rfl 2 rfl ?_
    exact z_zret rfl (k1.1 h2).1 dX9_keepsIt_49 (k1.1 h2).2
  ·
    refine z_iload_n dX9_keepsIt_12 rfl 2 rfl ?_
    refine z_if_eq (tgt := 40) dX9_keepsIt_13 (by decide) (fun h3 => ?_) (fun h3 => ?_)
    ·
      refine z_iconst (v := 0) dX9_keepsIt_40 zciconst_0 ?_
      refine z_istore_n (lv' := [(2, .int 0), (0, .ref 21), (1, .int x1), (3, .int x3)]) dX9_keepsIt_41 rfl (by decide) rfl ?_
      refine z_iinc (v := x3 + 1) (lv' := [(3, .int (x3 + 1)), (2, .int 0), (0, .ref 21), (1, .int x1)]) dX9_keepsIt_42 3 rfl (by rw [zciconst_1]) (by decide) rfl ?_
      refine z_goto (tgt := 4) dX9_keepsIt_45 (by decide) ?_
      refine z_sub [2, 3, 1, 0] rfl ?_
      exact ((k1.2 h2).1 h3)
    ·
      refine z_aload_n dX9_keepsIt_16 rfl 0 rfl ?_
      refine z_getr (ci := 9) (j := 4) (r := 22) (T := TX9) rfl rfl hX9 rfl (by decide) fkX9_19 dX9_keepsIt_17 ?_
      refine z_iload_n dX9_keepsIt_20 rfl 3 rfl ?_
      refine z_iald (n := 36) rfl ((k1.2 h2).2 h3).1 dX9_keepsIt_21 ?_
      refine z_aload_n dX9_keepsIt_22 rfl 0 rfl ?_
      refine z_getr (ci := 9) (j := 4) (r := 22) (T := TX9) rfl rfl hX9 rfl (by decide) fkX9_19 dX9_keepsIt_23 ?_
      refine z_aload_n dX9_keepsIt_26 rfl 0 rfl ?_
      refine z_iload_n dX9_keepsIt_27 rfl 1 rfl ?_
      refine z_iload_n dX9_keepsIt_28 rfl 3 rfl ?_
      refine z_callVi (g' := gX9_ledTo) [.int x1, .int x3] (q := 21) (ci := 9) (T := TX9) rfl rfl ⟨lkX9_113, pdX9_ledTo, by decide, by decide⟩ ⟨_, rfl, by decide⟩ rfl (Nat.le_of_ble_eq_true rfl) dX9_keepsIt_29 (zm_Call.mono ((k1.2 h2).2 h3).2 (fun r4 w4 u4 k4 => ?_))
      refine z_iald (n := 36) rfl k4.1 dX9_keepsIt_32 ?_
      refine z_icmp_ne (tgt := 40) dX9_keepsIt_33 (by decide) (fun h5 => ?_) (fun h5 => ?_)
      ·
        refine z_iconst (v := 0) dX9_keepsIt_40 zciconst_0 ?_
        refine z_istore_n (lv' := [(2, .int 0), (0, .ref 21), (1, .int x1), (3, .int x3)]) dX9_keepsIt_41 rfl (by decide) rfl ?_
        refine z_iinc (v := x3 + 1) (lv' := [(3, .int (x3 + 1)), (2, .int 0), (0, .ref 21), (1, .int x1)]) dX9_keepsIt_42 3 rfl (by rw [zciconst_1]) (by decide) rfl ?_
        refine z_goto (tgt := 4) dX9_keepsIt_45 (by decide) ?_
        refine z_sub [2, 3, 1, 0] rfl ?_
        exact (k4.2.1 h5)
      ·
        refine z_iconst (v := 1) dX9_keepsIt_36 zciconst_1 ?_
        refine z_goto (tgt := 41) dX9_keepsIt_37 (by decide) ?_
        refine z_istore_n (lv' := [(2, .int 1), (0, .ref 21), (1, .int x1), (3, .int x3)]) dX9_keepsIt_41 rfl (by decide) rfl ?_
        refine z_iinc (v := x3 + 1) (lv' := [(3, .int (x3 + 1)), (2, .int 1), (0, .ref 21), (1, .int x1)]) dX9_keepsIt_42 3 rfl (by rw [zciconst_1]) (by decide) rfl ?_
        refine z_goto (tgt := 4) dX9_keepsIt_45 (by decide) ?_
        refine z_sub [2, 3, 1, 0] rfl ?_
        exact (k4.2.2 h5)
theorem dX9_keeps_0 : decode cX9_keeps 0 = .ok (.aload_n 0, 1) := by decide +kernel
theorem dX9_keeps_1 : decode cX9_keeps 1 = .ok (.iconst 0, 1) := by decide +kernel
theorem dX9_keeps_2 : decode cX9_keeps 2 = .ok (.putfield 69, 3) := by decide +kernel
theorem dX9_keeps_5 : decode cX9_keeps 5 = .ok (.aload_n 0, 1) := by decide +kernel
theorem dX9_keeps_6 : decode cX9_keeps 6 = .ok (.iload_n 1, 1) := by decide +kernel
theorem dX9_keeps_7 : decode cX9_keeps 7 = .ok (.invokevirtual 110, 3) := by decide +kernel
theorem dX9_keeps_10 : decode cX9_keeps 10 = .ok (.ifCond .eq 7, 3) := by decide +kernel
theorem dX9_keeps_13 : decode cX9_keeps 13 = .ok (.iconst (-1), 1) := by decide +kernel
theorem dX9_keeps_14 : decode cX9_keeps 14 = .ok (.goto 16, 3) := by decide +kernel
theorem dX9_keeps_17 : decode cX9_keeps 17 = .ok (.aload_n 0, 1) := by decide +kernel
theorem dX9_keeps_18 : decode cX9_keeps 18 = .ok (.iload_n 1, 1) := by decide +kernel
theorem dX9_keeps_19 : decode cX9_keeps 19 = .ok (.invokevirtual 122, 3) := by decide +kernel
theorem dX9_keeps_22 : decode cX9_keeps 22 = .ok (.ifCond .eq 7, 3) := by decide +kernel
theorem dX9_keeps_25 : decode cX9_keeps 25 = .ok (.iconst 1, 1) := by decide +kernel
theorem dX9_keeps_26 : decode cX9_keeps 26 = .ok (.goto 4, 3) := by decide +kernel
theorem dX9_keeps_29 : decode cX9_keeps 29 = .ok (.iconst 0, 1) := by decide +kernel
theorem dX9_keeps_30 : decode cX9_keeps 30 = .ok (.ireturn, 1) := by decide +kernel
theorem bX9_keeps_0 (x1 : Int32) (mem : zm_Mem) (post : zm_Post) (kk : zm_Call gX9_noMove [.ref 21, .int x1] (zm_st mem 21 0 0) (fun r1 w1 u1 => ((r1 = 0 → zm_Call gX9_keepsIt [.ref 21, .int x1] u1 (fun r3 w3 u3 => ((r3 = 0 → post 0 0 u3) ∧ (¬ r3 = 0 → post 1 0 u3)))) ∧ (¬ r1 = 0 → post (-1) 0 u1)))) : zm_Call gX9_keeps [.ref 21, .int x1] mem post := by
  refine z_entry (by decide) (Nat.le_of_ble_eq_true rfl) ?_
  show zm_Z gX9_keeps post 0 [(0, .ref 21), (1, .int x1)] [] mem
  refine z_aload_n dX9_keeps_0 rfl 0 rfl ?_
  refine z_iconst (v := 0) dX9_keeps_1 zciconst_0 ?_
  refine z_put (ci := 9) (j := 0) (T := TX9) (ty0 := tyX9) rfl rfl hX9 tyX9_ok nmX9 rfl (by decide) fkX9_69 rfl rfl rfl dX9_keeps_2 ?_
  refine z_aload_n dX9_keeps_5 rfl 0 rfl ?_
  refine z_iload_n dX9_keeps_6 rfl 1 rfl ?_
  refine z_callVi (g' := gX9_noMove) [.int x1] (q := 21) (ci := 9) (T := TX9) rfl rfl ⟨lkX9_110, pdX9_noMove, by decide, by decide⟩ ⟨_, rfl, by decide⟩ rfl (Nat.le_of_ble_eq_true rfl) dX9_keeps_7 (zm_Call.mono kk (fun r1 w1 u1 k1 => ?_))
  refine z_if_eq (tgt := 17) dX9_keeps_10 (by decide) (fun h2 => ?_) (fun h2 => ?_)
  ·
    refine z_aload_n dX9_keeps_17 rfl 0 rfl ?_
    refine z_iload_n dX9_keeps_18 rfl 1 rfl ?_
    refine z_callVi (g' := gX9_keepsIt) [.int x1] (q := 21) (ci := 9) (T := TX9) rfl rfl ⟨lkX9_122, pdX9_keepsIt, by decide, by decide⟩ ⟨_, rfl, by decide⟩ rfl (Nat.le_of_ble_eq_true rfl) dX9_keeps_19 (zm_Call.mono (k1.1 h2) (fun r3 w3 u3 k3 => ?_))
    refine z_if_eq (tgt := 29) dX9_keeps_22 (by decide) (fun h4 => ?_) (fun h4 => ?_)
    ·
      refine z_iconst (v := 0) dX9_keeps_29 zciconst_0 ?_
      exact z_iret rfl dX9_keeps_30 (k3.1 h4)
    ·
      refine z_iconst (v := 1) dX9_keeps_25 zciconst_1 ?_
      refine z_goto (tgt := 30) dX9_keeps_26 (by decide) ?_
      exact z_iret rfl dX9_keeps_30 (k3.2 h4)
  ·
    refine z_iconst (v := (-1)) dX9_keeps_13 zciconst_m1 ?_
    refine z_goto (tgt := 30) dX9_keeps_14 (by decide) ?_
    exact z_iret rfl dX9_keeps_30 (k1.2 h2)
theorem dX9_kept_0 : decode cX9_kept 0 = .ok (.aload_n 0, 1) := by decide +kernel
theorem dX9_kept_1 : decode cX9_kept 1 = .ok (.iconst 0, 1) := by decide +kernel
theorem dX9_kept_2 : decode cX9_kept 2 = .ok (.putfield 69, 3) := by decide +kernel
theorem dX9_kept_5 : decode cX9_kept 5 = .ok (.iload_n 1, 1) := by decide +kernel
theorem dX9_kept_6 : decode cX9_kept 6 = .ok (.i2l, 1) := by decide +kernel
theorem dX9_kept_7 : decode cX9_kept 7 = .ok (.lconst 0, 1) := by decide +kernel
theorem dX9_kept_8 : decode cX9_kept 8 = .ok (.ldc2_w 125, 3) := by decide +kernel
theorem dX9_kept_11 : decode cX9_kept 11 = .ok (.invokestatic 76, 3) := by decide +kernel
theorem dX9_kept_14 : decode cX9_kept 14 = .ok (.ifCond .ne 6, 3) := by decide +kernel
theorem dX9_kept_17 : decode cX9_kept 17 = .ok (.bipush (-2), 2) := by decide +kernel
theorem dX9_kept_19 : decode cX9_kept 19 = .ok (.ireturn, 1) := by decide +kernel
theorem dX9_kept_20 : decode cX9_kept 20 = .ok (.iconst 0, 1) := by decide +kernel
theorem dX9_kept_21 : decode cX9_kept 21 = .ok (.istore_n 2, 1) := by decide +kernel
theorem dX9_kept_22 : decode cX9_kept 22 = .ok (.iconst 0, 1) := by decide +kernel
theorem dX9_kept_23 : decode cX9_kept 23 = .ok (.istore_n 3, 1) := by decide +kernel
theorem dX9_kept_24 : decode cX9_kept 24 = .ok (.iload_n 3, 1) := by decide +kernel
theorem dX9_kept_25 : decode cX9_kept 25 = .ok (.bipush 8, 2) := by decide +kernel
theorem dX9_kept_27 : decode cX9_kept 27 = .ok (.aload_n 0, 1) := by decide +kernel
theorem dX9_kept_28 : decode cX9_kept 28 = .ok (.invokevirtual 72, 3) := by decide +kernel
theorem dX9_kept_31 : decode cX9_kept 31 = .ok (.imul, 1) := by decide +kernel
theorem dX9_kept_32 : decode cX9_kept 32 = .ok (.if_icmp .ge 49, 3) := by decide +kernel
theorem dX9_kept_35 : decode cX9_kept 35 = .ok (.iload_n 2, 1) := by decide +kernel
theorem dX9_kept_36 : decode cX9_kept 36 = .ok (.aload_n 0, 1) := by decide +kernel
theorem dX9_kept_37 : decode cX9_kept 37 = .ok (.iload_n 3, 1) := by decide +kernel
theorem dX9_kept_38 : decode cX9_kept 38 = .ok (.invokevirtual 110, 3) := by decide +kernel
theorem dX9_kept_41 : decode cX9_kept 41 = .ok (.ifCond .ne 31, 3) := by decide +kernel
theorem dX9_kept_44 : decode cX9_kept 44 = .ok (.iload_n 1, 1) := by decide +kernel
theorem dX9_kept_45 : decode cX9_kept 45 = .ok (.bipush 8, 2) := by decide +kernel
theorem dX9_kept_47 : decode cX9_kept 47 = .ok (.if_icmp .eq 13, 3) := by decide +kernel
theorem dX9_kept_50 : decode cX9_kept 50 = .ok (.iload_n 3, 1) := by decide +kernel
theorem dX9_kept_51 : decode cX9_kept 51 = .ok (.aload_n 0, 1) := by decide +kernel
theorem dX9_kept_52 : decode cX9_kept 52 = .ok (.invokevirtual 72, 3) := by decide +kernel
theorem dX9_kept_55 : decode cX9_kept 55 = .ok (.idiv, 1) := by decide +kernel
theorem dX9_kept_56 : decode cX9_kept 56 = .ok (.iload_n 1, 1) := by decide +kernel
theorem dX9_kept_57 : decode cX9_kept 57 = .ok (.if_icmp .ne 15, 3) := by decide +kernel
theorem dX9_kept_60 : decode cX9_kept 60 = .ok (.aload_n 0, 1) := by decide +kernel
theorem dX9_kept_61 : decode cX9_kept 61 = .ok (.iload_n 3, 1) := by decide +kernel
theorem dX9_kept_62 : decode cX9_kept 62 = .ok (.invokevirtual 122, 3) := by decide +kernel
theorem dX9_kept_65 : decode cX9_kept 65 = .ok (.ifCond .eq 7, 3) := by decide +kernel
theorem dX9_kept_68 : decode cX9_kept 68 = .ok (.iconst 1, 1) := by decide +kernel
theorem dX9_kept_69 : decode cX9_kept 69 = .ok (.goto 4, 3) := by decide +kernel
theorem dX9_kept_72 : decode cX9_kept 72 = .ok (.iconst 0, 1) := by decide +kernel
theorem dX9_kept_73 : decode cX9_kept 73 = .ok (.iadd, 1) := by decide +kernel
theorem dX9_kept_74 : decode cX9_kept 74 = .ok (.istore_n 2, 1) := by decide +kernel
theorem dX9_kept_75 : decode cX9_kept 75 = .ok (.iinc 3 1, 3) := by decide +kernel
theorem dX9_kept_78 : decode cX9_kept 78 = .ok (.goto (-54), 3) := by decide +kernel
theorem dX9_kept_81 : decode cX9_kept 81 = .ok (.iload_n 2, 1) := by decide +kernel
theorem dX9_kept_82 : decode cX9_kept 82 = .ok (.ireturn, 1) := by decide +kernel
theorem bX9_kept_0 (x1 : Int32) (mem : zm_Mem) (post : zm_Post) (kk : zm_Call gX9_in [.long (Int32.toInt64 x1), .long 0, .long 8] (zm_st mem 21 0 0) (fun r1 w1 u1 => ((¬ r1 = 0 → zm_Z gX9_kept post 24 [(0, .ref 21), (1, .int x1), (2, .int 0), (3, .int 0)] [] u1) ∧ (r1 = 0 → post (-2) 0 u1)))) : zm_Call gX9_kept [.ref 21, .int x1] mem post := by
  refine z_entry (by decide) (Nat.le_of_ble_eq_true rfl) ?_
  show zm_Z gX9_kept post 0 [(0, .ref 21), (1, .int x1)] [] mem
  refine z_aload_n dX9_kept_0 rfl 0 rfl ?_
  refine z_iconst (v := 0) dX9_kept_1 zciconst_0 ?_
  refine z_put (ci := 9) (j := 0) (T := TX9) (ty0 := tyX9) rfl rfl hX9 tyX9_ok nmX9 rfl (by decide) fkX9_69 rfl rfl rfl dX9_kept_2 ?_
  refine z_iload_n dX9_kept_5 rfl 1 rfl ?_
  refine z_i2l dX9_kept_6 ?_
  refine z_lconst (v := 0) dX9_kept_7 zclconst_0 ?_
  refine z_ldc2 (v := 8) dX9_kept_8 fkX9_125 ?_
  refine z_callSi (g' := gX9_in) (st := []) [.long (Int32.toInt64 x1), .long 0, .long 8] ⟨lkX9_76, pdX9_in, by decide, by decide⟩ ⟨_, rfl, by decide⟩ rfl (Nat.le_of_ble_eq_true rfl) dX9_kept_11 (zm_Call.mono kk (fun r1 w1 u1 k1 => ?_))
  refine z_if_ne (tgt := 20) dX9_kept_14 (by decide) (fun h2 => ?_) (fun h2 => ?_)
  ·
    refine z_iconst (v := 0) dX9_kept_20 zciconst_0 ?_
    refine z_istore_n (lv' := [(2, .int 0), (0, .ref 21), (1, .int x1)]) dX9_kept_21 rfl (by decide) rfl ?_
    refine z_iconst (v := 0) dX9_kept_22 zciconst_0 ?_
    refine z_istore_n (lv' := [(3, .int 0), (2, .int 0), (0, .ref 21), (1, .int x1)]) dX9_kept_23 rfl (by decide) rfl ?_
    refine z_sub [2, 3, 1, 0] rfl ?_
    exact (k1.1 h2)
  ·
    refine z_bipush (v := (-2)) dX9_kept_17 zcbipush_m2 ?_
    exact z_iret rfl dX9_kept_19 (k1.2 h2)
theorem bX9_kept_24 (x1 : Int32) (x2 : Int32) (x3 : Int32) (mem : zm_Mem) (post : zm_Post) (kk : zm_Call gX9_cells [.ref 21] mem (fun r1 w1 u1 => (((8 * r1) ≤ x3 → post x2 0 u1) ∧ (¬ (8 * r1) ≤ x3 → zm_Call gX9_noMove [.ref 21, .int x3] u1 (fun r3 w3 u3 => ((¬ r3 = 0 → zm_Z gX9_kept post 72 [(0, .ref 21), (1, .int x1), (3, .int x3)] [.int x2] u3) ∧ (r3 = 0 → ((x1 = 8 → zm_Z gX9_kept post 60 [(0, .ref 21), (1, .int x1), (3, .int x3)] [.int x2] u3) ∧ (¬ x1 = 8 → zm_Call gX9_cells [.ref 21] u3 (fun r6 w6 u6 => (¬ r6 = 0 ∧ ((¬ (x3 / r6) = x1 → zm_Z gX9_kept post 72 [(0, .ref 21), (1, .int x1), (3, .int x3)] [.int x2] u6) ∧ ((x3 / r6) = x1 → zm_Z gX9_kept post 60 [(0, .ref 21), (1, .int x1), (3, .int x3)] [.int x2] u6))))))))))))) : zm_Z gX9_kept post 24 [(0, .ref 21), (1, .int x1), (2, .int x2), (3, .int x3)] [] mem := by
  refine z_iload_n dX9_kept_24 rfl 3 rfl ?_
  refine z_bipush (v := 8) dX9_kept_25 zcbipush_8 ?_
  refine z_aload_n dX9_kept_27 rfl 0 rfl ?_
  refine z_callVi (g' := gX9_cells) [] (q := 21) (ci := 9) (T := TX9) rfl rfl ⟨lkX9_72, pdX9_cells, by decide, by decide⟩ ⟨_, rfl, by decide⟩ rfl (Nat.le_of_ble_eq_true rfl) dX9_kept_28 (zm_Call.mono kk (fun r1 w1 u1 k1 => ?_))
  refine z_imul dX9_kept_31 ?_
  refine z_icmp_ge (tgt := 81) dX9_kept_32 (by decide) (fun h2 => ?_) (fun h2 => ?_)
  ·
    refine z_iload_n dX9_kept_81 rfl 2 rfl ?_
    exact z_iret rfl dX9_kept_82 (k1.1 h2)
  ·
    refine z_iload_n dX9_kept_35 rfl 2 rfl ?_
    refine z_aload_n dX9_kept_36 rfl 0 rfl ?_
    refine z_iload_n dX9_kept_37 rfl 3 rfl ?_
    refine z_callVi (g' := gX9_noMove) [.int x3] (q := 21) (ci := 9) (T := TX9) rfl rfl ⟨lkX9_110, pdX9_noMove, by decide, by decide⟩ ⟨_, rfl, by decide⟩ rfl (Nat.le_of_ble_eq_true rfl) dX9_kept_38 (zm_Call.mono (k1.2 h2) (fun r3 w3 u3 k3 => ?_))
    refine z_if_ne (tgt := 72) dX9_kept_41 (by decide) (fun h4 => ?_) (fun h4 => ?_)
    ·
      refine z_sub [0, 1, 3] rfl ?_
      exact (k3.1 h4)
    ·
      refine z_iload_n dX9_kept_44 rfl 1 rfl ?_
      refine z_bipush (v := 8) dX9_kept_45 zcbipush_8 ?_
      refine z_icmp_eq (tgt := 60) dX9_kept_47 (by decide) (fun h5 => ?_) (fun h5 => ?_)
      ·
        refine z_sub [0, 1, 3] rfl ?_
        exact ((k3.2 h4).1 h5)
      ·
        refine z_iload_n dX9_kept_50 rfl 3 rfl ?_
        refine z_aload_n dX9_kept_51 rfl 0 rfl ?_
        refine z_callVi (g' := gX9_cells) [] (q := 21) (ci := 9) (T := TX9) rfl rfl ⟨lkX9_72, pdX9_cells, by decide, by decide⟩ ⟨_, rfl, by decide⟩ rfl (Nat.le_of_ble_eq_true rfl) dX9_kept_52 (zm_Call.mono ((k3.2 h4).2 h5) (fun r6 w6 u6 k6 => ?_))
        refine z_idiv dX9_kept_55 k6.1 ?_
        refine z_iload_n dX9_kept_56 rfl 1 rfl ?_
        refine z_icmp_ne (tgt := 72) dX9_kept_57 (by decide) (fun h7 => ?_) (fun h7 => ?_)
        ·
          refine z_sub [0, 1, 3] rfl ?_
          exact (k6.2.1 h7)
        ·
          refine z_sub [0, 1, 3] rfl ?_
          exact (k6.2.2 h7)
theorem bX9_kept_60 (x1 : Int32) (x3 : Int32) (s0 : Int32) (mem : zm_Mem) (post : zm_Post) (kk : zm_Call gX9_keepsIt [.ref 21, .int x3] mem (fun r1 w1 u1 => ((r1 = 0 → zm_Z gX9_kept post 72 [(0, .ref 21), (1, .int x1), (3, .int x3)] [.int s0] u1) ∧ (¬ r1 = 0 → zm_Z gX9_kept post 24 [(0, .ref 21), (1, .int x1), (2, .int (s0 + 1)), (3, .int (x3 + 1))] [] u1)))) : zm_Z gX9_kept post 60 [(0, .ref 21), (1, .int x1), (3, .int x3)] [.int s0] mem := by
  refine z_aload_n dX9_kept_60 rfl 0 rfl ?_
  refine z_iload_n dX9_kept_61 rfl 2 rfl ?_
  refine z_callVi (g' := gX9_keepsIt) [.int x3] (q := 21) (ci := 9) (T := TX9) rfl rfl ⟨lkX9_122, pdX9_keepsIt, by decide, by decide⟩ ⟨_, rfl, by decide⟩ rfl (Nat.le_of_ble_eq_true rfl) dX9_kept_62 (zm_Call.mono kk (fun r1 w1 u1 k1 => ?_))
  refine z_if_eq (tgt := 72) dX9_kept_65 (by decide) (fun h2 => ?_) (fun h2 => ?_)
  ·
    exact (k1.1 h2)
  ·
    refine z_iconst (v := 1) dX9_kept_68 zciconst_1 ?_
    refine z_goto (tgt := 73) dX9_kept_69 (by decide) ?_
    refine z_iadd dX9_kept_73 ?_
    refine z_istore_n (lv' := [(2, .int (s0 + 1)), (0, .ref 21), (1, .int x1), (3, .int x3)]) dX9_kept_74 rfl (by decide) rfl ?_
    refine z_iinc (v := x3 + 1) (lv' := [(3, .int (x3 + 1)), (2, .int (s0 + 1)), (0, .ref 21), (1, .int x1)]) dX9_kept_75 3 rfl (by rw [zciconst_1]) (by decide) rfl ?_
    refine z_goto (tgt := 24) dX9_kept_78 (by decide) ?_
    refine z_sub [2, 3, 1, 0] rfl ?_
    exact (k1.2 h2)
theorem bX9_kept_72 (x1 : Int32) (x3 : Int32) (s0 : Int32) (mem : zm_Mem) (post : zm_Post) (kk : zm_Z gX9_kept post 24 [(0, .ref 21), (1, .int x1), (2, .int (s0 + 0)), (3, .int (x3 + 1))] [] mem) : zm_Z gX9_kept post 72 [(0, .ref 21), (1, .int x1), (3, .int x3)] [.int s0] mem := by
  refine z_iconst (v := 0) dX9_kept_72 zciconst_0 ?_
  refine z_iadd dX9_kept_73 ?_
  refine z_istore_n (lv' := [(2, .int (s0 + 0)), (0, .ref 21), (1, .int x1), (3, .int x3)]) dX9_kept_74 rfl (by decide) rfl ?_
  refine z_iinc (v := x3 + 1) (lv' := [(3, .int (x3 + 1)), (2, .int (s0 + 0)), (0, .ref 21), (1, .int x1)]) dX9_kept_75 3 rfl (by rw [zciconst_1]) (by decide) rfl ?_
  refine z_goto (tgt := 24) dX9_kept_78 (by decide) ?_
  refine z_sub [2, 3, 1, 0] rfl ?_
  exact kk
theorem dX9_keeper_0 : decode cX9_keeper 0 = .ok (.aload_n 0, 1) := by decide +kernel
theorem dX9_keeper_1 : decode cX9_keeper 1 = .ok (.iconst 0, 1) := by decide +kernel
theorem dX9_keeper_2 : decode cX9_keeper 2 = .ok (.putfield 69, 3) := by decide +kernel
theorem dX9_keeper_5 : decode cX9_keeper 5 = .ok (.iconst 0, 1) := by decide +kernel
theorem dX9_keeper_6 : decode cX9_keeper 6 = .ok (.istore_n 2, 1) := by decide +kernel
theorem dX9_keeper_7 : decode cX9_keeper 7 = .ok (.iconst 0, 1) := by decide +kernel
theorem dX9_keeper_8 : decode cX9_keeper 8 = .ok (.istore_n 3, 1) := by decide +kernel
theorem dX9_keeper_9 : decode cX9_keeper 9 = .ok (.iload_n 3, 1) := by decide +kernel
theorem dX9_keeper_10 : decode cX9_keeper 10 = .ok (.bipush 8, 2) := by decide +kernel
theorem dX9_keeper_12 : decode cX9_keeper 12 = .ok (.aload_n 0, 1) := by decide +kernel
theorem dX9_keeper_13 : decode cX9_keeper 13 = .ok (.invokevirtual 72, 3) := by decide +kernel
theorem dX9_keeper_16 : decode cX9_keeper 16 = .ok (.imul, 1) := by decide +kernel
theorem dX9_keeper_17 : decode cX9_keeper 17 = .ok (.if_icmp .ge 35, 3) := by decide +kernel
theorem dX9_keeper_20 : decode cX9_keeper 20 = .ok (.aload_n 0, 1) := by decide +kernel
theorem dX9_keeper_21 : decode cX9_keeper 21 = .ok (.iload_n 3, 1) := by decide +kernel
theorem dX9_keeper_22 : decode cX9_keeper 22 = .ok (.invokevirtual 110, 3) := by decide +kernel
theorem dX9_keeper_25 : decode cX9_keeper 25 = .ok (.ifCond .ne 21, 3) := by decide +kernel
theorem dX9_keeper_28 : decode cX9_keeper 28 = .ok (.aload_n 0, 1) := by decide +kernel
theorem dX9_keeper_29 : decode cX9_keeper 29 = .ok (.iload_n 3, 1) := by decide +kernel
theorem dX9_keeper_30 : decode cX9_keeper 30 = .ok (.invokevirtual 122, 3) := by decide +kernel
theorem dX9_keeper_33 : decode cX9_keeper 33 = .ok (.ifCond .eq 13, 3) := by decide +kernel
theorem dX9_keeper_36 : decode cX9_keeper 36 = .ok (.iload_n 2, 1) := by decide +kernel
theorem dX9_keeper_37 : decode cX9_keeper 37 = .ok (.iload_n 1, 1) := by decide +kernel
theorem dX9_keeper_38 : decode cX9_keeper 38 = .ok (.if_icmp .ne 5, 3) := by decide +kernel
theorem dX9_keeper_41 : decode cX9_keeper 41 = .ok (.iload_n 3, 1) := by decide +kernel
theorem dX9_keeper_42 : decode cX9_keeper 42 = .ok (.ireturn, 1) := by decide +kernel
theorem dX9_keeper_43 : decode cX9_keeper 43 = .ok (.iinc 2 1, 3) := by decide +kernel
theorem dX9_keeper_46 : decode cX9_keeper 46 = .ok (.iinc 3 1, 3) := by decide +kernel
theorem dX9_keeper_49 : decode cX9_keeper 49 = .ok (.goto (-40), 3) := by decide +kernel
theorem dX9_keeper_52 : decode cX9_keeper 52 = .ok (.bipush (-9), 2) := by decide +kernel
theorem dX9_keeper_54 : decode cX9_keeper 54 = .ok (.ireturn, 1) := by decide +kernel
theorem bX9_keeper_0 (x1 : Int32) (mem : zm_Mem) (post : zm_Post) (kk : zm_Z gX9_keeper post 9 [(0, .ref 21), (1, .int x1), (2, .int 0), (3, .int 0)] [] (zm_st mem 21 0 0)) : zm_Call gX9_keeper [.ref 21, .int x1] mem post := by
  refine z_entry (by decide) (Nat.le_of_ble_eq_true rfl) ?_
  show zm_Z gX9_keeper post 0 [(0, .ref 21), (1, .int x1)] [] mem
  refine z_aload_n dX9_keeper_0 rfl 0 rfl ?_
  refine z_iconst (v := 0) dX9_keeper_1 zciconst_0 ?_
  refine z_put (ci := 9) (j := 0) (T := TX9) (ty0 := tyX9) rfl rfl hX9 tyX9_ok nmX9 rfl (by decide) fkX9_69 rfl rfl rfl dX9_keeper_2 ?_
  refine z_iconst (v := 0) dX9_keeper_5 zciconst_0 ?_
  refine z_istore_n (lv' := [(2, .int 0), (0, .ref 21), (1, .int x1)]) dX9_keeper_6 rfl (by decide) rfl ?_
  refine z_iconst (v := 0) dX9_keeper_7 zciconst_0 ?_
  refine z_istore_n (lv' := [(3, .int 0), (2, .int 0), (0, .ref 21), (1, .int x1)]) dX9_keeper_8 rfl (by decide) rfl ?_
  refine z_sub [2, 3, 1, 0] rfl ?_
  exact kk
theorem bX9_keeper_9 (x1 : Int32) (x2 : Int32) (x3 : Int32) (mem : zm_Mem) (post : zm_Post) (kk : zm_Call gX9_cells [.ref 21] mem (fun r1 w1 u1 => (((8 * r1) ≤ x3 → post (-9) 0 u1) ∧ (¬ (8 * r1) ≤ x3 → zm_Call gX9_noMove [.ref 21, .int x3] u1 (fun r3 w3 u3 => ((¬ r3 = 0 → zm_Z gX9_keeper post 9 [(0, .ref 21), (1, .int x1), (2, .int x2), (3, .int (x3 + 1))] [] u3) ∧ (r3 = 0 → zm_Call gX9_keepsIt [.ref 21, .int x3] u3 (fun r5 w5 u5 => ((r5 = 0 → zm_Z gX9_keeper post 9 [(0, .ref 21), (1, .int x1), (2, .int x2), (3, .int (x3 + 1))] [] u5) ∧ (¬ r5 = 0 → ((¬ x2 = x1 → zm_Z gX9_keeper post 9 [(0, .ref 21), (1, .int x1), (2, .int (x2 + 1)), (3, .int (x3 + 1))] [] u5) ∧ (x2 = x1 → post x3 0 u5)))))))))))) : zm_Z gX9_keeper post 9 [(0, .ref 21), (1, .int x1), (2, .int x2), (3, .int x3)] [] mem := by
  refine z_iload_n dX9_keeper_9 rfl 3 rfl ?_
  refine z_bipush (v := 8) dX9_keeper_10 zcbipush_8 ?_
  refine z_aload_n dX9_keeper_12 rfl 0 rfl ?_
  refine z_callVi (g' := gX9_cells) [] (q := 21) (ci := 9) (T := TX9) rfl rfl ⟨lkX9_72, pdX9_cells, by decide, by decide⟩ ⟨_, rfl, by decide⟩ rfl (Nat.le_of_ble_eq_true rfl) dX9_keeper_13 (zm_Call.mono kk (fun r1 w1 u1 k1 => ?_))
  refine z_imul dX9_keeper_16 ?_
  refine z_icmp_ge (tgt := 52) dX9_keeper_17 (by decide) (fun h2 => ?_) (fun h2 => ?_)
  ·
    refine z_bipush (v := (-9)) dX9_keeper_52 zcbipush_m9 ?_
    exact z_iret rfl dX9_keeper_54 (k1.1 h2)
  ·
    refine z_aload_n dX9_keeper_20 rfl 0 rfl ?_
    refine z_iload_n dX9_keeper_21 rfl 3 rfl ?_
    refine z_callVi (g' := gX9_noMove) [.int x3] (q := 21) (ci := 9) (T := TX9) rfl rfl ⟨lkX9_110, pdX9_noMove, by decide, by decide⟩ ⟨_, rfl, by decide⟩ rfl (Nat.le_of_ble_eq_true rfl) dX9_keeper_22 (zm_Call.mono (k1.2 h2) (fun r3 w3 u3 k3 => ?_))
    refine z_if_ne (tgt := 46) dX9_keeper_25 (by decide) (fun h4 => ?_) (fun h4 => ?_)
    ·
      refine z_iinc (v := x3 + 1) (lv' := [(3, .int (x3 + 1)), (0, .ref 21), (1, .int x1), (2, .int x2)]) dX9_keeper_46 3 rfl (by rw [zciconst_1]) (by decide) rfl ?_
      refine z_goto (tgt := 9) dX9_keeper_49 (by decide) ?_
      refine z_sub [1, 2, 3, 0] rfl ?_
      exact (k3.1 h4)
    ·
      refine z_aload_n dX9_keeper_28 rfl 0 rfl ?_
      refine z_iload_n dX9_keeper_29 rfl 3 rfl ?_
      refine z_callVi (g' := gX9_keepsIt) [.int x3] (q := 21) (ci := 9) (T := TX9) rfl rfl ⟨lkX9_122, pdX9_keepsIt, by decide, by decide⟩ ⟨_, rfl, by decide⟩ rfl (Nat.le_of_ble_eq_true rfl) dX9_keeper_30 (zm_Call.mono (k3.2 h4) (fun r5 w5 u5 k5 => ?_))
      refine z_if_eq (tgt := 46) dX9_keeper_33 (by decide) (fun h6 => ?_) (fun h6 => ?_)
      ·
        refine z_iinc (v := x3 + 1) (lv' := [(3, .int (x3 + 1)), (0, .ref 21), (1, .int x1), (2, .int x2)]) dX9_keeper_46 3 rfl (by rw [zciconst_1]) (by decide) rfl ?_
        refine z_goto (tgt := 9) dX9_keeper_49 (by decide) ?_
        refine z_sub [1, 2, 3, 0] rfl ?_
        exact (k5.1 h6)
      ·
        refine z_iload_n dX9_keeper_36 rfl 2 rfl ?_
        refine z_iload_n dX9_keeper_37 rfl 1 rfl ?_
        refine z_icmp_ne (tgt := 43) dX9_keeper_38 (by decide) (fun h7 => ?_) (fun h7 => ?_)
        ·
          refine z_iinc (v := x2 + 1) (lv' := [(2, .int (x2 + 1)), (0, .ref 21), (1, .int x1), (3, .int x3)]) dX9_keeper_43 2 rfl (by rw [zciconst_1]) (by decide) rfl ?_
          refine z_iinc (v := x3 + 1) (lv' := [(3, .int (x3 + 1)), (2, .int (x2 + 1)), (0, .ref 21), (1, .int x1)]) dX9_keeper_46 3 rfl (by rw [zciconst_1]) (by decide) rfl ?_
          refine z_goto (tgt := 9) dX9_keeper_49 (by decide) ?_
          refine z_sub [2, 3, 1, 0] rfl ?_
          exact ((k5.2 h6).1 h7)
        ·
          refine z_iload_n dX9_keeper_41 rfl 3 rfl ?_
          exact z_iret rfl dX9_keeper_42 ((k5.2 h6).2 h7)
theorem dX9_go_0 : decode cX9_go 0 = .ok (.aload_n 0, 1) := by decide +kernel
theorem dX9_go_1 : decode cX9_go 1 = .ok (.iconst 0, 1) := by decide +kernel
theorem dX9_go_2 : decode cX9_go 2 = .ok (.putfield 69, 3) := by decide +kernel
theorem dX9_go_5 : decode cX9_go 5 = .ok (.aload_n 0, 1) := by decide +kernel
theorem dX9_go_6 : decode cX9_go 6 = .ok (.iload_n 1, 1) := by decide +kernel
theorem dX9_go_7 : decode cX9_go 7 = .ok (.invokevirtual 110, 3) := by decide +kernel
theorem dX9_go_10 : decode cX9_go 10 = .ok (.ifCond .eq 5, 3) := by decide +kernel
theorem dX9_go_13 : decode cX9_go 13 = .ok (.iconst (-1), 1) := by decide +kernel
theorem dX9_go_14 : decode cX9_go 14 = .ok (.ireturn, 1) := by decide +kernel
theorem dX9_go_15 : decode cX9_go 15 = .ok (.iconst 0, 1) := by decide +kernel
theorem dX9_go_16 : decode cX9_go 16 = .ok (.istore_n 2, 1) := by decide +kernel
theorem dX9_go_17 : decode cX9_go 17 = .ok (.iload_n 2, 1) := by decide +kernel
theorem dX9_go_18 : decode cX9_go 18 = .ok (.aload_n 0, 1) := by decide +kernel
theorem dX9_go_19 : decode cX9_go 19 = .ok (.invokevirtual 72, 3) := by decide +kernel
theorem dX9_go_22 : decode cX9_go 22 = .ok (.if_icmp .ge 26, 3) := by decide +kernel
theorem dX9_go_25 : decode cX9_go 25 = .ok (.aload_n 0, 1) := by decide +kernel
theorem dX9_go_26 : decode cX9_go 26 = .ok (.getfield 23, 3) := by decide +kernel
theorem dX9_go_29 : decode cX9_go 29 = .ok (.aload_n 0, 1) := by decide +kernel
theorem dX9_go_30 : decode cX9_go 30 = .ok (.iload_n 1, 1) := by decide +kernel
theorem dX9_go_31 : decode cX9_go 31 = .ok (.iload_n 2, 1) := by decide +kernel
theorem dX9_go_32 : decode cX9_go 32 = .ok (.invokevirtual 113, 3) := by decide +kernel
theorem dX9_go_35 : decode cX9_go 35 = .ok (.aload_n 0, 1) := by decide +kernel
theorem dX9_go_36 : decode cX9_go 36 = .ok (.getfield 19, 3) := by decide +kernel
theorem dX9_go_39 : decode cX9_go 39 = .ok (.iload_n 2, 1) := by decide +kernel
theorem dX9_go_40 : decode cX9_go 40 = .ok (.iaload, 1) := by decide +kernel
theorem dX9_go_41 : decode cX9_go 41 = .ok (.iastore, 1) := by decide +kernel
theorem dX9_go_42 : decode cX9_go 42 = .ok (.iinc 2 1, 3) := by decide +kernel
theorem dX9_go_45 : decode cX9_go 45 = .ok (.goto (-28), 3) := by decide +kernel
theorem dX9_go_48 : decode cX9_go 48 = .ok (.iconst 0, 1) := by decide +kernel
theorem dX9_go_49 : decode cX9_go 49 = .ok (.istore_n 2, 1) := by decide +kernel
theorem dX9_go_50 : decode cX9_go 50 = .ok (.iconst 0, 1) := by decide +kernel
theorem dX9_go_51 : decode cX9_go 51 = .ok (.istore_n 3, 1) := by decide +kernel
theorem dX9_go_52 : decode cX9_go 52 = .ok (.iload_n 3, 1) := by decide +kernel
theorem dX9_go_53 : decode cX9_go 53 = .ok (.aload_n 0, 1) := by decide +kernel
theorem dX9_go_54 : decode cX9_go 54 = .ok (.invokevirtual 72, 3) := by decide +kernel
theorem dX9_go_57 : decode cX9_go 57 = .ok (.if_icmp .ge 44, 3) := by decide +kernel
theorem dX9_go_60 : decode cX9_go 60 = .ok (.iload_n 2, 1) := by decide +kernel
theorem dX9_go_61 : decode cX9_go 61 = .ok (.aload_n 0, 1) := by decide +kernel
theorem dX9_go_62 : decode cX9_go 62 = .ok (.getfield 23, 3) := by decide +kernel
theorem dX9_go_65 : decode cX9_go 65 = .ok (.iload_n 3, 1) := by decide +kernel
theorem dX9_go_66 : decode cX9_go 66 = .ok (.iaload, 1) := by decide +kernel
theorem dX9_go_67 : decode cX9_go 67 = .ok (.aload_n 0, 1) := by decide +kernel
theorem dX9_go_68 : decode cX9_go 68 = .ok (.getfield 19, 3) := by decide +kernel
theorem dX9_go_71 : decode cX9_go 71 = .ok (.iload_n 3, 1) := by decide +kernel
theorem dX9_go_72 : decode cX9_go 72 = .ok (.iaload, 1) := by decide +kernel
theorem dX9_go_73 : decode cX9_go 73 = .ok (.if_icmp .ne 7, 3) := by decide +kernel
theorem dX9_go_76 : decode cX9_go 76 = .ok (.iconst 0, 1) := by decide +kernel
theorem dX9_go_77 : decode cX9_go 77 = .ok (.goto 4, 3) := by decide +kernel
theorem dX9_go_80 : decode cX9_go 80 = .ok (.iconst 1, 1) := by decide +kernel
theorem dX9_go_81 : decode cX9_go 81 = .ok (.iadd, 1) := by decide +kernel
theorem dX9_go_82 : decode cX9_go 82 = .ok (.istore_n 2, 1) := by decide +kernel
theorem dX9_go_83 : decode cX9_go 83 = .ok (.aload_n 0, 1) := by decide +kernel
theorem dX9_go_84 : decode cX9_go 84 = .ok (.getfield 19, 3) := by decide +kernel
theorem dX9_go_87 : decode cX9_go 87 = .ok (.iload_n 3, 1) := by decide +kernel
theorem dX9_go_88 : decode cX9_go 88 = .ok (.aload_n 0, 1) := by decide +kernel
theorem dX9_go_89 : decode cX9_go 89 = .ok (.getfield 23, 3) := by decide +kernel
theorem dX9_go_92 : decode cX9_go 92 = .ok (.iload_n 3, 1) := by decide +kernel
theorem dX9_go_93 : decode cX9_go 93 = .ok (.iaload, 1) := by decide +kernel
theorem dX9_go_94 : decode cX9_go 94 = .ok (.iastore, 1) := by decide +kernel
theorem dX9_go_95 : decode cX9_go 95 = .ok (.iinc 3 1, 3) := by decide +kernel
theorem dX9_go_98 : decode cX9_go 98 = .ok (.goto (-46), 3) := by decide +kernel
theorem dX9_go_101 : decode cX9_go 101 = .ok (.iload_n 2, 1) := by decide +kernel
theorem dX9_go_102 : decode cX9_go 102 = .ok (.ireturn, 1) := by decide +kernel
theorem bX9_go_0 (x1 : Int32) (mem : zm_Mem) (post : zm_Post) (kk : zm_Call gX9_noMove [.ref 21, .int x1] (zm_st mem 21 0 0) (fun r1 w1 u1 => ((r1 = 0 → zm_Z gX9_go post 17 [(0, .ref 21), (1, .int x1), (2, .int 0)] [] u1) ∧ (¬ r1 = 0 → post (-1) 0 u1)))) : zm_Call gX9_go [.ref 21, .int x1] mem post := by
  refine z_entry (by decide) (Nat.le_of_ble_eq_true rfl) ?_
  show zm_Z gX9_go post 0 [(0, .ref 21), (1, .int x1)] [] mem
  refine z_aload_n dX9_go_0 rfl 0 rfl ?_
  refine z_iconst (v := 0) dX9_go_1 zciconst_0 ?_
  refine z_put (ci := 9) (j := 0) (T := TX9) (ty0 := tyX9) rfl rfl hX9 tyX9_ok nmX9 rfl (by decide) fkX9_69 rfl rfl rfl dX9_go_2 ?_
  refine z_aload_n dX9_go_5 rfl 0 rfl ?_
  refine z_iload_n dX9_go_6 rfl 1 rfl ?_
  refine z_callVi (g' := gX9_noMove) [.int x1] (q := 21) (ci := 9) (T := TX9) rfl rfl ⟨lkX9_110, pdX9_noMove, by decide, by decide⟩ ⟨_, rfl, by decide⟩ rfl (Nat.le_of_ble_eq_true rfl) dX9_go_7 (zm_Call.mono kk (fun r1 w1 u1 k1 => ?_))
  refine z_if_eq (tgt := 15) dX9_go_10 (by decide) (fun h2 => ?_) (fun h2 => ?_)
  ·
    refine z_iconst (v := 0) dX9_go_15 zciconst_0 ?_
    refine z_istore_n (lv' := [(2, .int 0), (0, .ref 21), (1, .int x1)]) dX9_go_16 rfl (by decide) rfl ?_
    refine z_sub [1, 2, 0] rfl ?_
    exact (k1.1 h2)
  ·
    refine z_iconst (v := (-1)) dX9_go_13 zciconst_m1 ?_
    exact z_iret rfl dX9_go_14 (k1.2 h2)
theorem bX9_go_17 (x1 : Int32) (x2 : Int32) (mem : zm_Mem) (post : zm_Post) (kk : zm_Call gX9_cells [.ref 21] mem (fun r1 w1 u1 => ((r1 ≤ x2 → zm_Z gX9_go post 52 [(0, .ref 21), (2, .int 0), (3, .int 0)] [] u1) ∧ (¬ r1 ≤ x2 → zm_Call gX9_ledTo [.ref 21, .int x1, .int x2] u1 (fun r3 w3 u3 => (vp_in x2 36 ∧ (vp_in r3 36 ∧ zm_Z gX9_go post 17 [(0, .ref 21), (1, .int x1), (2, .int (x2 + 1))] [] (zm_st u3 23 (Int32.toNatClampNeg r3) (u3 22 (Int32.toNatClampNeg x2)))))))))) : zm_Z gX9_go post 17 [(0, .ref 21), (1, .int x1), (2, .int x2)] [] mem := by
  refine z_iload_n dX9_go_17 rfl 2 rfl ?_
  refine z_aload_n dX9_go_18 rfl 0 rfl ?_
  refine z_callVi (g' := gX9_cells) [] (q := 21) (ci := 9) (T := TX9) rfl rfl ⟨lkX9_72, pdX9_cells, by decide, by decide⟩ ⟨_, rfl, by decide⟩ rfl (Nat.le_of_ble_eq_true rfl) dX9_go_19 (zm_Call.mono kk (fun r1 w1 u1 k1 => ?_))
  refine z_icmp_ge (tgt := 48) dX9_go_22 (by decide) (fun h2 => ?_) (fun h2 => ?_)
  ·
    refine z_iconst (v := 0) dX9_go_48 zciconst_0 ?_
    refine z_istore_n (lv' := [(2, .int 0), (0, .ref 21), (1, .int x1)]) dX9_go_49 rfl (by decide) rfl ?_
    refine z_iconst (v := 0) dX9_go_50 zciconst_0 ?_
    refine z_istore_n (lv' := [(3, .int 0), (2, .int 0), (0, .ref 21), (1, .int x1)]) dX9_go_51 rfl (by decide) rfl ?_
    refine z_sub [2, 1, 0] rfl ?_
    exact (k1.1 h2)
  ·
    refine z_aload_n dX9_go_25 rfl 0 rfl ?_
    refine z_getr (ci := 9) (j := 5) (r := 23) (T := TX9) rfl rfl hX9 rfl (by decide) fkX9_23 dX9_go_26 ?_
    refine z_aload_n dX9_go_29 rfl 0 rfl ?_
    refine z_iload_n dX9_go_30 rfl 1 rfl ?_
    refine z_iload_n dX9_go_31 rfl 2 rfl ?_
    refine z_callVi (g' := gX9_ledTo) [.int x1, .int x2] (q := 21) (ci := 9) (T := TX9) rfl rfl ⟨lkX9_113, pdX9_ledTo, by decide, by decide⟩ ⟨_, rfl, by decide⟩ rfl (Nat.le_of_ble_eq_true rfl) dX9_go_32 (zm_Call.mono (k1.2 h2) (fun r3 w3 u3 k3 => ?_))
    refine z_aload_n dX9_go_35 rfl 0 rfl ?_
    refine z_getr (ci := 9) (j := 4) (r := 22) (T := TX9) rfl rfl hX9 rfl (by decide) fkX9_19 dX9_go_36 ?_
    refine z_iload_n dX9_go_39 rfl 2 rfl ?_
    refine z_iald (n := 36) rfl k3.1 dX9_go_40 ?_
    refine z_iast (n := 36) rfl k3.2.1 dX9_go_41 ?_
    refine z_iinc (v := x2 + 1) (lv' := [(2, .int (x2 + 1)), (0, .ref 21), (1, .int x1)]) dX9_go_42 2 rfl (by rw [zciconst_1]) (by decide) rfl ?_
    refine z_goto (tgt := 17) dX9_go_45 (by decide) ?_
    refine z_sub [1, 2, 0] rfl ?_
    exact k3.2.2
theorem bX9_go_52 (x2 : Int32) (x3 : Int32) (mem : zm_Mem) (post : zm_Post) (kk : zm_Call gX9_cells [.ref 21] mem (fun r1 w1 u1 => ((r1 ≤ x3 → post x2 0 u1) ∧ (¬ r1 ≤ x3 → (vp_in x3 36 ∧ (vp_in x3 36 ∧ ((¬ (u1 23 (Int32.toNatClampNeg x3)) = (u1 22 (Int32.toNatClampNeg x3)) → zm_Z gX9_go post 81 [(0, .ref 21), (3, .int x3)] [.int 1, .int x2] u1) ∧ ((u1 23 (Int32.toNatClampNeg x3)) = (u1 22 (Int32.toNatClampNeg x3)) → zm_Z gX9_go post 81 [(0, .ref 21), (3, .int x3)] [.int 0, .int x2] u1)))))))) : zm_Z gX9_go post 52 [(0, .ref 21), (2, .int x2), (3, .int x3)] [] mem := by
  refine z_iload_n dX9_go_52 rfl 2 rfl ?_
  refine z_aload_n dX9_go_53 rfl 0 rfl ?_
  refine z_callVi (g' := gX9_cells) [] (q := 21) (ci := 9) (T := TX9) rfl rfl ⟨lkX9_72, pdX9_cells, by decide, by decide⟩ ⟨_, rfl, by decide⟩ rfl (Nat.le_of_ble_eq_true rfl) dX9_go_54 (zm_Call.mono kk (fun r1 w1 u1 k1 => ?_))
  refine z_icmp_ge (tgt := 101) dX9_go_57 (by decide) (fun h2 => ?_) (fun h2 => ?_)
  ·
    refine z_iload_n dX9_go_101 rfl 1 rfl ?_
    exact z_iret rfl dX9_go_102 (k1.1 h2)
  ·
    refine z_iload_n dX9_go_60 rfl 1 rfl ?_
    refine z_aload_n dX9_go_61 rfl 0 rfl ?_
    refine z_getr (ci := 9) (j := 5) (r := 23) (T := TX9) rfl rfl hX9 rfl (by decide) fkX9_23 dX9_go_62 ?_
    refine z_iload_n dX9_go_65 rfl 2 rfl ?_
    refine z_iald (n := 36) rfl (k1.2 h2).1 dX9_go_66 ?_
    refine z_aload_n dX9_go_67 rfl 0 rfl ?_
    refine z_getr (ci := 9) (j := 4) (r := 22) (T := TX9) rfl rfl hX9 rfl (by decide) fkX9_19 dX9_go_68 ?_
    refine z_iload_n dX9_go_71 rfl 2 rfl ?_
    refine z_iald (n := 36) rfl (k1.2 h2).2.1 dX9_go_72 ?_
    refine z_icmp_ne (tgt := 80) dX9_go_73 (by decide) (fun h3 => ?_) (fun h3 => ?_)
    ·
      refine z_iconst (v := 1) dX9_go_80 zciconst_1 ?_
      refine z_sub [0, 2] rfl ?_
      exact ((k1.2 h2).2.2.1 h3)
    ·
      refine z_iconst (v := 0) dX9_go_76 zciconst_0 ?_
      refine z_goto (tgt := 81) dX9_go_77 (by decide) ?_
      refine z_sub [0, 2] rfl ?_
      exact ((k1.2 h2).2.2.2 h3)
theorem bX9_go_81 (x3 : Int32) (s0 : Int32) (s1 : Int32) (mem : zm_Mem) (post : zm_Post) (kk : (vp_in x3 36 ∧ (vp_in x3 36 ∧ zm_Z gX9_go post 52 [(0, .ref 21), (2, .int (s1 + s0)), (3, .int (x3 + 1))] [] (zm_st mem 22 (Int32.toNatClampNeg x3) (mem 23 (Int32.toNatClampNeg x3)))))) : zm_Z gX9_go post 81 [(0, .ref 21), (3, .int x3)] [.int s0, .int s1] mem := by
  refine z_iadd dX9_go_81 ?_
  refine z_istore_n (lv' := [(2, .int (s1 + s0)), (0, .ref 21), (3, .int x3)]) dX9_go_82 rfl (by decide) rfl ?_
  refine z_aload_n dX9_go_83 rfl 1 rfl ?_
  refine z_getr (ci := 9) (j := 4) (r := 22) (T := TX9) rfl rfl hX9 rfl (by decide) fkX9_19 dX9_go_84 ?_
  refine z_iload_n dX9_go_87 rfl 2 rfl ?_
  refine z_aload_n dX9_go_88 rfl 1 rfl ?_
  refine z_getr (ci := 9) (j := 5) (r := 23) (T := TX9) rfl rfl hX9 rfl (by decide) fkX9_23 dX9_go_89 ?_
  refine z_iload_n dX9_go_92 rfl 2 rfl ?_
  refine z_iald (n := 36) rfl kk.1 dX9_go_93 ?_
  refine z_iast (n := 36) rfl kk.2.1 dX9_go_94 ?_
  refine z_iinc (v := x3 + 1) (lv' := [(3, .int (x3 + 1)), (2, .int (s1 + s0)), (0, .ref 21)]) dX9_go_95 2 rfl (by rw [zciconst_1]) (by decide) rfl ?_
  refine z_goto (tgt := 52) dX9_go_98 (by decide) ?_
  refine z_sub [2, 1, 0] rfl ?_
  exact kk.2.2
theorem dX9_layShifts_0 : decode cX9_layShifts 0 = .ok (.iconst 0, 1) := by decide +kernel
theorem dX9_layShifts_1 : decode cX9_layShifts 1 = .ok (.istore_n 1, 1) := by decide +kernel
theorem dX9_layShifts_2 : decode cX9_layShifts 2 = .ok (.iconst 0, 1) := by decide +kernel
theorem dX9_layShifts_3 : decode cX9_layShifts 3 = .ok (.istore_n 2, 1) := by decide +kernel
theorem dX9_layShifts_4 : decode cX9_layShifts 4 = .ok (.iload_n 2, 1) := by decide +kernel
theorem dX9_layShifts_5 : decode cX9_layShifts 5 = .ok (.aload_n 0, 1) := by decide +kernel
theorem dX9_layShifts_6 : decode cX9_layShifts 6 = .ok (.invokevirtual 72, 3) := by decide +kernel
theorem dX9_layShifts_9 : decode cX9_layShifts 9 = .ok (.if_icmp .ge 37, 3) := by decide +kernel
theorem dX9_layShifts_12 : decode cX9_layShifts 12 = .ok (.aload_n 0, 1) := by decide +kernel
theorem dX9_layShifts_13 : decode cX9_layShifts 13 = .ok (.getfield 45, 3) := by decide +kernel
theorem dX9_layShifts_16 : decode cX9_layShifts 16 = .ok (.iload_n 2, 1) := by decide +kernel
theorem dX9_layShifts_17 : decode cX9_layShifts 17 = .ok (.aload_n 0, 1) := by decide +kernel
theorem dX9_layShifts_18 : decode cX9_layShifts 18 = .ok (.iload_n 2, 1) := by decide +kernel
theorem dX9_layShifts_19 : decode cX9_layShifts 19 = .ok (.invokevirtual 122, 3) := by decide +kernel
theorem dX9_layShifts_22 : decode cX9_layShifts 22 = .ok (.bastore, 1) := by decide +kernel
theorem dX9_layShifts_23 : decode cX9_layShifts 23 = .ok (.iload_n 1, 1) := by decide +kernel
theorem dX9_layShifts_24 : decode cX9_layShifts 24 = .ok (.aload_n 0, 1) := by decide +kernel
theorem dX9_layShifts_25 : decode cX9_layShifts 25 = .ok (.getfield 45, 3) := by decide +kernel
theorem dX9_layShifts_28 : decode cX9_layShifts 28 = .ok (.iload_n 2, 1) := by decide +kernel
theorem dX9_layShifts_29 : decode cX9_layShifts 29 = .ok (.baload, 1) := by decide +kernel
theorem dX9_layShifts_30 : decode cX9_layShifts 30 = .ok (.ifCond .eq 7, 3) := by decide +kernel
theorem dX9_layShifts_33 : decode cX9_layShifts 33 = .ok (.iconst 1, 1) := by decide +kernel
theorem dX9_layShifts_34 : decode cX9_layShifts 34 = .ok (.goto 4, 3) := by decide +kernel
theorem dX9_layShifts_37 : decode cX9_layShifts 37 = .ok (.iconst 0, 1) := by decide +kernel
theorem dX9_layShifts_38 : decode cX9_layShifts 38 = .ok (.iadd, 1) := by decide +kernel
theorem dX9_layShifts_39 : decode cX9_layShifts 39 = .ok (.istore_n 1, 1) := by decide +kernel
theorem dX9_layShifts_40 : decode cX9_layShifts 40 = .ok (.iinc 2 1, 3) := by decide +kernel
theorem dX9_layShifts_43 : decode cX9_layShifts 43 = .ok (.goto (-39), 3) := by decide +kernel
theorem dX9_layShifts_46 : decode cX9_layShifts 46 = .ok (.iload_n 1, 1) := by decide +kernel
theorem dX9_layShifts_47 : decode cX9_layShifts 47 = .ok (.ireturn, 1) := by decide +kernel
theorem bX9_layShifts_0 (mem : zm_Mem) (post : zm_Post) (kk : zm_Z gX9_layShifts post 4 [(0, .ref 21), (1, .int 0), (2, .int 0)] [] mem) : zm_Call gX9_layShifts [.ref 21] mem post := by
  refine z_entry (by decide) (Nat.le_of_ble_eq_true rfl) ?_
  show zm_Z gX9_layShifts post 0 [(0, .ref 21)] [] mem
  refine z_iconst (v := 0) dX9_layShifts_0 zciconst_0 ?_
  refine z_istore_n (lv' := [(1, .int 0), (0, .ref 21)]) dX9_layShifts_1 rfl (by decide) rfl ?_
  refine z_iconst (v := 0) dX9_layShifts_2 zciconst_0 ?_
  refine z_istore_n (lv' := [(2, .int 0), (1, .int 0), (0, .ref 21)]) dX9_layShifts_3 rfl (by decide) rfl ?_
  refine z_sub [2, 1, 0] rfl ?_
  exact kk
theorem bX9_layShifts_4 (x1 : Int32) (x2 : Int32) (mem : zm_Mem) (post : zm_Post) (kk : zm_Call gX9_cells [.ref 21] mem (fun r1 w1 u1 => ((r1 ≤ x2 → post x1 0 u1) ∧ (¬ r1 ≤ x2 → zm_Call gX9_keepsIt [.ref 21, .int x2] u1 (fun r3 w3 u3 => (vp_in x2 36 ∧ (r3 = 0 ∨ r3 = 1) ∧ (vp_in x2 36 ∧ ((((zm_st u3 30 (Int32.toNatClampNeg x2) r3) 30 (Int32.toNatClampNeg x2)) = 0 → zm_Z gX9_layShifts post 4 [(0, .ref 21), (1, .int (x1 + 0)), (2, .int (x2 + 1))] [] (zm_st u3 30 (Int32.toNatClampNeg x2) r3)) ∧ (¬ ((zm_st u3 30 (Int32.toNatClampNeg x2) r3) 30 (Int32.toNatClampNeg x2)) = 0 → zm_Z gX9_layShifts post 4 [(0, .ref 21), (1, .int (x1 + 1)), (2, .int (x2 + 1))] [] (zm_st u3 30 (Int32.toNatClampNeg x2) r3)))))))))) : zm_Z gX9_layShifts post 4 [(0, .ref 21), (1, .int x1), (2, .int x2)] [] mem := by
  refine z_iload_n dX9_layShifts_4 rfl 2 rfl ?_
  refine z_aload_n dX9_layShifts_5 rfl 0 rfl ?_
  refine z_callVi (g' := gX9_cells) [] (q := 21) (ci := 9) (T := TX9) rfl rfl ⟨lkX9_72, pdX9_cells, by decide, by decide⟩ ⟨_, rfl, by decide⟩ rfl (Nat.le_of_ble_eq_true rfl) dX9_layShifts_6 (zm_Call.mono kk (fun r1 w1 u1 k1 => ?_))
  refine z_icmp_ge (tgt := 46) dX9_layShifts_9 (by decide) (fun h2 => ?_) (fun h2 => ?_)
  ·
    refine z_iload_n dX9_layShifts_46 rfl 1 rfl ?_
    exact z_iret rfl dX9_layShifts_47 (k1.1 h2)
  ·
    refine z_aload_n dX9_layShifts_12 rfl 0 rfl ?_
    refine z_getr (ci := 9) (j := 13) (r := 30) (T := TX9) rfl rfl hX9 rfl (by decide) fkX9_45 dX9_layShifts_13 ?_
    refine z_iload_n dX9_layShifts_16 rfl 2 rfl ?_
    refine z_aload_n dX9_layShifts_17 rfl 0 rfl ?_
    refine z_iload_n dX9_layShifts_18 rfl 2 rfl ?_
    refine z_callVi (g' := gX9_keepsIt) [.int x2] (q := 21) (ci := 9) (T := TX9) rfl rfl ⟨lkX9_122, pdX9_keepsIt, by decide, by decide⟩ ⟨_, rfl, by decide⟩ rfl (Nat.le_of_ble_eq_true rfl) dX9_layShifts_19 (zm_Call.mono (k1.2 h2) (fun r3 w3 u3 k3 => ?_))
    refine z_bast (n := 36) rfl k3.1 k3.2.1 dX9_layShifts_22 ?_
    refine z_iload_n dX9_layShifts_23 rfl 1 rfl ?_
    refine z_aload_n dX9_layShifts_24 rfl 0 rfl ?_
    refine z_getr (ci := 9) (j := 13) (r := 30) (T := TX9) rfl rfl hX9 rfl (by decide) fkX9_45 dX9_layShifts_25 ?_
    refine z_iload_n dX9_layShifts_28 rfl 2 rfl ?_
    refine z_bald (n := 36) rfl k3.2.2.1 dX9_layShifts_29 ?_
    refine z_if_eq (tgt := 37) dX9_layShifts_30 (by decide) (fun h4 => ?_) (fun h4 => ?_)
    ·
      refine z_iconst (v := 0) dX9_layShifts_37 zciconst_0 ?_
      refine z_iadd dX9_layShifts_38 ?_
      refine z_istore_n (lv' := [(1, .int (x1 + 0)), (0, .ref 21), (2, .int x2)]) dX9_layShifts_39 rfl (by decide) rfl ?_
      refine z_iinc (v := x2 + 1) (lv' := [(2, .int (x2 + 1)), (1, .int (x1 + 0)), (0, .ref 21)]) dX9_layShifts_40 2 rfl (by rw [zciconst_1]) (by decide) rfl ?_
      refine z_goto (tgt := 4) dX9_layShifts_43 (by decide) ?_
      refine z_sub [2, 1, 0] rfl ?_
      exact (k3.2.2.2.1 h4)
    ·
      refine z_iconst (v := 1) dX9_layShifts_33 zciconst_1 ?_
      refine z_goto (tgt := 38) dX9_layShifts_34 (by decide) ?_
      refine z_iadd dX9_layShifts_38 ?_
      refine z_istore_n (lv' := [(1, .int (x1 + 1)), (0, .ref 21), (2, .int x2)]) dX9_layShifts_39 rfl (by decide) rfl ?_
      refine z_iinc (v := x2 + 1) (lv' := [(2, .int (x2 + 1)), (1, .int (x1 + 1)), (0, .ref 21)]) dX9_layShifts_40 2 rfl (by rw [zciconst_1]) (by decide) rfl ?_
      refine z_goto (tgt := 4) dX9_layShifts_43 (by decide) ?_
      refine z_sub [2, 1, 0] rfl ?_
      exact (k3.2.2.2.2 h4)
theorem dX9_least_0 : decode cX9_least 0 = .ok (.aload_n 0, 1) := by decide +kernel
theorem dX9_least_1 : decode cX9_least 1 = .ok (.iconst 0, 1) := by decide +kernel
theorem dX9_least_2 : decode cX9_least 2 = .ok (.putfield 69, 3) := by decide +kernel
theorem dX9_least_5 : decode cX9_least 5 = .ok (.aload_n 0, 1) := by decide +kernel
theorem dX9_least_6 : decode cX9_least 6 = .ok (.invokevirtual 72, 3) := by decide +kernel
theorem dX9_least_9 : decode cX9_least 9 = .ok (.aload_n 0, 1) := by decide +kernel
theorem dX9_least_10 : decode cX9_least 10 = .ok (.invokevirtual 127, 3) := by decide +kernel
theorem dX9_least_13 : decode cX9_least 13 = .ok (.idiv, 1) := by decide +kernel
theorem dX9_least_14 : decode cX9_least 14 = .ok (.ireturn, 1) := by decide +kernel
theorem bX9_least_0 (mem : zm_Mem) (post : zm_Post) (kk : zm_Call gX9_cells [.ref 21] (zm_st mem 21 0 0) (fun r1 w1 u1 => zm_Call gX9_layShifts [.ref 21] u1 (fun r2 w2 u2 => (¬ r2 = 0 ∧ post (r1 / r2) 0 u2)))) : zm_Call gX9_least [.ref 21] mem post := by
  refine z_entry (by decide) (Nat.le_of_ble_eq_true rfl) ?_
  show zm_Z gX9_least post 0 [(0, .ref 21)] [] mem
  refine z_aload_n dX9_least_0 rfl 0 rfl ?_
  refine z_iconst (v := 0) dX9_least_1 zciconst_0 ?_
  refine z_put (ci := 9) (j := 0) (T := TX9) (ty0 := tyX9) rfl rfl hX9 tyX9_ok nmX9 rfl (by decide) fkX9_69 rfl rfl rfl dX9_least_2 ?_
  refine z_aload_n dX9_least_5 rfl 0 rfl ?_
  refine z_callVi (g' := gX9_cells) [] (q := 21) (ci := 9) (T := TX9) rfl rfl ⟨lkX9_72, pdX9_cells, by decide, by decide⟩ ⟨_, rfl, by decide⟩ rfl (Nat.le_of_ble_eq_true rfl) dX9_least_6 (zm_Call.mono kk (fun r1 w1 u1 k1 => ?_))
  refine z_aload_n dX9_least_9 rfl 0 rfl ?_
  refine z_callVi (g' := gX9_layShifts) [] (q := 21) (ci := 9) (T := TX9) rfl rfl ⟨lkX9_127, pdX9_layShifts, by decide, by decide⟩ ⟨_, rfl, by decide⟩ rfl (Nat.le_of_ble_eq_true rfl) dX9_least_10 (zm_Call.mono k1 (fun r2 w2 u2 k2 => ?_))
  refine z_idiv dX9_least_13 k2.1 ?_
  exact z_iret rfl dX9_least_14 k2.2
theorem dX9_isMirror_0 : decode cX9_isMirror 0 = .ok (.iload_n 1, 1) := by decide +kernel
theorem dX9_isMirror_1 : decode cX9_isMirror 1 = .ok (.aload_n 0, 1) := by decide +kernel
theorem dX9_isMirror_2 : decode cX9_isMirror 2 = .ok (.invokevirtual 72, 3) := by decide +kernel
theorem dX9_isMirror_5 : decode cX9_isMirror 5 = .ok (.idiv, 1) := by decide +kernel
theorem dX9_isMirror_6 : decode cX9_isMirror 6 = .ok (.istore_n 2, 1) := by decide +kernel
theorem dX9_isMirror_7 : decode cX9_isMirror 7 = .ok (.iload_n 1, 1) := by decide +kernel
theorem dX9_isMirror_8 : decode cX9_isMirror 8 = .ok (.aload_n 0, 1) := by decide +kernel
theorem dX9_isMirror_9 : decode cX9_isMirror 9 = .ok (.invokevirtual 72, 3) := by decide +kernel
theorem dX9_isMirror_12 : decode cX9_isMirror 12 = .ok (.irem, 1) := by decide +kernel
theorem dX9_isMirror_13 : decode cX9_isMirror 13 = .ok (.aload_n 0, 1) := by decide +kernel
theorem dX9_isMirror_14 : decode cX9_isMirror 14 = .ok (.getfield 7, 3) := by decide +kernel
theorem dX9_isMirror_17 : decode cX9_isMirror 17 = .ok (.irem, 1) := by decide +kernel
theorem dX9_isMirror_18 : decode cX9_isMirror 18 = .ok (.istore_n 3, 1) := by decide +kernel
theorem dX9_isMirror_19 : decode cX9_isMirror 19 = .ok (.iload_n 1, 1) := by decide +kernel
theorem dX9_isMirror_20 : decode cX9_isMirror 20 = .ok (.aload_n 0, 1) := by decide +kernel
theorem dX9_isMirror_21 : decode cX9_isMirror 21 = .ok (.invokevirtual 72, 3) := by decide +kernel
theorem dX9_isMirror_24 : decode cX9_isMirror 24 = .ok (.irem, 1) := by decide +kernel
theorem dX9_isMirror_25 : decode cX9_isMirror 25 = .ok (.aload_n 0, 1) := by decide +kernel
theorem dX9_isMirror_26 : decode cX9_isMirror 26 = .ok (.getfield 7, 3) := by decide +kernel
theorem dX9_isMirror_29 : decode cX9_isMirror 29 = .ok (.idiv, 1) := by decide +kernel
theorem dX9_isMirror_30 : decode cX9_isMirror 30 = .ok (.istore 4, 2) := by decide +kernel
theorem dX9_isMirror_32 : decode cX9_isMirror 32 = .ok (.iload_n 2, 1) := by decide +kernel
theorem dX9_isMirror_33 : decode cX9_isMirror 33 = .ok (.iconst 4, 1) := by decide +kernel
theorem dX9_isMirror_34 : decode cX9_isMirror 34 = .ok (.if_icmp .ne 16, 3) := by decide +kernel
theorem dX9_isMirror_37 : decode cX9_isMirror 37 = .ok (.iload 4, 2) := by decide +kernel
theorem dX9_isMirror_39 : decode cX9_isMirror 39 = .ok (.ifCond .ne 7, 3) := by decide +kernel
theorem dX9_isMirror_42 : decode cX9_isMirror 42 = .ok (.iconst 1, 1) := by decide +kernel
theorem dX9_isMirror_43 : decode cX9_isMirror 43 = .ok (.goto 67, 3) := by decide +kernel
theorem dX9_isMirror_46 : decode cX9_isMirror 46 = .ok (.iconst 0, 1) := by decide +kernel
theorem dX9_isMirror_47 : decode cX9_isMirror 47 = .ok (.goto 63, 3) := by decide +kernel
theorem dX9_isMirror_50 : decode cX9_isMirror 50 = .ok (.iload_n 2, 1) := by decide +kernel
theorem dX9_isMirror_51 : decode cX9_isMirror 51 = .ok (.iconst 5, 1) := by decide +kernel
theorem dX9_isMirror_52 : decode cX9_isMirror 52 = .ok (.if_icmp .ne 15, 3) := by decide +kernel
theorem dX9_isMirror_55 : decode cX9_isMirror 55 = .ok (.iload_n 3, 1) := by decide +kernel
theorem dX9_isMirror_56 : decode cX9_isMirror 56 = .ok (.ifCond .ne 7, 3) := by decide +kernel
theorem dX9_isMirror_59 : decode cX9_isMirror 59 = .ok (.iconst 1, 1) := by decide +kernel
theorem dX9_isMirror_60 : decode cX9_isMirror 60 = .ok (.goto 50, 3) := by decide +kernel
theorem dX9_isMirror_63 : decode cX9_isMirror 63 = .ok (.iconst 0, 1) := by decide +kernel
theorem dX9_isMirror_64 : decode cX9_isMirror 64 = .ok (.goto 46, 3) := by decide +kernel
theorem dX9_isMirror_67 : decode cX9_isMirror 67 = .ok (.iload_n 2, 1) := by decide +kernel
theorem dX9_isMirror_68 : decode cX9_isMirror 68 = .ok (.bipush 6, 2) := by decide +kernel
theorem dX9_isMirror_70 : decode cX9_isMirror 70 = .ok (.if_icmp .ne 23, 3) := by decide +kernel
theorem dX9_isMirror_73 : decode cX9_isMirror 73 = .ok (.iload_n 3, 1) := by decide +kernel
theorem dX9_isMirror_74 : decode cX9_isMirror 74 = .ok (.iload 4, 2) := by decide +kernel
theorem dX9_isMirror_76 : decode cX9_isMirror 76 = .ok (.iadd, 1) := by decide +kernel
theorem dX9_isMirror_77 : decode cX9_isMirror 77 = .ok (.aload_n 0, 1) := by decide +kernel
theorem dX9_isMirror_78 : decode cX9_isMirror 78 = .ok (.getfield 7, 3) := by decide +kernel
theorem dX9_isMirror_81 : decode cX9_isMirror 81 = .ok (.irem, 1) := by decide +kernel
theorem dX9_isMirror_82 : decode cX9_isMirror 82 = .ok (.ifCond .ne 7, 3) := by decide +kernel
theorem dX9_isMirror_85 : decode cX9_isMirror 85 = .ok (.iconst 1, 1) := by decide +kernel
theorem dX9_isMirror_86 : decode cX9_isMirror 86 = .ok (.goto 24, 3) := by decide +kernel
theorem dX9_isMirror_89 : decode cX9_isMirror 89 = .ok (.iconst 0, 1) := by decide +kernel
theorem dX9_isMirror_90 : decode cX9_isMirror 90 = .ok (.goto 20, 3) := by decide +kernel
theorem dX9_isMirror_93 : decode cX9_isMirror 93 = .ok (.iload_n 2, 1) := by decide +kernel
theorem dX9_isMirror_94 : decode cX9_isMirror 94 = .ok (.bipush 7, 2) := by decide +kernel
theorem dX9_isMirror_96 : decode cX9_isMirror 96 = .ok (.if_icmp .ne 13, 3) := by decide +kernel
theorem dX9_isMirror_99 : decode cX9_isMirror 99 = .ok (.iload_n 3, 1) := by decide +kernel
theorem dX9_isMirror_100 : decode cX9_isMirror 100 = .ok (.iload 4, 2) := by decide +kernel
theorem dX9_isMirror_102 : decode cX9_isMirror 102 = .ok (.if_icmp .ne 7, 3) := by decide +kernel
theorem dX9_isMirror_105 : decode cX9_isMirror 105 = .ok (.iconst 1, 1) := by decide +kernel
theorem dX9_isMirror_106 : decode cX9_isMirror 106 = .ok (.goto 4, 3) := by decide +kernel
theorem dX9_isMirror_109 : decode cX9_isMirror 109 = .ok (.iconst 0, 1) := by decide +kernel
theorem dX9_isMirror_110 : decode cX9_isMirror 110 = .ok (.ireturn, 1) := by decide +kernel
theorem bX9_isMirror_0 (x1 : Int32) (mem : zm_Mem) (post : zm_Post) (kk : zm_Call gX9_cells [.ref 21] mem (fun r1 w1 u1 => (¬ r1 = 0 ∧ zm_Call gX9_cells [.ref 21] u1 (fun r2 w2 u2 => (¬ r2 = 0 ∧ (¬ u2 21 1 = 0 ∧ zm_Call gX9_cells [.ref 21] u2 (fun r3 w3 u3 => (¬ r3 = 0 ∧ (¬ u3 21 1 = 0 ∧ ((¬ (x1 / r1) = 4 → ((¬ (x1 / r1) = 5 → ((¬ (x1 / r1) = 6 → ((¬ (x1 / r1) = 7 → post 0 0 u3) ∧ ((x1 / r1) = 7 → ((¬ ((x1 - x1 / r2 * r2) - (x1 - x1 / r2 * r2) / (u2 21 1) * (u2 21 1)) = ((x1 - x1 / r3 * r3) / (u3 21 1)) → post 0 0 u3) ∧ (((x1 - x1 / r2 * r2) - (x1 - x1 / r2 * r2) / (u2 21 1) * (u2 21 1)) = ((x1 - x1 / r3 * r3) / (u3 21 1)) → post 1 0 u3))))) ∧ ((x1 / r1) = 6 → (¬ u3 21 1 = 0 ∧ ((¬ ((((x1 - x1 / r2 * r2) - (x1 - x1 / r2 * r2) / (u2 21 1) * (u2 21 1)) + ((x1 - x1 / r3 * r3) / (u3 21 1))) - (((x1 - x1 / r2 * r2) - (x1 - x1 / r2 * r2) / (u2 21 1) * (u2 21 1)) + ((x1 - x1 / r3 * r3) / (u3 21 1))) / (u3 21 1) * (u3 21 1)) = 0 → post 0 0 u3) ∧ (((((x1 - x1 / r2 * r2) - (x1 - x1 / r2 * r2) / (u2 21 1) * (u2 21 1)) + ((x1 - x1 / r3 * r3) / (u3 21 1))) - (((x1 - x1 / r2 * r2) - (x1 - x1 / r2 * r2) / (u2 21 1) * (u2 21 1)) + ((x1 - x1 / r3 * r3) / (u3 21 1))) / (u3 21 1) * (u3 21 1)) = 0 → post 1 0 u3)))))) ∧ ((x1 / r1) = 5 → ((¬ ((x1 - x1 / r2 * r2) - (x1 - x1 / r2 * r2) / (u2 21 1) * (u2 21 1)) = 0 → post 0 0 u3) ∧ (((x1 - x1 / r2 * r2) - (x1 - x1 / r2 * r2) / (u2 21 1) * (u2 21 1)) = 0 → post 1 0 u3))))) ∧ ((x1 / r1) = 4 → ((¬ ((x1 - x1 / r3 * r3) / (u3 21 1)) = 0 → post 0 0 u3) ∧ (((x1 - x1 / r3 * r3) / (u3 21 1)) = 0 → post 1 0 u3))))))))))))) : zm_Call gX9_isMirror [.ref 21, .int x1] mem post := by
  refine z_entry (by decide) (Nat.le_of_ble_eq_true rfl) ?_
  show zm_Z gX9_isMirror post 0 [(0, .ref 21), (1, .int x1)] [] mem
  refine z_iload_n dX9_isMirror_0 rfl 1 rfl ?_
  refine z_aload_n dX9_isMirror_1 rfl 0 rfl ?_
  refine z_callVi (g' := gX9_cells) [] (q := 21) (ci := 9) (T := TX9) rfl rfl ⟨lkX9_72, pdX9_cells, by decide, by decide⟩ ⟨_, rfl, by decide⟩ rfl (Nat.le_of_ble_eq_true rfl) dX9_isMirror_2 (zm_Call.mono kk (fun r1 w1 u1 k1 => ?_))
  refine z_idiv dX9_isMirror_5 k1.1 ?_
  refine z_istore_n (lv' := [(2, .int (x1 / r1)), (0, .ref 21), (1, .int x1)]) dX9_isMirror_6 rfl (by decide) rfl ?_
  refine z_iload_n dX9_isMirror_7 rfl 2 rfl ?_
  refine z_aload_n dX9_isMirror_8 rfl 1 rfl ?_
  refine z_callVi (g' := gX9_cells) [] (q := 21) (ci := 9) (T := TX9) rfl rfl ⟨lkX9_72, pdX9_cells, by decide, by decide⟩ ⟨_, rfl, by decide⟩ rfl (Nat.le_of_ble_eq_true rfl) dX9_isMirror_9 (zm_Call.mono k1.2 (fun r2 w2 u2 k2 => ?_))
  refine z_irem dX9_isMirror_12 k2.1 ?_
  refine z_aload_n dX9_isMirror_13 rfl 1 rfl ?_
  refine z_geti (ci := 9) (j := 1) (T := TX9) rfl rfl hX9 rfl (by decide) fkX9_7 dX9_isMirror_14 ?_
  refine z_irem dX9_isMirror_17 k2.2.1 ?_
  refine z_istore_n (lv' := [(3, .int ((x1 - x1 / r2 * r2) - (x1 - x1 / r2 * r2) / (u2 21 1) * (u2 21 1))), (2, .int (x1 / r1)), (0, .ref 21), (1, .int x1)]) dX9_isMirror_18 rfl (by decide) rfl ?_
  refine z_iload_n dX9_isMirror_19 rfl 3 rfl ?_
  refine z_aload_n dX9_isMirror_20 rfl 2 rfl ?_
  refine z_callVi (g' := gX9_cells) [] (q := 21) (ci := 9) (T := TX9) rfl rfl ⟨lkX9_72, pdX9_cells, by decide, by decide⟩ ⟨_, rfl, by decide⟩ rfl (Nat.le_of_ble_eq_true rfl) dX9_isMirror_21 (zm_Call.mono k2.2.2 (fun r3 w3 u3 k3 => ?_))
  refine z_irem dX9_isMirror_24 k3.1 ?_
  refine z_aload_n dX9_isMirror_25 rfl 2 rfl ?_
  refine z_geti (ci := 9) (j := 1) (T := TX9) rfl rfl hX9 rfl (by decide) fkX9_7 dX9_isMirror_26 ?_
  refine z_idiv dX9_isMirror_29 k3.2.1 ?_
  refine z_istore (lv' := [(4, .int ((x1 - x1 / r3 * r3) / (u3 21 1))), (3, .int ((x1 - x1 / r2 * r2) - (x1 - x1 / r2 * r2) / (u2 21 1) * (u2 21 1))), (2, .int (x1 / r1)), (0, .ref 21), (1, .int x1)]) dX9_isMirror_30 (by decide) rfl ?_
  refine z_iload_n dX9_isMirror_32 rfl 2 rfl ?_
  refine z_iconst (v := 4) dX9_isMirror_33 zciconst_4 ?_
  refine z_icmp_ne (tgt := 50) dX9_isMirror_34 (by decide) (fun h4 => ?_) (fun h4 => ?_)
  ·
    refine z_iload_n dX9_isMirror_50 rfl 2 rfl ?_
    refine z_iconst (v := 5) dX9_isMirror_51 zciconst_5 ?_
    refine z_icmp_ne (tgt := 67) dX9_isMirror_52 (by decide) (fun h5 => ?_) (fun h5 => ?_)
    ·
      refine z_iload_n dX9_isMirror_67 rfl 2 rfl ?_
      refine z_bipush (v := 6) dX9_isMirror_68 zcbipush_6 ?_
      refine z_icmp_ne (tgt := 93) dX9_isMirror_70 (by decide) (fun h6 => ?_) (fun h6 => ?_)
      ·
        refine z_iload_n dX9_isMirror_93 rfl 2 rfl ?_
        refine z_bipush (v := 7) dX9_isMirror_94 zcbipush_7 ?_
        refine z_icmp_ne (tgt := 109) dX9_isMirror_96 (by decide) (fun h7 => ?_) (fun h7 => ?_)
        ·
          refine z_iconst (v := 0) dX9_isMirror_109 zciconst_0 ?_
          exact z_zret rfl (by decide) dX9_isMirror_110 ((((k3.2.2.1 h4).1 h5).1 h6).1 h7)
        ·
          refine z_iload_n dX9_isMirror_99 rfl 1 rfl ?_
          refine z_iload dX9_isMirror_100 0 rfl ?_
          refine z_icmp_ne (tgt := 109) dX9_isMirror_102 (by decide) (fun h8 => ?_) (fun h8 => ?_)
          ·
            refine z_iconst (v := 0) dX9_isMirror_109 zciconst_0 ?_
            exact z_zret rfl (by decide) dX9_isMirror_110 (((((k3.2.2.1 h4).1 h5).1 h6).2 h7).1 h8)
          ·
            refine z_iconst (v := 1) dX9_isMirror_105 zciconst_1 ?_
            refine z_goto (tgt := 110) dX9_isMirror_106 (by decide) ?_
            exact z_zret rfl (by decide) dX9_isMirror_110 (((((k3.2.2.1 h4).1 h5).1 h6).2 h7).2 h8)
      ·
        refine z_iload_n dX9_isMirror_73 rfl 1 rfl ?_
        refine z_iload dX9_isMirror_74 0 rfl ?_
        refine z_iadd dX9_isMirror_76 ?_
        refine z_aload_n dX9_isMirror_77 rfl 3 rfl ?_
        refine z_geti (ci := 9) (j := 1) (T := TX9) rfl rfl hX9 rfl (by decide) fkX9_7 dX9_isMirror_78 ?_
        refine z_irem dX9_isMirror_81 (((k3.2.2.1 h4).1 h5).2 h6).1 ?_
        refine z_if_ne (tgt := 89) dX9_isMirror_82 (by decide) (fun h9 => ?_) (fun h9 => ?_)
        ·
          refine z_iconst (v := 0) dX9_isMirror_89 zciconst_0 ?_
          refine z_goto (tgt := 110) dX9_isMirror_90 (by decide) ?_
          exact z_zret rfl (by decide) dX9_isMirror_110 ((((k3.2.2.1 h4).1 h5).2 h6).2.1 h9)
        ·
          refine z_iconst (v := 1) dX9_isMirror_85 zciconst_1 ?_
          refine z_goto (tgt := 110) dX9_isMirror_86 (by decide) ?_
          exact z_zret rfl (by decide) dX9_isMirror_110 ((((k3.2.2.1 h4).1 h5).2 h6).2.2 h9)
    ·
      refine z_iload_n dX9_isMirror_55 rfl 1 rfl ?_
      refine z_if_ne (tgt := 63) dX9_isMirror_56 (by decide) (fun h10 => ?_) (fun h10 => ?_)
      ·
        refine z_iconst (v := 0) dX9_isMirror_63 zciconst_0 ?_
        refine z_goto (tgt := 110) dX9_isMirror_64 (by decide) ?_
        exact z_zret rfl (by decide) dX9_isMirror_110 (((k3.2.2.1 h4).2 h5).1 h10)
      ·
        refine z_iconst (v := 1) dX9_isMirror_59 zciconst_1 ?_
        refine z_goto (tgt := 110) dX9_isMirror_60 (by decide) ?_
        exact z_zret rfl (by decide) dX9_isMirror_110 (((k3.2.2.1 h4).2 h5).2 h10)
  ·
    refine z_iload dX9_isMirror_37 0 rfl ?_
    refine z_if_ne (tgt := 46) dX9_isMirror_39 (by decide) (fun h11 => ?_) (fun h11 => ?_)
    ·
      refine z_iconst (v := 0) dX9_isMirror_46 zciconst_0 ?_
      refine z_goto (tgt := 110) dX9_isMirror_47 (by decide) ?_
      exact z_zret rfl (by decide) dX9_isMirror_110 ((k3.2.2.2 h4).1 h11)
    ·
      refine z_iconst (v := 1) dX9_isMirror_42 zciconst_1 ?_
      refine z_goto (tgt := 110) dX9_isMirror_43 (by decide) ?_
      exact z_zret rfl (by decide) dX9_isMirror_110 ((k3.2.2.2 h4).2 h11)
theorem dX9_isMirrored_0 : decode cX9_isMirrored 0 = .ok (.iconst 0, 1) := by decide +kernel
theorem dX9_isMirrored_1 : decode cX9_isMirrored 1 = .ok (.istore_n 2, 1) := by decide +kernel
theorem dX9_isMirrored_2 : decode cX9_isMirrored 2 = .ok (.iconst 0, 1) := by decide +kernel
theorem dX9_isMirrored_3 : decode cX9_isMirrored 3 = .ok (.istore_n 3, 1) := by decide +kernel
theorem dX9_isMirrored_4 : decode cX9_isMirrored 4 = .ok (.iload_n 3, 1) := by decide +kernel
theorem dX9_isMirrored_5 : decode cX9_isMirrored 5 = .ok (.aload_n 0, 1) := by decide +kernel
theorem dX9_isMirrored_6 : decode cX9_isMirrored 6 = .ok (.invokevirtual 72, 3) := by decide +kernel
theorem dX9_isMirrored_9 : decode cX9_isMirrored 9 = .ok (.if_icmp .ge 55, 3) := by decide +kernel
theorem dX9_isMirrored_12 : decode cX9_isMirrored 12 = .ok (.aload_n 0, 1) := by decide +kernel
theorem dX9_isMirrored_13 : decode cX9_isMirrored 13 = .ok (.iload_n 1, 1) := by decide +kernel
theorem dX9_isMirrored_14 : decode cX9_isMirrored 14 = .ok (.invokevirtual 80, 3) := by decide +kernel
theorem dX9_isMirrored_17 : decode cX9_isMirrored 17 = .ok (.ifCond .eq 47, 3) := by decide +kernel
theorem dX9_isMirrored_20 : decode cX9_isMirrored 20 = .ok (.aload_n 0, 1) := by decide +kernel
theorem dX9_isMirrored_21 : decode cX9_isMirrored 21 = .ok (.invokevirtual 72, 3) := by decide +kernel
theorem dX9_isMirrored_24 : decode cX9_isMirrored 24 = .ok (.iload_n 1, 1) := by decide +kernel
theorem dX9_isMirrored_25 : decode cX9_isMirrored 25 = .ok (.imul, 1) := by decide +kernel
theorem dX9_isMirrored_26 : decode cX9_isMirrored 26 = .ok (.iload_n 3, 1) := by decide +kernel
theorem dX9_isMirrored_27 : decode cX9_isMirrored 27 = .ok (.iadd, 1) := by decide +kernel
theorem dX9_isMirrored_28 : decode cX9_isMirrored 28 = .ok (.istore 4, 2) := by decide +kernel
theorem dX9_isMirrored_30 : decode cX9_isMirrored 30 = .ok (.iload_n 2, 1) := by decide +kernel
theorem dX9_isMirrored_31 : decode cX9_isMirrored 31 = .ok (.ifCond .ne 21, 3) := by decide +kernel
theorem dX9_isMirrored_34 : decode cX9_isMirrored 34 = .ok (.aload_n 0, 1) := by decide +kernel
theorem dX9_isMirrored_35 : decode cX9_isMirrored 35 = .ok (.iload 4, 2) := by decide +kernel
theorem dX9_isMirrored_37 : decode cX9_isMirrored 37 = .ok (.invokevirtual 130, 3) := by decide +kernel
theorem dX9_isMirrored_40 : decode cX9_isMirrored 40 = .ok (.ifCond .eq 16, 3) := by decide +kernel
theorem dX9_isMirrored_43 : decode cX9_isMirrored 43 = .ok (.aload_n 0, 1) := by decide +kernel
theorem dX9_isMirrored_44 : decode cX9_isMirrored 44 = .ok (.iload 4, 2) := by decide +kernel
theorem dX9_isMirrored_46 : decode cX9_isMirrored 46 = .ok (.invokevirtual 122, 3) := by decide +kernel
theorem dX9_isMirrored_49 : decode cX9_isMirrored 49 = .ok (.ifCond .eq 7, 3) := by decide +kernel
theorem dX9_isMirrored_52 : decode cX9_isMirrored 52 = .ok (.iconst 1, 1) := by decide +kernel
theorem dX9_isMirrored_53 : decode cX9_isMirrored 53 = .ok (.goto 4, 3) := by decide +kernel
theorem dX9_isMirrored_56 : decode cX9_isMirrored 56 = .ok (.iconst 0, 1) := by decide +kernel
theorem dX9_isMirrored_57 : decode cX9_isMirrored 57 = .ok (.istore_n 2, 1) := by decide +kernel
theorem dX9_isMirrored_58 : decode cX9_isMirrored 58 = .ok (.iinc 3 1, 3) := by decide +kernel
theorem dX9_isMirrored_61 : decode cX9_isMirrored 61 = .ok (.goto (-57), 3) := by decide +kernel
theorem dX9_isMirrored_64 : decode cX9_isMirrored 64 = .ok (.iload_n 2, 1) := by decide +kernel
theorem dX9_isMirrored_65 : decode cX9_isMirrored 65 = .ok (.ireturn, 1) := by decide +kernel
theorem bX9_isMirrored_0 (x1 : Int32) (mem : zm_Mem) (post : zm_Post) (kk : zm_Z gX9_isMirrored post 4 [(0, .ref 21), (1, .int x1), (2, .int 0), (3, .int 0)] [] mem) : zm_Call gX9_isMirrored [.ref 21, .int x1] mem post := by
  refine z_entry (by decide) (Nat.le_of_ble_eq_true rfl) ?_
  show zm_Z gX9_isMirrored post 0 [(0, .ref 21), (1, .int x1)] [] mem
  refine z_iconst (v := 0) dX9_isMirrored_0 zciconst_0 ?_
  refine z_istore_n (lv' := [(2, .int 0), (0, .ref 21), (1, .int x1)]) dX9_isMirrored_1 rfl (by decide) rfl ?_
  refine z_iconst (v := 0) dX9_isMirrored_2 zciconst_0 ?_
  refine z_istore_n (lv' := [(3, .int 0), (2, .int 0), (0, .ref 21), (1, .int x1)]) dX9_isMirrored_3 rfl (by decide) rfl ?_
  refine z_sub [2, 3, 1, 0] rfl ?_
  exact kk
theorem bX9_isMirrored_4 (x1 : Int32) (x2 : Int32) (x3 : Int32) (mem : zm_Mem) (post : zm_Post) (kk : zm_Call gX9_cells [.ref 21] mem (fun r1 w1 u1 => ((r1 ≤ x3 → ((x2 = 0 ∨ x2 = 1) ∧ post x2 0 u1)) ∧ (¬ r1 ≤ x3 → zm_Call gX9_isTurn [.ref 21, .int x1] u1 (fun r3 w3 u3 => ((r3 = 0 → ((x2 = 0 ∨ x2 = 1) ∧ post x2 0 u3)) ∧ (¬ r3 = 0 → zm_Call gX9_cells [.ref 21] u3 (fun r5 w5 u5 => ((¬ x2 = 0 → zm_Z gX9_isMirrored post 52 [(0, .ref 21), (1, .int x1), (3, .int x3)] [] u5) ∧ (x2 = 0 → zm_Call gX9_isMirror [.ref 21, .int ((r5 * x1) + x3)] u5 (fun r7 w7 u7 => ((r7 = 0 → zm_Z gX9_isMirrored post 4 [(0, .ref 21), (1, .int x1), (2, .int 0), (3, .int (x3 + 1))] [] u7) ∧ (¬ r7 = 0 → zm_Call gX9_keepsIt [.ref 21, .int ((r5 * x1) + x3)] u7 (fun r9 w9 u9 => ((r9 = 0 → zm_Z gX9_isMirrored post 4 [(0, .ref 21), (1, .int x1), (2, .int 0), (3, .int (x3 + 1))] [] u9) ∧ (¬ r9 = 0 → zm_Z gX9_isMirrored post 52 [(0, .ref 21), (1, .int x1), (3, .int x3)] [] u9)))))))))))))))) : zm_Z gX9_isMirrored post 4 [(0, .ref 21), (1, .int x1), (2, .int x2), (3, .int x3)] [] mem := by
  refine z_iload_n dX9_isMirrored_4 rfl 3 rfl ?_
  refine z_aload_n dX9_isMirrored_5 rfl 0 rfl ?_
  refine z_callVi (g' := gX9_cells) [] (q := 21) (ci := 9) (T := TX9) rfl rfl ⟨lkX9_72, pdX9_cells, by decide, by decide⟩ ⟨_, rfl, by decide⟩ rfl (Nat.le_of_ble_eq_true rfl) dX9_isMirrored_6 (zm_Call.mono kk (fun r1 w1 u1 k1 => ?_))
  refine z_icmp_ge (tgt := 64) dX9_isMirrored_9 (by decide) (fun h2 => ?_) (fun h2 => ?_)
  ·
    refine z_iload_n dX9_isMirrored_64 rfl 2 rfl ?_
    exact z_zret rfl (k1.1 h2).1 dX9_isMirrored_65 (k1.1 h2).2
  ·
    refine z_aload_n dX9_isMirrored_12 rfl 0 rfl ?_
    refine z_iload_n dX9_isMirrored_13 rfl 1 rfl ?_
    refine z_callVi (g' := gX9_isTurn) [.int x1] (q := 21) (ci := 9) (T := TX9) rfl rfl ⟨lkX9_80, pdX9_isTurn, by decide, by decide⟩ ⟨_, rfl, by decide⟩ rfl (Nat.le_of_ble_eq_true rfl) dX9_isMirrored_14 (zm_Call.mono (k1.2 h2) (fun r3 w3 u3 k3 => ?_))
    refine z_if_eq (tgt := 64) dX9_isMirrored_17 (by decide) (fun h4 => ?_) (fun h4 => ?_)
    ·
      refine z_iload_n dX9_isMirrored_64 rfl 2 rfl ?_
      exact z_zret rfl (k3.1 h4).1 dX9_isMirrored_65 (k3.1 h4).2
    ·
      refine z_aload_n dX9_isMirrored_20 rfl 0 rfl ?_
      refine z_callVi (g' := gX9_cells) [] (q := 21) (ci := 9) (T := TX9) rfl rfl ⟨lkX9_72, pdX9_cells, by decide, by decide⟩ ⟨_, rfl, by decide⟩ rfl (Nat.le_of_ble_eq_true rfl) dX9_isMirrored_21 (zm_Call.mono (k3.2 h4) (fun r5 w5 u5 k5 => ?_))
      refine z_iload_n dX9_isMirrored_24 rfl 1 rfl ?_
      refine z_imul dX9_isMirrored_25 ?_
      refine z_iload_n dX9_isMirrored_26 rfl 3 rfl ?_
      refine z_iadd dX9_isMirrored_27 ?_
      refine z_istore (lv' := [(4, .int ((r5 * x1) + x3)), (0, .ref 21), (1, .int x1), (2, .int x2), (3, .int x3)]) dX9_isMirrored_28 (by decide) rfl ?_
      refine z_iload_n dX9_isMirrored_30 rfl 3 rfl ?_
      refine z_if_ne (tgt := 52) dX9_isMirrored_31 (by decide) (fun h6 => ?_) (fun h6 => ?_)
      ·
        refine z_sub [1, 2, 4] rfl ?_
        exact (k5.1 h6)
      ·
        refine z_aload_n dX9_isMirrored_34 rfl 1 rfl ?_
        refine z_iload dX9_isMirrored_35 0 rfl ?_
        refine z_callVi (g' := gX9_isMirror) [.int ((r5 * x1) + x3)] (q := 21) (ci := 9) (T := TX9) rfl rfl ⟨lkX9_130, pdX9_isMirror, by decide, by decide⟩ ⟨_, rfl, by decide⟩ rfl (Nat.le_of_ble_eq_true rfl) dX9_isMirrored_37 (zm_Call.mono (k5.2 h6) (fun r7 w7 u7 k7 => ?_))
        refine z_if_eq (tgt := 56) dX9_isMirrored_40 (by decide) (fun h8 => ?_) (fun h8 => ?_)
        ·
          refine z_iconst (v := 0) dX9_isMirrored_56 zciconst_0 ?_
          refine z_istore_n (lv' := [(2, .int 0), (4, .int ((r5 * x1) + x3)), (0, .ref 21), (1, .int x1), (3, .int x3)]) dX9_isMirrored_57 rfl (by decide) rfl ?_
          refine z_iinc (v := x3 + 1) (lv' := [(3, .int (x3 + 1)), (2, .int 0), (4, .int ((r5 * x1) + x3)), (0, .ref 21), (1, .int x1)]) dX9_isMirrored_58 4 rfl (by rw [zciconst_1]) (by decide) rfl ?_
          refine z_goto (tgt := 4) dX9_isMirrored_61 (by decide) ?_
          refine z_sub [3, 4, 1, 0] rfl ?_
          exact (k7.1 h8)
        ·
          refine z_aload_n dX9_isMirrored_43 rfl 1 rfl ?_
          refine z_iload dX9_isMirrored_44 0 rfl ?_
          refine z_callVi (g' := gX9_keepsIt) [.int ((r5 * x1) + x3)] (q := 21) (ci := 9) (T := TX9) rfl rfl ⟨lkX9_122, pdX9_keepsIt, by decide, by decide⟩ ⟨_, rfl, by decide⟩ rfl (Nat.le_of_ble_eq_true rfl) dX9_isMirrored_46 (zm_Call.mono (k7.2 h8) (fun r9 w9 u9 k9 => ?_))
          refine z_if_eq (tgt := 56) dX9_isMirrored_49 (by decide) (fun h10 => ?_) (fun h10 => ?_)
          ·
            refine z_iconst (v := 0) dX9_isMirrored_56 zciconst_0 ?_
            refine z_istore_n (lv' := [(2, .int 0), (4, .int ((r5 * x1) + x3)), (0, .ref 21), (1, .int x1), (3, .int x3)]) dX9_isMirrored_57 rfl (by decide) rfl ?_
            refine z_iinc (v := x3 + 1) (lv' := [(3, .int (x3 + 1)), (2, .int 0), (4, .int ((r5 * x1) + x3)), (0, .ref 21), (1, .int x1)]) dX9_isMirrored_58 4 rfl (by rw [zciconst_1]) (by decide) rfl ?_
            refine z_goto (tgt := 4) dX9_isMirrored_61 (by decide) ?_
            refine z_sub [3, 4, 1, 0] rfl ?_
            exact (k9.1 h10)
          ·
            refine z_sub [1, 2, 4] rfl ?_
            exact (k9.2 h10)
theorem bX9_isMirrored_52 (x1 : Int32) (x3 : Int32) (mem : zm_Mem) (post : zm_Post) (kk : zm_Z gX9_isMirrored post 4 [(0, .ref 21), (1, .int x1), (2, .int 1), (3, .int (x3 + 1))] [] mem) : zm_Z gX9_isMirrored post 52 [(0, .ref 21), (1, .int x1), (3, .int x3)] [] mem := by
  refine z_iconst (v := 1) dX9_isMirrored_52 zciconst_1 ?_
  refine z_goto (tgt := 57) dX9_isMirrored_53 (by decide) ?_
  refine z_istore_n (lv' := [(2, .int 1), (0, .ref 21), (1, .int x1), (3, .int x3)]) dX9_isMirrored_57 rfl (by decide) rfl ?_
  refine z_iinc (v := x3 + 1) (lv' := [(3, .int (x3 + 1)), (2, .int 1), (0, .ref 21), (1, .int x1)]) dX9_isMirrored_58 3 rfl (by rw [zciconst_1]) (by decide) rfl ?_
  refine z_goto (tgt := 4) dX9_isMirrored_61 (by decide) ?_
  refine z_sub [2, 3, 1, 0] rfl ?_
  exact kk
theorem dX9_mirrored_0 : decode cX9_mirrored 0 = .ok (.aload_n 0, 1) := by decide +kernel
theorem dX9_mirrored_1 : decode cX9_mirrored 1 = .ok (.iconst 0, 1) := by decide +kernel
theorem dX9_mirrored_2 : decode cX9_mirrored 2 = .ok (.putfield 69, 3) := by decide +kernel
theorem dX9_mirrored_5 : decode cX9_mirrored 5 = .ok (.iload_n 1, 1) := by decide +kernel
theorem dX9_mirrored_6 : decode cX9_mirrored 6 = .ok (.i2l, 1) := by decide +kernel
theorem dX9_mirrored_7 : decode cX9_mirrored 7 = .ok (.ldc2_w 100, 3) := by decide +kernel
theorem dX9_mirrored_10 : decode cX9_mirrored 10 = .ok (.ldc2_w 133, 3) := by decide +kernel
theorem dX9_mirrored_13 : decode cX9_mirrored 13 = .ok (.invokestatic 76, 3) := by decide +kernel
theorem dX9_mirrored_16 : decode cX9_mirrored 16 = .ok (.ifCond .ne 8, 3) := by decide +kernel
theorem dX9_mirrored_19 : decode cX9_mirrored 19 = .ok (.bipush (-2), 2) := by decide +kernel
theorem dX9_mirrored_21 : decode cX9_mirrored 21 = .ok (.goto 16, 3) := by decide +kernel
theorem dX9_mirrored_24 : decode cX9_mirrored 24 = .ok (.aload_n 0, 1) := by decide +kernel
theorem dX9_mirrored_25 : decode cX9_mirrored 25 = .ok (.iload_n 1, 1) := by decide +kernel
theorem dX9_mirrored_26 : decode cX9_mirrored 26 = .ok (.invokevirtual 135, 3) := by decide +kernel
theorem dX9_mirrored_29 : decode cX9_mirrored 29 = .ok (.ifCond .eq 7, 3) := by decide +kernel
theorem dX9_mirrored_32 : decode cX9_mirrored 32 = .ok (.iconst 1, 1) := by decide +kernel
theorem dX9_mirrored_33 : decode cX9_mirrored 33 = .ok (.goto 4, 3) := by decide +kernel
theorem dX9_mirrored_36 : decode cX9_mirrored 36 = .ok (.iconst 0, 1) := by decide +kernel
theorem dX9_mirrored_37 : decode cX9_mirrored 37 = .ok (.ireturn, 1) := by decide +kernel
theorem bX9_mirrored_0 (x1 : Int32) (mem : zm_Mem) (post : zm_Post) (kk : zm_Call gX9_in [.long (Int32.toInt64 x1), .long 4, .long 7] (zm_st mem 21 0 0) (fun r1 w1 u1 => ((¬ r1 = 0 → zm_Call gX9_isMirrored [.ref 21, .int x1] u1 (fun r3 w3 u3 => ((r3 = 0 → post 0 0 u3) ∧ (¬ r3 = 0 → post 1 0 u3)))) ∧ (r1 = 0 → post (-2) 0 u1)))) : zm_Call gX9_mirrored [.ref 21, .int x1] mem post := by
  refine z_entry (by decide) (Nat.le_of_ble_eq_true rfl) ?_
  show zm_Z gX9_mirrored post 0 [(0, .ref 21), (1, .int x1)] [] mem
  refine z_aload_n dX9_mirrored_0 rfl 0 rfl ?_
  refine z_iconst (v := 0) dX9_mirrored_1 zciconst_0 ?_
  refine z_put (ci := 9) (j := 0) (T := TX9) (ty0 := tyX9) rfl rfl hX9 tyX9_ok nmX9 rfl (by decide) fkX9_69 rfl rfl rfl dX9_mirrored_2 ?_
  refine z_iload_n dX9_mirrored_5 rfl 1 rfl ?_
  refine z_i2l dX9_mirrored_6 ?_
  refine z_ldc2 (v := 4) dX9_mirrored_7 fkX9_100 ?_
  refine z_ldc2 (v := 7) dX9_mirrored_10 fkX9_133 ?_
  refine z_callSi (g' := gX9_in) (st := []) [.long (Int32.toInt64 x1), .long 4, .long 7] ⟨lkX9_76, pdX9_in, by decide, by decide⟩ ⟨_, rfl, by decide⟩ rfl (Nat.le_of_ble_eq_true rfl) dX9_mirrored_13 (zm_Call.mono kk (fun r1 w1 u1 k1 => ?_))
  refine z_if_ne (tgt := 24) dX9_mirrored_16 (by decide) (fun h2 => ?_) (fun h2 => ?_)
  ·
    refine z_aload_n dX9_mirrored_24 rfl 0 rfl ?_
    refine z_iload_n dX9_mirrored_25 rfl 1 rfl ?_
    refine z_callVi (g' := gX9_isMirrored) [.int x1] (q := 21) (ci := 9) (T := TX9) rfl rfl ⟨lkX9_135, pdX9_isMirrored, by decide, by decide⟩ ⟨_, rfl, by decide⟩ rfl (Nat.le_of_ble_eq_true rfl) dX9_mirrored_26 (zm_Call.mono (k1.1 h2) (fun r3 w3 u3 k3 => ?_))
    refine z_if_eq (tgt := 36) dX9_mirrored_29 (by decide) (fun h4 => ?_) (fun h4 => ?_)
    ·
      refine z_iconst (v := 0) dX9_mirrored_36 zciconst_0 ?_
      exact z_iret rfl dX9_mirrored_37 (k3.1 h4)
    ·
      refine z_iconst (v := 1) dX9_mirrored_32 zciconst_1 ?_
      refine z_goto (tgt := 37) dX9_mirrored_33 (by decide) ?_
      exact z_iret rfl dX9_mirrored_37 (k3.2 h4)
  ·
    refine z_bipush (v := (-2)) dX9_mirrored_19 zcbipush_m2 ?_
    refine z_goto (tgt := 37) dX9_mirrored_21 (by decide) ?_
    exact z_iret rfl dX9_mirrored_37 (k1.2 h2)
theorem dX9_mirror_0 : decode cX9_mirror 0 = .ok (.aload_n 0, 1) := by decide +kernel
theorem dX9_mirror_1 : decode cX9_mirror 1 = .ok (.iconst 0, 1) := by decide +kernel
theorem dX9_mirror_2 : decode cX9_mirror 2 = .ok (.putfield 69, 3) := by decide +kernel
theorem dX9_mirror_5 : decode cX9_mirror 5 = .ok (.aload_n 0, 1) := by decide +kernel
theorem dX9_mirror_6 : decode cX9_mirror 6 = .ok (.iload_n 1, 1) := by decide +kernel
theorem dX9_mirror_7 : decode cX9_mirror 7 = .ok (.invokevirtual 110, 3) := by decide +kernel
theorem dX9_mirror_10 : decode cX9_mirror 10 = .ok (.ifCond .eq 5, 3) := by decide +kernel
theorem dX9_mirror_13 : decode cX9_mirror 13 = .ok (.iconst (-1), 1) := by decide +kernel
theorem dX9_mirror_14 : decode cX9_mirror 14 = .ok (.ireturn, 1) := by decide +kernel
theorem dX9_mirror_15 : decode cX9_mirror 15 = .ok (.iload_n 1, 1) := by decide +kernel
theorem dX9_mirror_16 : decode cX9_mirror 16 = .ok (.aload_n 0, 1) := by decide +kernel
theorem dX9_mirror_17 : decode cX9_mirror 17 = .ok (.invokevirtual 72, 3) := by decide +kernel
theorem dX9_mirror_20 : decode cX9_mirror 20 = .ok (.idiv, 1) := by decide +kernel
theorem dX9_mirror_21 : decode cX9_mirror 21 = .ok (.iconst 4, 1) := by decide +kernel
theorem dX9_mirror_22 : decode cX9_mirror 22 = .ok (.if_icmp .ge 8, 3) := by decide +kernel
theorem dX9_mirror_25 : decode cX9_mirror 25 = .ok (.bipush (-2), 2) := by decide +kernel
theorem dX9_mirror_27 : decode cX9_mirror 27 = .ok (.goto 16, 3) := by decide +kernel
theorem dX9_mirror_30 : decode cX9_mirror 30 = .ok (.aload_n 0, 1) := by decide +kernel
theorem dX9_mirror_31 : decode cX9_mirror 31 = .ok (.iload_n 1, 1) := by decide +kernel
theorem dX9_mirror_32 : decode cX9_mirror 32 = .ok (.invokevirtual 130, 3) := by decide +kernel
theorem dX9_mirror_35 : decode cX9_mirror 35 = .ok (.ifCond .eq 7, 3) := by decide +kernel
theorem dX9_mirror_38 : decode cX9_mirror 38 = .ok (.iconst 1, 1) := by decide +kernel
theorem dX9_mirror_39 : decode cX9_mirror 39 = .ok (.goto 4, 3) := by decide +kernel
theorem dX9_mirror_42 : decode cX9_mirror 42 = .ok (.iconst 0, 1) := by decide +kernel
theorem dX9_mirror_43 : decode cX9_mirror 43 = .ok (.ireturn, 1) := by decide +kernel
theorem bX9_mirror_0 (x1 : Int32) (mem : zm_Mem) (post : zm_Post) (kk : zm_Call gX9_noMove [.ref 21, .int x1] (zm_st mem 21 0 0) (fun r1 w1 u1 => ((r1 = 0 → zm_Call gX9_cells [.ref 21] u1 (fun r3 w3 u3 => (¬ r3 = 0 ∧ ((4 ≤ (x1 / r3) → zm_Call gX9_isMirror [.ref 21, .int x1] u3 (fun r5 w5 u5 => ((r5 = 0 → post 0 0 u5) ∧ (¬ r5 = 0 → post 1 0 u5)))) ∧ (¬ 4 ≤ (x1 / r3) → post (-2) 0 u3))))) ∧ (¬ r1 = 0 → post (-1) 0 u1)))) : zm_Call gX9_mirror [.ref 21, .int x1] mem post := by
  refine z_entry (by decide) (Nat.le_of_ble_eq_true rfl) ?_
  show zm_Z gX9_mirror post 0 [(0, .ref 21), (1, .int x1)] [] mem
  refine z_aload_n dX9_mirror_0 rfl 0 rfl ?_
  refine z_iconst (v := 0) dX9_mirror_1 zciconst_0 ?_
  refine z_put (ci := 9) (j := 0) (T := TX9) (ty0 := tyX9) rfl rfl hX9 tyX9_ok nmX9 rfl (by decide) fkX9_69 rfl rfl rfl dX9_mirror_2 ?_
  refine z_aload_n dX9_mirror_5 rfl 0 rfl ?_
  refine z_iload_n dX9_mirror_6 rfl 1 rfl ?_
  refine z_callVi (g' := gX9_noMove) [.int x1] (q := 21) (ci := 9) (T := TX9) rfl rfl ⟨lkX9_110, pdX9_noMove, by decide, by decide⟩ ⟨_, rfl, by decide⟩ rfl (Nat.le_of_ble_eq_true rfl) dX9_mirror_7 (zm_Call.mono kk (fun r1 w1 u1 k1 => ?_))
  refine z_if_eq (tgt := 15) dX9_mirror_10 (by decide) (fun h2 => ?_) (fun h2 => ?_)
  ·
    refine z_iload_n dX9_mirror_15 rfl 1 rfl ?_
    refine z_aload_n dX9_mirror_16 rfl 0 rfl ?_
    refine z_callVi (g' := gX9_cells) [] (q := 21) (ci := 9) (T := TX9) rfl rfl ⟨lkX9_72, pdX9_cells, by decide, by decide⟩ ⟨_, rfl, by decide⟩ rfl (Nat.le_of_ble_eq_true rfl) dX9_mirror_17 (zm_Call.mono (k1.1 h2) (fun r3 w3 u3 k3 => ?_))
    refine z_idiv dX9_mirror_20 k3.1 ?_
    refine z_iconst (v := 4) dX9_mirror_21 zciconst_4 ?_
    refine z_icmp_ge (tgt := 30) dX9_mirror_22 (by decide) (fun h4 => ?_) (fun h4 => ?_)
    ·
      refine z_aload_n dX9_mirror_30 rfl 0 rfl ?_
      refine z_iload_n dX9_mirror_31 rfl 1 rfl ?_
      refine z_callVi (g' := gX9_isMirror) [.int x1] (q := 21) (ci := 9) (T := TX9) rfl rfl ⟨lkX9_130, pdX9_isMirror, by decide, by decide⟩ ⟨_, rfl, by decide⟩ rfl (Nat.le_of_ble_eq_true rfl) dX9_mirror_32 (zm_Call.mono (k3.2.1 h4) (fun r5 w5 u5 k5 => ?_))
      refine z_if_eq (tgt := 42) dX9_mirror_35 (by decide) (fun h6 => ?_) (fun h6 => ?_)
      ·
        refine z_iconst (v := 0) dX9_mirror_42 zciconst_0 ?_
        exact z_iret rfl dX9_mirror_43 (k5.1 h6)
      ·
        refine z_iconst (v := 1) dX9_mirror_38 zciconst_1 ?_
        refine z_goto (tgt := 43) dX9_mirror_39 (by decide) ?_
        exact z_iret rfl dX9_mirror_43 (k5.2 h6)
    ·
      refine z_bipush (v := (-2)) dX9_mirror_25 zcbipush_m2 ?_
      refine z_goto (tgt := 43) dX9_mirror_27 (by decide) ?_
      exact z_iret rfl dX9_mirror_43 (k3.2.2 h4)
  ·
    refine z_iconst (v := (-1)) dX9_mirror_13 zciconst_m1 ?_
    exact z_iret rfl dX9_mirror_14 (k1.2 h2)
theorem dX9_fits_0 : decode cX9_fits 0 = .ok (.iconst 0, 1) := by decide +kernel
theorem dX9_fits_1 : decode cX9_fits 1 = .ok (.istore_n 2, 1) := by decide +kernel
theorem dX9_fits_2 : decode cX9_fits 2 = .ok (.iconst 0, 1) := by decide +kernel
theorem dX9_fits_3 : decode cX9_fits 3 = .ok (.istore_n 3, 1) := by decide +kernel
theorem dX9_fits_4 : decode cX9_fits 4 = .ok (.iload_n 3, 1) := by decide +kernel
theorem dX9_fits_5 : decode cX9_fits 5 = .ok (.aload_n 0, 1) := by decide +kernel
theorem dX9_fits_6 : decode cX9_fits 6 = .ok (.invokevirtual 72, 3) := by decide +kernel
theorem dX9_fits_9 : decode cX9_fits 9 = .ok (.if_icmp .ge 42, 3) := by decide +kernel
theorem dX9_fits_12 : decode cX9_fits 12 = .ok (.aload_n 0, 1) := by decide +kernel
theorem dX9_fits_13 : decode cX9_fits 13 = .ok (.iload_n 1, 1) := by decide +kernel
theorem dX9_fits_14 : decode cX9_fits 14 = .ok (.invokevirtual 80, 3) := by decide +kernel
theorem dX9_fits_17 : decode cX9_fits 17 = .ok (.ifCond .eq 34, 3) := by decide +kernel
theorem dX9_fits_20 : decode cX9_fits 20 = .ok (.iload_n 2, 1) := by decide +kernel
theorem dX9_fits_21 : decode cX9_fits 21 = .ok (.ifCond .ne 18, 3) := by decide +kernel
theorem dX9_fits_24 : decode cX9_fits 24 = .ok (.aload_n 0, 1) := by decide +kernel
theorem dX9_fits_25 : decode cX9_fits 25 = .ok (.aload_n 0, 1) := by decide +kernel
theorem dX9_fits_26 : decode cX9_fits 26 = .ok (.invokevirtual 72, 3) := by decide +kernel
theorem dX9_fits_29 : decode cX9_fits 29 = .ok (.iload_n 1, 1) := by decide +kernel
theorem dX9_fits_30 : decode cX9_fits 30 = .ok (.imul, 1) := by decide +kernel
theorem dX9_fits_31 : decode cX9_fits 31 = .ok (.iload_n 3, 1) := by decide +kernel
theorem dX9_fits_32 : decode cX9_fits 32 = .ok (.iadd, 1) := by decide +kernel
theorem dX9_fits_33 : decode cX9_fits 33 = .ok (.invokevirtual 122, 3) := by decide +kernel
theorem dX9_fits_36 : decode cX9_fits 36 = .ok (.ifCond .eq 7, 3) := by decide +kernel
theorem dX9_fits_39 : decode cX9_fits 39 = .ok (.iconst 1, 1) := by decide +kernel
theorem dX9_fits_40 : decode cX9_fits 40 = .ok (.goto 4, 3) := by decide +kernel
theorem dX9_fits_43 : decode cX9_fits 43 = .ok (.iconst 0, 1) := by decide +kernel
theorem dX9_fits_44 : decode cX9_fits 44 = .ok (.istore_n 2, 1) := by decide +kernel
theorem dX9_fits_45 : decode cX9_fits 45 = .ok (.iinc 3 1, 3) := by decide +kernel
theorem dX9_fits_48 : decode cX9_fits 48 = .ok (.goto (-44), 3) := by decide +kernel
theorem dX9_fits_51 : decode cX9_fits 51 = .ok (.iload_n 2, 1) := by decide +kernel
theorem dX9_fits_52 : decode cX9_fits 52 = .ok (.ireturn, 1) := by decide +kernel
theorem bX9_fits_0 (x1 : Int32) (mem : zm_Mem) (post : zm_Post) (kk : zm_Z gX9_fits post 4 [(0, .ref 21), (1, .int x1), (2, .int 0), (3, .int 0)] [] mem) : zm_Call gX9_fits [.ref 21, .int x1] mem post := by
  refine z_entry (by decide) (Nat.le_of_ble_eq_true rfl) ?_
  show zm_Z gX9_fits post 0 [(0, .ref 21), (1, .int x1)] [] mem
  refine z_iconst (v := 0) dX9_fits_0 zciconst_0 ?_
  refine z_istore_n (lv' := [(2, .int 0), (0, .ref 21), (1, .int x1)]) dX9_fits_1 rfl (by decide) rfl ?_
  refine z_iconst (v := 0) dX9_fits_2 zciconst_0 ?_
  refine z_istore_n (lv' := [(3, .int 0), (2, .int 0), (0, .ref 21), (1, .int x1)]) dX9_fits_3 rfl (by decide) rfl ?_
  refine z_sub [2, 3, 1, 0] rfl ?_
  exact kk
theorem bX9_fits_4 (x1 : Int32) (x2 : Int32) (x3 : Int32) (mem : zm_Mem) (post : zm_Post) (kk : zm_Call gX9_cells [.ref 21] mem (fun r1 w1 u1 => ((r1 ≤ x3 → ((x2 = 0 ∨ x2 = 1) ∧ post x2 0 u1)) ∧ (¬ r1 ≤ x3 → zm_Call gX9_isTurn [.ref 21, .int x1] u1 (fun r3 w3 u3 => ((r3 = 0 → ((x2 = 0 ∨ x2 = 1) ∧ post x2 0 u3)) ∧ (¬ r3 = 0 → ((¬ x2 = 0 → zm_Z gX9_fits post 39 [(0, .ref 21), (1, .int x1), (3, .int x3)] [] u3) ∧ (x2 = 0 → zm_Call gX9_cells [.ref 21] u3 (fun r6 w6 u6 => zm_Call gX9_keepsIt [.ref 21, .int ((r6 * x1) + x3)] u6 (fun r7 w7 u7 => ((r7 = 0 → zm_Z gX9_fits post 4 [(0, .ref 21), (1, .int x1), (2, .int 0), (3, .int (x3 + 1))] [] u7) ∧ (¬ r7 = 0 → zm_Z gX9_fits post 39 [(0, .ref 21), (1, .int x1), (3, .int x3)] [] u7))))))))))))) : zm_Z gX9_fits post 4 [(0, .ref 21), (1, .int x1), (2, .int x2), (3, .int x3)] [] mem := by
  refine z_iload_n dX9_fits_4 rfl 3 rfl ?_
  refine z_aload_n dX9_fits_5 rfl 0 rfl ?_
  refine z_callVi (g' := gX9_cells) [] (q := 21) (ci := 9) (T := TX9) rfl rfl ⟨lkX9_72, pdX9_cells, by decide, by decide⟩ ⟨_, rfl, by decide⟩ rfl (Nat.le_of_ble_eq_true rfl) dX9_fits_6 (zm_Call.mono kk (fun r1 w1 u1 k1 => ?_))
  refine z_icmp_ge (tgt := 51) dX9_fits_9 (by decide) (fun h2 => ?_) (fun h2 => ?_)
  ·
    refine z_iload_n dX9_fits_51 rfl 2 rfl ?_
    exact z_zret rfl (k1.1 h2).1 dX9_fits_52 (k1.1 h2).2
  ·
    refine z_aload_n dX9_fits_12 rfl 0 rfl ?_
    refine z_iload_n dX9_fits_13 rfl 1 rfl ?_
    refine z_callVi (g' := gX9_isTurn) [.int x1] (q := 21) (ci := 9) (T := TX9) rfl rfl ⟨lkX9_80, pdX9_isTurn, by decide, by decide⟩ ⟨_, rfl, by decide⟩ rfl (Nat.le_of_ble_eq_true rfl) dX9_fits_14 (zm_Call.mono (k1.2 h2) (fun r3 w3 u3 k3 => ?_))
    refine z_if_eq (tgt := 51) dX9_fits_17 (by decide) (fun h4 => ?_) (fun h4 => ?_)
    ·
      refine z_iload_n dX9_fits_51 rfl 2 rfl ?_
      exact z_zret rfl (k3.1 h4).1 dX9_fits_52 (k3.1 h4).2
    ·
      refine z_iload_n dX9_fits_20 rfl 2 rfl ?_
      refine z_if_ne (tgt := 39) dX9_fits_21 (by decide) (fun h5 => ?_) (fun h5 => ?_)
      ·
        refine z_sub [0, 1, 3] rfl ?_
        exact ((k3.2 h4).1 h5)
      ·
        refine z_aload_n dX9_fits_24 rfl 0 rfl ?_
        refine z_aload_n dX9_fits_25 rfl 0 rfl ?_
        refine z_callVi (g' := gX9_cells) [] (q := 21) (ci := 9) (T := TX9) rfl rfl ⟨lkX9_72, pdX9_cells, by decide, by decide⟩ ⟨_, rfl, by decide⟩ rfl (Nat.le_of_ble_eq_true rfl) dX9_fits_26 (zm_Call.mono ((k3.2 h4).2 h5) (fun r6 w6 u6 k6 => ?_))
        refine z_iload_n dX9_fits_29 rfl 1 rfl ?_
        refine z_imul dX9_fits_30 ?_
        refine z_iload_n dX9_fits_31 rfl 3 rfl ?_
        refine z_iadd dX9_fits_32 ?_
        refine z_callVi (g' := gX9_keepsIt) [.int ((r6 * x1) + x3)] (q := 21) (ci := 9) (T := TX9) rfl rfl ⟨lkX9_122, pdX9_keepsIt, by decide, by decide⟩ ⟨_, rfl, by decide⟩ rfl (Nat.le_of_ble_eq_true rfl) dX9_fits_33 (zm_Call.mono k6 (fun r7 w7 u7 k7 => ?_))
        refine z_if_eq (tgt := 43) dX9_fits_36 (by decide) (fun h8 => ?_) (fun h8 => ?_)
        ·
          refine z_iconst (v := 0) dX9_fits_43 zciconst_0 ?_
          refine z_istore_n (lv' := [(2, .int 0), (0, .ref 21), (1, .int x1), (3, .int x3)]) dX9_fits_44 rfl (by decide) rfl ?_
          refine z_iinc (v := x3 + 1) (lv' := [(3, .int (x3 + 1)), (2, .int 0), (0, .ref 21), (1, .int x1)]) dX9_fits_45 3 rfl (by rw [zciconst_1]) (by decide) rfl ?_
          refine z_goto (tgt := 4) dX9_fits_48 (by decide) ?_
          refine z_sub [2, 3, 1, 0] rfl ?_
          exact (k7.1 h8)
        ·
          refine z_sub [0, 1, 3] rfl ?_
          exact (k7.2 h8)
theorem bX9_fits_39 (x1 : Int32) (x3 : Int32) (mem : zm_Mem) (post : zm_Post) (kk : zm_Z gX9_fits post 4 [(0, .ref 21), (1, .int x1), (2, .int 1), (3, .int (x3 + 1))] [] mem) : zm_Z gX9_fits post 39 [(0, .ref 21), (1, .int x1), (3, .int x3)] [] mem := by
  refine z_iconst (v := 1) dX9_fits_39 zciconst_1 ?_
  refine z_goto (tgt := 44) dX9_fits_40 (by decide) ?_
  refine z_istore_n (lv' := [(2, .int 1), (0, .ref 21), (1, .int x1), (3, .int x3)]) dX9_fits_44 rfl (by decide) rfl ?_
  refine z_iinc (v := x3 + 1) (lv' := [(3, .int (x3 + 1)), (2, .int 1), (0, .ref 21), (1, .int x1)]) dX9_fits_45 3 rfl (by rw [zciconst_1]) (by decide) rfl ?_
  refine z_goto (tgt := 4) dX9_fits_48 (by decide) ?_
  refine z_sub [2, 3, 1, 0] rfl ?_
  exact kk
