theorem dX0_power_0 : decode cX0_power 0 = .ok (.lconst 1, 1) := by decide +kernel
theorem dX0_power_1 : decode cX0_power 1 = .ok (.lstore_n 2, 1) := by decide +kernel
theorem dX0_power_2 : decode cX0_power 2 = .ok (.iconst 0, 1) := by decide +kernel
theorem dX0_power_3 : decode cX0_power 3 = .ok (.istore 4, 2) := by decide +kernel
theorem dX0_power_5 : decode cX0_power 5 = .ok (.iload 4, 2) := by decide +kernel
theorem dX0_power_7 : decode cX0_power 7 = .ok (.iload_n 1, 1) := by decide +kernel
theorem dX0_power_8 : decode cX0_power 8 = .ok (.if_icmp .ge 14, 3) := by decide +kernel
theorem dX0_power_11 : decode cX0_power 11 = .ok (.lload_n 2, 1) := by decide +kernel
theorem dX0_power_12 : decode cX0_power 12 = .ok (.iload_n 0, 1) := by decide +kernel
theorem dX0_power_13 : decode cX0_power 13 = .ok (.i2l, 1) := by decide +kernel
theorem dX0_power_14 : decode cX0_power 14 = .ok (.lmul, 1) := by decide +kernel
theorem dX0_power_15 : decode cX0_power 15 = .ok (.lstore_n 2, 1) := by decide +kernel
theorem dX0_power_16 : decode cX0_power 16 = .ok (.iinc 4 1, 3) := by decide +kernel
theorem dX0_power_19 : decode cX0_power 19 = .ok (.goto (-14), 3) := by decide +kernel
theorem dX0_power_22 : decode cX0_power 22 = .ok (.lload_n 2, 1) := by decide +kernel
theorem dX0_power_23 : decode cX0_power 23 = .ok (.lreturn, 1) := by decide +kernel
theorem bX0_power_0 (x0 : Int32) (x1 : Int32) (mem : zm_Mem) (post : zm_Post) (kk : zm_Z gX0_power post 5 [(0, .int x0), (1, .int x1), (2, .long 1), (4, .int 0)] [] mem) : zm_Call gX0_power [.int x0, .int x1] mem post := by
  refine z_entry (by decide) (Nat.le_of_ble_eq_true rfl) ?_
  show zm_Z gX0_power post 0 [(0, .int x0), (1, .int x1)] [] mem
  refine z_lconst (v := 1) dX0_power_0 zclconst_1 ?_
  refine z_lstore_n (lv' := [(2, .long 1), (0, .int x0), (1, .int x1)]) dX0_power_1 rfl (by decide) rfl ?_
  refine z_iconst (v := 0) dX0_power_2 zciconst_0 ?_
  refine z_istore (lv' := [(4, .int 0), (2, .long 1), (0, .int x0), (1, .int x1)]) dX0_power_3 (by decide) rfl ?_
  refine z_sub [2, 3, 1, 0] rfl ?_
  exact kk
theorem bX0_power_5 (x0 : Int32) (x1 : Int32) (x2 : Int64) (x4 : Int32) (mem : zm_Mem) (post : zm_Post) (kk : ((x1 ≤ x4 → post 0 x2 mem) ∧ (¬ x1 ≤ x4 → zm_Z gX0_power post 5 [(0, .int x0), (1, .int x1), (2, .long (x2 * (Int32.toInt64 x0))), (4, .int (x4 + 1))] [] mem))) : zm_Z gX0_power post 5 [(0, .int x0), (1, .int x1), (2, .long x2), (4, .int x4)] [] mem := by
  refine z_iload dX0_power_5 3 rfl ?_
  refine z_iload_n dX0_power_7 rfl 1 rfl ?_
  refine z_icmp_ge (tgt := 22) dX0_power_8 (by decide) (fun h1 => ?_) (fun h1 => ?_)
  ·
    refine z_lload_n dX0_power_22 rfl 2 rfl ?_
    exact z_lret rfl dX0_power_23 (kk.1 h1)
  ·
    refine z_lload_n dX0_power_11 rfl 2 rfl ?_
    refine z_iload_n dX0_power_12 rfl 0 rfl ?_
    refine z_i2l dX0_power_13 ?_
    refine z_lmul dX0_power_14 ?_
    refine z_lstore_n (lv' := [(2, .long (x2 * (Int32.toInt64 x0))), (0, .int x0), (1, .int x1), (4, .int x4)]) dX0_power_15 rfl (by decide) rfl ?_
    refine z_iinc (v := x4 + 1) (lv' := [(4, .int (x4 + 1)), (2, .long (x2 * (Int32.toInt64 x0))), (0, .int x0), (1, .int x1)]) dX0_power_16 3 rfl (by rw [zciconst_1]) (by decide) rfl ?_
    refine z_goto (tgt := 5) dX0_power_19 (by decide) ?_
    refine z_sub [2, 3, 1, 0] rfl ?_
    exact (kk.2 h1)
theorem dX1_numbers_0 : decode cX1_numbers 0 = .ok (.bipush 8, 2) := by decide +kernel
theorem dX1_numbers_2 : decode cX1_numbers 2 = .ok (.aload_n 0, 1) := by decide +kernel
theorem dX1_numbers_3 : decode cX1_numbers 3 = .ok (.getfield 18, 3) := by decide +kernel
theorem dX1_numbers_6 : decode cX1_numbers 6 = .ok (.imul, 1) := by decide +kernel
theorem dX1_numbers_7 : decode cX1_numbers 7 = .ok (.ireturn, 1) := by decide +kernel
theorem bX1_numbers_0 (mem : zm_Mem) (post : zm_Post) (kk : post (8 * (mem 1 2)) 0 mem) : zm_Call gX1_numbers [.ref 1] mem post := by
  refine z_entry (by decide) (Nat.le_of_ble_eq_true rfl) ?_
  show zm_Z gX1_numbers post 0 [(0, .ref 1)] [] mem
  refine z_bipush (v := 8) dX1_numbers_0 zcbipush_8 ?_
  refine z_aload_n dX1_numbers_2 rfl 0 rfl ?_
  refine z_geti (ci := 1) (j := 2) (T := TX1) rfl rfl hX1 rfl (by decide) fkX1_18 dX1_numbers_3 ?_
  refine z_imul dX1_numbers_6 ?_
  exact z_iret rfl dX1_numbers_7 kk
theorem dX1_turnOf_0 : decode cX1_turnOf 0 = .ok (.aload_n 0, 1) := by decide +kernel
theorem dX1_turnOf_1 : decode cX1_turnOf 1 = .ok (.getfield 18, 3) := by decide +kernel
theorem dX1_turnOf_4 : decode cX1_turnOf 4 = .ok (.iconst 1, 1) := by decide +kernel
theorem dX1_turnOf_5 : decode cX1_turnOf 5 = .ok (.if_icmp .ge 7, 3) := by decide +kernel
theorem dX1_turnOf_8 : decode cX1_turnOf 8 = .ok (.iconst 0, 1) := by decide +kernel
theorem dX1_turnOf_9 : decode cX1_turnOf 9 = .ok (.goto 9, 3) := by decide +kernel
theorem dX1_turnOf_12 : decode cX1_turnOf 12 = .ok (.iload_n 1, 1) := by decide +kernel
theorem dX1_turnOf_13 : decode cX1_turnOf 13 = .ok (.aload_n 0, 1) := by decide +kernel
theorem dX1_turnOf_14 : decode cX1_turnOf 14 = .ok (.getfield 18, 3) := by decide +kernel
theorem dX1_turnOf_17 : decode cX1_turnOf 17 = .ok (.idiv, 1) := by decide +kernel
theorem dX1_turnOf_18 : decode cX1_turnOf 18 = .ok (.ireturn, 1) := by decide +kernel
theorem bX1_turnOf_0 (x1 : Int32) (mem : zm_Mem) (post : zm_Post) (kk : ((1 ≤ (mem 1 2) → (¬ mem 1 2 = 0 ∧ post (x1 / (mem 1 2)) 0 mem)) ∧ (¬ 1 ≤ (mem 1 2) → post 0 0 mem))) : zm_Call gX1_turnOf [.ref 1, .int x1] mem post := by
  refine z_entry (by decide) (Nat.le_of_ble_eq_true rfl) ?_
  show zm_Z gX1_turnOf post 0 [(0, .ref 1), (1, .int x1)] [] mem
  refine z_aload_n dX1_turnOf_0 rfl 0 rfl ?_
  refine z_geti (ci := 1) (j := 2) (T := TX1) rfl rfl hX1 rfl (by decide) fkX1_18 dX1_turnOf_1 ?_
  refine z_iconst (v := 1) dX1_turnOf_4 zciconst_1 ?_
  refine z_icmp_ge (tgt := 12) dX1_turnOf_5 (by decide) (fun h1 => ?_) (fun h1 => ?_)
  ·
    refine z_iload_n dX1_turnOf_12 rfl 1 rfl ?_
    refine z_aload_n dX1_turnOf_13 rfl 0 rfl ?_
    refine z_geti (ci := 1) (j := 2) (T := TX1) rfl rfl hX1 rfl (by decide) fkX1_18 dX1_turnOf_14 ?_
    refine z_idiv dX1_turnOf_17 (kk.1 h1).1 ?_
    exact z_iret rfl dX1_turnOf_18 (kk.1 h1).2
  ·
    refine z_iconst (v := 0) dX1_turnOf_8 zciconst_0 ?_
    refine z_goto (tgt := 18) dX1_turnOf_9 (by decide) ?_
    exact z_iret rfl dX1_turnOf_18 (kk.2 h1)
theorem dX1_hasTurn_0 : decode cX1_hasTurn 0 = .ok (.aload_n 0, 1) := by decide +kernel
theorem dX1_hasTurn_1 : decode cX1_hasTurn 1 = .ok (.getfield 9, 3) := by decide +kernel
theorem dX1_hasTurn_4 : decode cX1_hasTurn 4 = .ok (.aload_n 0, 1) := by decide +kernel
theorem dX1_hasTurn_5 : decode cX1_hasTurn 5 = .ok (.getfield 15, 3) := by decide +kernel
theorem dX1_hasTurn_8 : decode cX1_hasTurn 8 = .ok (.if_icmp .eq 22, 3) := by decide +kernel
theorem dX1_hasTurn_11 : decode cX1_hasTurn 11 = .ok (.iload_n 1, 1) := by decide +kernel
theorem dX1_hasTurn_12 : decode cX1_hasTurn 12 = .ok (.ifCond .eq 18, 3) := by decide +kernel
theorem dX1_hasTurn_15 : decode cX1_hasTurn 15 = .ok (.iload_n 1, 1) := by decide +kernel
theorem dX1_hasTurn_16 : decode cX1_hasTurn 16 = .ok (.iconst 2, 1) := by decide +kernel
theorem dX1_hasTurn_17 : decode cX1_hasTurn 17 = .ok (.if_icmp .eq 13, 3) := by decide +kernel
theorem dX1_hasTurn_20 : decode cX1_hasTurn 20 = .ok (.iload_n 1, 1) := by decide +kernel
theorem dX1_hasTurn_21 : decode cX1_hasTurn 21 = .ok (.iconst 4, 1) := by decide +kernel
theorem dX1_hasTurn_22 : decode cX1_hasTurn 22 = .ok (.if_icmp .eq 8, 3) := by decide +kernel
theorem dX1_hasTurn_25 : decode cX1_hasTurn 25 = .ok (.iload_n 1, 1) := by decide +kernel
theorem dX1_hasTurn_26 : decode cX1_hasTurn 26 = .ok (.iconst 5, 1) := by decide +kernel
theorem dX1_hasTurn_27 : decode cX1_hasTurn 27 = .ok (.if_icmp .ne 7, 3) := by decide +kernel
theorem dX1_hasTurn_30 : decode cX1_hasTurn 30 = .ok (.iconst 1, 1) := by decide +kernel
theorem dX1_hasTurn_31 : decode cX1_hasTurn 31 = .ok (.goto 4, 3) := by decide +kernel
theorem dX1_hasTurn_34 : decode cX1_hasTurn 34 = .ok (.iconst 0, 1) := by decide +kernel
theorem dX1_hasTurn_35 : decode cX1_hasTurn 35 = .ok (.ireturn, 1) := by decide +kernel
theorem bX1_hasTurn_0 (x1 : Int32) (mem : zm_Mem) (post : zm_Post) (kk : (((mem 1 0) = (mem 1 1) → post 1 0 mem) ∧ (¬ (mem 1 0) = (mem 1 1) → ((x1 = 0 → post 1 0 mem) ∧ (¬ x1 = 0 → ((x1 = 2 → post 1 0 mem) ∧ (¬ x1 = 2 → ((x1 = 4 → post 1 0 mem) ∧ (¬ x1 = 4 → ((¬ x1 = 5 → post 0 0 mem) ∧ (x1 = 5 → post 1 0 mem))))))))))) : zm_Call gX1_hasTurn [.ref 1, .int x1] mem post := by
  refine z_entry (by decide) (Nat.le_of_ble_eq_true rfl) ?_
  show zm_Z gX1_hasTurn post 0 [(0, .ref 1), (1, .int x1)] [] mem
  refine z_aload_n dX1_hasTurn_0 rfl 0 rfl ?_
  refine z_geti (ci := 1) (j := 0) (T := TX1) rfl rfl hX1 rfl (by decide) fkX1_9 dX1_hasTurn_1 ?_
  refine z_aload_n dX1_hasTurn_4 rfl 0 rfl ?_
  refine z_geti (ci := 1) (j := 1) (T := TX1) rfl rfl hX1 rfl (by decide) fkX1_15 dX1_hasTurn_5 ?_
  refine z_icmp_eq (tgt := 30) dX1_hasTurn_8 (by decide) (fun h1 => ?_) (fun h1 => ?_)
  ·
    refine z_iconst (v := 1) dX1_hasTurn_30 zciconst_1 ?_
    refine z_goto (tgt := 35) dX1_hasTurn_31 (by decide) ?_
    exact z_zret rfl (by decide) dX1_hasTurn_35 (kk.1 h1)
  ·
    refine z_iload_n dX1_hasTurn_11 rfl 1 rfl ?_
    refine z_if_eq (tgt := 30) dX1_hasTurn_12 (by decide) (fun h2 => ?_) (fun h2 => ?_)
    ·
      refine z_iconst (v := 1) dX1_hasTurn_30 zciconst_1 ?_
      refine z_goto (tgt := 35) dX1_hasTurn_31 (by decide) ?_
      exact z_zret rfl (by decide) dX1_hasTurn_35 ((kk.2 h1).1 h2)
    ·
      refine z_iload_n dX1_hasTurn_15 rfl 1 rfl ?_
      refine z_iconst (v := 2) dX1_hasTurn_16 zciconst_2 ?_
      refine z_icmp_eq (tgt := 30) dX1_hasTurn_17 (by decide) (fun h3 => ?_) (fun h3 => ?_)
      ·
        refine z_iconst (v := 1) dX1_hasTurn_30 zciconst_1 ?_
        refine z_goto (tgt := 35) dX1_hasTurn_31 (by decide) ?_
        exact z_zret rfl (by decide) dX1_hasTurn_35 (((kk.2 h1).2 h2).1 h3)
      ·
        refine z_iload_n dX1_hasTurn_20 rfl 1 rfl ?_
        refine z_iconst (v := 4) dX1_hasTurn_21 zciconst_4 ?_
        refine z_icmp_eq (tgt := 30) dX1_hasTurn_22 (by decide) (fun h4 => ?_) (fun h4 => ?_)
        ·
          refine z_iconst (v := 1) dX1_hasTurn_30 zciconst_1 ?_
          refine z_goto (tgt := 35) dX1_hasTurn_31 (by decide) ?_
          exact z_zret rfl (by decide) dX1_hasTurn_35 ((((kk.2 h1).2 h2).2 h3).1 h4)
        ·
          refine z_iload_n dX1_hasTurn_25 rfl 1 rfl ?_
          refine z_iconst (v := 5) dX1_hasTurn_26 zciconst_5 ?_
          refine z_icmp_ne (tgt := 34) dX1_hasTurn_27 (by decide) (fun h5 => ?_) (fun h5 => ?_)
          ·
            refine z_iconst (v := 0) dX1_hasTurn_34 zciconst_0 ?_
            exact z_zret rfl (by decide) dX1_hasTurn_35 (((((kk.2 h1).2 h2).2 h3).2 h4).1 h5)
          ·
            refine z_iconst (v := 1) dX1_hasTurn_30 zciconst_1 ?_
            refine z_goto (tgt := 35) dX1_hasTurn_31 (by decide) ?_
            exact z_zret rfl (by decide) dX1_hasTurn_35 (((((kk.2 h1).2 h2).2 h3).2 h4).2 h5)
theorem dX1_hasMove_0 : decode cX1_hasMove 0 = .ok (.iload_n 1, 1) := by decide +kernel
theorem dX1_hasMove_1 : decode cX1_hasMove 1 = .ok (.ifCond .lt 27, 3) := by decide +kernel
theorem dX1_hasMove_4 : decode cX1_hasMove 4 = .ok (.iload_n 1, 1) := by decide +kernel
theorem dX1_hasMove_5 : decode cX1_hasMove 5 = .ok (.aload_n 0, 1) := by decide +kernel
theorem dX1_hasMove_6 : decode cX1_hasMove 6 = .ok (.invokevirtual 21, 3) := by decide +kernel
theorem dX1_hasMove_9 : decode cX1_hasMove 9 = .ok (.if_icmp .ge 19, 3) := by decide +kernel
theorem dX1_hasMove_12 : decode cX1_hasMove 12 = .ok (.aload_n 0, 1) := by decide +kernel
theorem dX1_hasMove_13 : decode cX1_hasMove 13 = .ok (.aload_n 0, 1) := by decide +kernel
theorem dX1_hasMove_14 : decode cX1_hasMove 14 = .ok (.iload_n 1, 1) := by decide +kernel
theorem dX1_hasMove_15 : decode cX1_hasMove 15 = .ok (.invokevirtual 25, 3) := by decide +kernel
theorem dX1_hasMove_18 : decode cX1_hasMove 18 = .ok (.invokevirtual 29, 3) := by decide +kernel
theorem dX1_hasMove_21 : decode cX1_hasMove 21 = .ok (.ifCond .eq 7, 3) := by decide +kernel
theorem dX1_hasMove_24 : decode cX1_hasMove 24 = .ok (.iconst 1, 1) := by decide +kernel
theorem dX1_hasMove_25 : decode cX1_hasMove 25 = .ok (.goto 4, 3) := by decide +kernel
theorem dX1_hasMove_28 : decode cX1_hasMove 28 = .ok (.iconst 0, 1) := by decide +kernel
theorem dX1_hasMove_29 : decode cX1_hasMove 29 = .ok (.ireturn, 1) := by decide +kernel
theorem bX1_hasMove_0 (x1 : Int32) (mem : zm_Mem) (post : zm_Post) (kk : ((x1 < 0 → post 0 0 mem) ∧ (¬ x1 < 0 → zm_Call gX1_numbers [.ref 1] mem (fun r2 w2 u2 => ((r2 ≤ x1 → post 0 0 u2) ∧ (¬ r2 ≤ x1 → zm_Call gX1_turnOf [.ref 1, .int x1] u2 (fun r4 w4 u4 => zm_Call gX1_hasTurn [.ref 1, .int r4] u4 (fun r5 w5 u5 => ((r5 = 0 → post 0 0 u5) ∧ (¬ r5 = 0 → post 1 0 u5)))))))))) : zm_Call gX1_hasMove [.ref 1, .int x1] mem post := by
  refine z_entry (by decide) (Nat.le_of_ble_eq_true rfl) ?_
  show zm_Z gX1_hasMove post 0 [(0, .ref 1), (1, .int x1)] [] mem
  refine z_iload_n dX1_hasMove_0 rfl 1 rfl ?_
  refine z_if_lt (tgt := 28) dX1_hasMove_1 (by decide) (fun h1 => ?_) (fun h1 => ?_)
  ·
    refine z_iconst (v := 0) dX1_hasMove_28 zciconst_0 ?_
    exact z_zret rfl (by decide) dX1_hasMove_29 (kk.1 h1)
  ·
    refine z_iload_n dX1_hasMove_4 rfl 1 rfl ?_
    refine z_aload_n dX1_hasMove_5 rfl 0 rfl ?_
    refine z_callVi (g' := gX1_numbers) [] (q := 1) (ci := 1) (T := TX1) rfl rfl ⟨lkX1_21, pdX1_numbers, by decide, by decide⟩ ⟨_, rfl, by decide⟩ rfl (Nat.le_of_ble_eq_true rfl) dX1_hasMove_6 (zm_Call.mono (kk.2 h1) (fun r2 w2 u2 k2 => ?_))
    refine z_icmp_ge (tgt := 28) dX1_hasMove_9 (by decide) (fun h3 => ?_) (fun h3 => ?_)
    ·
      refine z_iconst (v := 0) dX1_hasMove_28 zciconst_0 ?_
      exact z_zret rfl (by decide) dX1_hasMove_29 (k2.1 h3)
    ·
      refine z_aload_n dX1_hasMove_12 rfl 0 rfl ?_
      refine z_aload_n dX1_hasMove_13 rfl 0 rfl ?_
      refine z_iload_n dX1_hasMove_14 rfl 1 rfl ?_
      refine z_callVi (g' := gX1_turnOf) [.int x1] (q := 1) (ci := 1) (T := TX1) rfl rfl ⟨lkX1_25, pdX1_turnOf, by decide, by decide⟩ ⟨_, rfl, by decide⟩ rfl (Nat.le_of_ble_eq_true rfl) dX1_hasMove_15 (zm_Call.mono (k2.2 h3) (fun r4 w4 u4 k4 => ?_))
      refine z_callVi (g' := gX1_hasTurn) [.int r4] (q := 1) (ci := 1) (T := TX1) rfl rfl ⟨lkX1_29, pdX1_hasTurn, by decide, by decide⟩ ⟨_, rfl, by decide⟩ rfl (Nat.le_of_ble_eq_true rfl) dX1_hasMove_18 (zm_Call.mono k4 (fun r5 w5 u5 k5 => ?_))
      refine z_if_eq (tgt := 28) dX1_hasMove_21 (by decide) (fun h6 => ?_) (fun h6 => ?_)
      ·
        refine z_iconst (v := 0) dX1_hasMove_28 zciconst_0 ?_
        exact z_zret rfl (by decide) dX1_hasMove_29 (k5.1 h6)
      ·
        refine z_iconst (v := 1) dX1_hasMove_24 zciconst_1 ?_
        refine z_goto (tgt := 29) dX1_hasMove_25 (by decide) ?_
        exact z_zret rfl (by decide) dX1_hasMove_29 (k5.2 h6)
theorem dX1_shiftOf_0 : decode cX1_shiftOf 0 = .ok (.aload_n 0, 1) := by decide +kernel
theorem dX1_shiftOf_1 : decode cX1_shiftOf 1 = .ok (.getfield 18, 3) := by decide +kernel
theorem dX1_shiftOf_4 : decode cX1_shiftOf 4 = .ok (.iconst 1, 1) := by decide +kernel
theorem dX1_shiftOf_5 : decode cX1_shiftOf 5 = .ok (.if_icmp .ge 7, 3) := by decide +kernel
theorem dX1_shiftOf_8 : decode cX1_shiftOf 8 = .ok (.iconst 0, 1) := by decide +kernel
theorem dX1_shiftOf_9 : decode cX1_shiftOf 9 = .ok (.goto 9, 3) := by decide +kernel
theorem dX1_shiftOf_12 : decode cX1_shiftOf 12 = .ok (.iload_n 1, 1) := by decide +kernel
theorem dX1_shiftOf_13 : decode cX1_shiftOf 13 = .ok (.aload_n 0, 1) := by decide +kernel
theorem dX1_shiftOf_14 : decode cX1_shiftOf 14 = .ok (.getfield 18, 3) := by decide +kernel
theorem dX1_shiftOf_17 : decode cX1_shiftOf 17 = .ok (.irem, 1) := by decide +kernel
theorem dX1_shiftOf_18 : decode cX1_shiftOf 18 = .ok (.ireturn, 1) := by decide +kernel
theorem bX1_shiftOf_0 (x1 : Int32) (mem : zm_Mem) (post : zm_Post) (kk : ((1 ≤ (mem 1 2) → (¬ mem 1 2 = 0 ∧ post (x1 - x1 / (mem 1 2) * (mem 1 2)) 0 mem)) ∧ (¬ 1 ≤ (mem 1 2) → post 0 0 mem))) : zm_Call gX1_shiftOf [.ref 1, .int x1] mem post := by
  refine z_entry (by decide) (Nat.le_of_ble_eq_true rfl) ?_
  show zm_Z gX1_shiftOf post 0 [(0, .ref 1), (1, .int x1)] [] mem
  refine z_aload_n dX1_shiftOf_0 rfl 0 rfl ?_
  refine z_geti (ci := 1) (j := 2) (T := TX1) rfl rfl hX1 rfl (by decide) fkX1_18 dX1_shiftOf_1 ?_
  refine z_iconst (v := 1) dX1_shiftOf_4 zciconst_1 ?_
  refine z_icmp_ge (tgt := 12) dX1_shiftOf_5 (by decide) (fun h1 => ?_) (fun h1 => ?_)
  ·
    refine z_iload_n dX1_shiftOf_12 rfl 1 rfl ?_
    refine z_aload_n dX1_shiftOf_13 rfl 0 rfl ?_
    refine z_geti (ci := 1) (j := 2) (T := TX1) rfl rfl hX1 rfl (by decide) fkX1_18 dX1_shiftOf_14 ?_
    refine z_irem dX1_shiftOf_17 (kk.1 h1).1 ?_
    exact z_iret rfl dX1_shiftOf_18 (kk.1 h1).2
  ·
    refine z_iconst (v := 0) dX1_shiftOf_8 zciconst_0 ?_
    refine z_goto (tgt := 18) dX1_shiftOf_9 (by decide) ?_
    exact z_iret rfl dX1_shiftOf_18 (kk.2 h1)
theorem dX1_columnOf_0 : decode cX1_columnOf 0 = .ok (.aload_n 0, 1) := by decide +kernel
theorem dX1_columnOf_1 : decode cX1_columnOf 1 = .ok (.getfield 9, 3) := by decide +kernel
theorem dX1_columnOf_4 : decode cX1_columnOf 4 = .ok (.iconst 1, 1) := by decide +kernel
theorem dX1_columnOf_5 : decode cX1_columnOf 5 = .ok (.if_icmp .ge 7, 3) := by decide +kernel
theorem dX1_columnOf_8 : decode cX1_columnOf 8 = .ok (.iconst 0, 1) := by decide +kernel
theorem dX1_columnOf_9 : decode cX1_columnOf 9 = .ok (.goto 9, 3) := by decide +kernel
theorem dX1_columnOf_12 : decode cX1_columnOf 12 = .ok (.iload_n 1, 1) := by decide +kernel
theorem dX1_columnOf_13 : decode cX1_columnOf 13 = .ok (.aload_n 0, 1) := by decide +kernel
theorem dX1_columnOf_14 : decode cX1_columnOf 14 = .ok (.getfield 9, 3) := by decide +kernel
theorem dX1_columnOf_17 : decode cX1_columnOf 17 = .ok (.irem, 1) := by decide +kernel
theorem dX1_columnOf_18 : decode cX1_columnOf 18 = .ok (.ireturn, 1) := by decide +kernel
theorem bX1_columnOf_0 (x1 : Int32) (mem : zm_Mem) (post : zm_Post) (kk : ((1 ≤ (mem 1 0) → (¬ mem 1 0 = 0 ∧ post (x1 - x1 / (mem 1 0) * (mem 1 0)) 0 mem)) ∧ (¬ 1 ≤ (mem 1 0) → post 0 0 mem))) : zm_Call gX1_columnOf [.ref 1, .int x1] mem post := by
  refine z_entry (by decide) (Nat.le_of_ble_eq_true rfl) ?_
  show zm_Z gX1_columnOf post 0 [(0, .ref 1), (1, .int x1)] [] mem
  refine z_aload_n dX1_columnOf_0 rfl 0 rfl ?_
  refine z_geti (ci := 1) (j := 0) (T := TX1) rfl rfl hX1 rfl (by decide) fkX1_9 dX1_columnOf_1 ?_
  refine z_iconst (v := 1) dX1_columnOf_4 zciconst_1 ?_
  refine z_icmp_ge (tgt := 12) dX1_columnOf_5 (by decide) (fun h1 => ?_) (fun h1 => ?_)
  ·
    refine z_iload_n dX1_columnOf_12 rfl 1 rfl ?_
    refine z_aload_n dX1_columnOf_13 rfl 0 rfl ?_
    refine z_geti (ci := 1) (j := 0) (T := TX1) rfl rfl hX1 rfl (by decide) fkX1_9 dX1_columnOf_14 ?_
    refine z_irem dX1_columnOf_17 (kk.1 h1).1 ?_
    exact z_iret rfl dX1_columnOf_18 (kk.1 h1).2
  ·
    refine z_iconst (v := 0) dX1_columnOf_8 zciconst_0 ?_
    refine z_goto (tgt := 18) dX1_columnOf_9 (by decide) ?_
    exact z_iret rfl dX1_columnOf_18 (kk.2 h1)
theorem dX1_rowOf_0 : decode cX1_rowOf 0 = .ok (.aload_n 0, 1) := by decide +kernel
theorem dX1_rowOf_1 : decode cX1_rowOf 1 = .ok (.getfield 9, 3) := by decide +kernel
theorem dX1_rowOf_4 : decode cX1_rowOf 4 = .ok (.iconst 1, 1) := by decide +kernel
theorem dX1_rowOf_5 : decode cX1_rowOf 5 = .ok (.if_icmp .ge 7, 3) := by decide +kernel
theorem dX1_rowOf_8 : decode cX1_rowOf 8 = .ok (.iconst 0, 1) := by decide +kernel
theorem dX1_rowOf_9 : decode cX1_rowOf 9 = .ok (.goto 9, 3) := by decide +kernel
theorem dX1_rowOf_12 : decode cX1_rowOf 12 = .ok (.iload_n 1, 1) := by decide +kernel
theorem dX1_rowOf_13 : decode cX1_rowOf 13 = .ok (.aload_n 0, 1) := by decide +kernel
theorem dX1_rowOf_14 : decode cX1_rowOf 14 = .ok (.getfield 9, 3) := by decide +kernel
theorem dX1_rowOf_17 : decode cX1_rowOf 17 = .ok (.idiv, 1) := by decide +kernel
theorem dX1_rowOf_18 : decode cX1_rowOf 18 = .ok (.ireturn, 1) := by decide +kernel
theorem bX1_rowOf_0 (x1 : Int32) (mem : zm_Mem) (post : zm_Post) (kk : ((1 ≤ (mem 1 0) → (¬ mem 1 0 = 0 ∧ post (x1 / (mem 1 0)) 0 mem)) ∧ (¬ 1 ≤ (mem 1 0) → post 0 0 mem))) : zm_Call gX1_rowOf [.ref 1, .int x1] mem post := by
  refine z_entry (by decide) (Nat.le_of_ble_eq_true rfl) ?_
  show zm_Z gX1_rowOf post 0 [(0, .ref 1), (1, .int x1)] [] mem
  refine z_aload_n dX1_rowOf_0 rfl 0 rfl ?_
  refine z_geti (ci := 1) (j := 0) (T := TX1) rfl rfl hX1 rfl (by decide) fkX1_9 dX1_rowOf_1 ?_
  refine z_iconst (v := 1) dX1_rowOf_4 zciconst_1 ?_
  refine z_icmp_ge (tgt := 12) dX1_rowOf_5 (by decide) (fun h1 => ?_) (fun h1 => ?_)
  ·
    refine z_iload_n dX1_rowOf_12 rfl 1 rfl ?_
    refine z_aload_n dX1_rowOf_13 rfl 0 rfl ?_
    refine z_geti (ci := 1) (j := 0) (T := TX1) rfl rfl hX1 rfl (by decide) fkX1_9 dX1_rowOf_14 ?_
    refine z_idiv dX1_rowOf_17 (kk.1 h1).1 ?_
    exact z_iret rfl dX1_rowOf_18 (kk.1 h1).2
  ·
    refine z_iconst (v := 0) dX1_rowOf_8 zciconst_0 ?_
    refine z_goto (tgt := 18) dX1_rowOf_9 (by decide) ?_
    exact z_iret rfl dX1_rowOf_18 (kk.2 h1)
theorem dX1_turnedX_0 : decode cX1_turnedX 0 = .ok (.iload_n 0, 1) := by decide +kernel
theorem dX1_turnedX_1 : decode cX1_turnedX 1 = .ok (.tableswitch 51 1 7 #[43, 46, 49, 46, 51, 49, 43], 43) := by decide +kernel
theorem dX1_turnedX_44 : decode cX1_turnedX 44 = .ok (.iload_n 2, 1) := by decide +kernel
theorem dX1_turnedX_45 : decode cX1_turnedX 45 = .ok (.ineg, 1) := by decide +kernel
theorem dX1_turnedX_46 : decode cX1_turnedX 46 = .ok (.ireturn, 1) := by decide +kernel
theorem dX1_turnedX_47 : decode cX1_turnedX 47 = .ok (.iload_n 1, 1) := by decide +kernel
theorem dX1_turnedX_48 : decode cX1_turnedX 48 = .ok (.ineg, 1) := by decide +kernel
theorem dX1_turnedX_49 : decode cX1_turnedX 49 = .ok (.ireturn, 1) := by decide +kernel
theorem dX1_turnedX_50 : decode cX1_turnedX 50 = .ok (.iload_n 2, 1) := by decide +kernel
theorem dX1_turnedX_51 : decode cX1_turnedX 51 = .ok (.ireturn, 1) := by decide +kernel
theorem dX1_turnedX_52 : decode cX1_turnedX 52 = .ok (.iload_n 1, 1) := by decide +kernel
theorem dX1_turnedX_53 : decode cX1_turnedX 53 = .ok (.ireturn, 1) := by decide +kernel
theorem bX1_turnedX_0 (x0 : Int32) (x1 : Int32) (x2 : Int32) (mem : zm_Mem) (post : zm_Post) (kk : (((x0 : Int32).toInt < 1 ∨ 7 < (x0 : Int32).toInt → post x1 0 mem) ∧ ((x0 : Int32).toInt = 1 → post (-x2) 0 mem) ∧ ((x0 : Int32).toInt = 2 → post (-x1) 0 mem) ∧ ((x0 : Int32).toInt = 3 → post x2 0 mem) ∧ ((x0 : Int32).toInt = 4 → post (-x1) 0 mem) ∧ ((x0 : Int32).toInt = 5 → post x1 0 mem) ∧ ((x0 : Int32).toInt = 6 → post x2 0 mem) ∧ ((x0 : Int32).toInt = 7 → post (-x2) 0 mem))) : zm_Call gX1_turnedX [.int x0, .int x1, .int x2] mem post := by
  refine z_entry (by decide) (Nat.le_of_ble_eq_true rfl) ?_
  show zm_Z gX1_turnedX post 0 [(0, .int x0), (1, .int x1), (2, .int x2)] [] mem
  refine z_iload_n dX1_turnedX_0 rfl 0 rfl ?_
  by_cases h1 : (x0 : Int32).toInt < 1 ∨ 7 < (x0 : Int32).toInt
  ·
    refine z_tableOut (tgt := 52) dX1_turnedX_1 h1 (by decide) ?_
    refine z_iload_n dX1_turnedX_52 rfl 1 rfl ?_
    exact z_iret rfl dX1_turnedX_53 (kk.1 h1)
  by_cases h2 : (x0 : Int32).toInt = 1
  ·
    refine z_tableIn (off := 43) (tgt := 44) dX1_turnedX_1 (by omega) (by omega) (by rw [h2]; rfl) (by decide) ?_
    refine z_iload_n dX1_turnedX_44 rfl 2 rfl ?_
    refine z_ineg dX1_turnedX_45 ?_
    exact z_iret rfl dX1_turnedX_46 (kk.2.1 h2)
  by_cases h3 : (x0 : Int32).toInt = 2
  ·
    refine z_tableIn (off := 46) (tgt := 47) dX1_turnedX_1 (by omega) (by omega) (by rw [h3]; rfl) (by decide) ?_
    refine z_iload_n dX1_turnedX_47 rfl 1 rfl ?_
    refine z_ineg dX1_turnedX_48 ?_
    exact z_iret rfl dX1_turnedX_49 (kk.2.2.1 h3)
  by_cases h4 : (x0 : Int32).toInt = 3
  ·
    refine z_tableIn (off := 49) (tgt := 50) dX1_turnedX_1 (by omega) (by omega) (by rw [h4]; rfl) (by decide) ?_
    refine z_iload_n dX1_turnedX_50 rfl 2 rfl ?_
    exact z_iret rfl dX1_turnedX_51 (kk.2.2.2.1 h4)
  by_cases h5 : (x0 : Int32).toInt = 4
  ·
    refine z_tableIn (off := 46) (tgt := 47) dX1_turnedX_1 (by omega) (by omega) (by rw [h5]; rfl) (by decide) ?_
    refine z_iload_n dX1_turnedX_47 rfl 1 rfl ?_
    refine z_ineg dX1_turnedX_48 ?_
    exact z_iret rfl dX1_turnedX_49 (kk.2.2.2.2.1 h5)
  by_cases h6 : (x0 : Int32).toInt = 5
  ·
    refine z_tableIn (off := 51) (tgt := 52) dX1_turnedX_1 (by omega) (by omega) (by rw [h6]; rfl) (by decide) ?_
    refine z_iload_n dX1_turnedX_52 rfl 1 rfl ?_
    exact z_iret rfl dX1_turnedX_53 (kk.2.2.2.2.2.1 h6)
  by_cases h7 : (x0 : Int32).toInt = 6
  ·
    refine z_tableIn (off := 49) (tgt := 50) dX1_turnedX_1 (by omega) (by omega) (by rw [h7]; rfl) (by decide) ?_
    refine z_iload_n dX1_turnedX_50 rfl 2 rfl ?_
    exact z_iret rfl dX1_turnedX_51 (kk.2.2.2.2.2.2.1 h7)
  have h8 : (x0 : Int32).toInt = 7 := by omega
  refine z_tableIn (off := 43) (tgt := 44) dX1_turnedX_1 (by omega) (by omega) (by rw [h8]; rfl) (by decide) ?_
  refine z_iload_n dX1_turnedX_44 rfl 2 rfl ?_
  refine z_ineg dX1_turnedX_45 ?_
  exact z_iret rfl dX1_turnedX_46 (kk.2.2.2.2.2.2.2 h8)
theorem dX1_turnedY_0 : decode cX1_turnedY 0 = .ok (.iload_n 0, 1) := by decide +kernel
theorem dX1_turnedY_1 : decode cX1_turnedY 1 = .ok (.tableswitch 51 1 7 #[43, 45, 48, 51, 45, 43, 48], 43) := by decide +kernel
theorem dX1_turnedY_44 : decode cX1_turnedY 44 = .ok (.iload_n 1, 1) := by decide +kernel
theorem dX1_turnedY_45 : decode cX1_turnedY 45 = .ok (.ireturn, 1) := by decide +kernel
theorem dX1_turnedY_46 : decode cX1_turnedY 46 = .ok (.iload_n 2, 1) := by decide +kernel
theorem dX1_turnedY_47 : decode cX1_turnedY 47 = .ok (.ineg, 1) := by decide +kernel
theorem dX1_turnedY_48 : decode cX1_turnedY 48 = .ok (.ireturn, 1) := by decide +kernel
theorem dX1_turnedY_49 : decode cX1_turnedY 49 = .ok (.iload_n 1, 1) := by decide +kernel
theorem dX1_turnedY_50 : decode cX1_turnedY 50 = .ok (.ineg, 1) := by decide +kernel
theorem dX1_turnedY_51 : decode cX1_turnedY 51 = .ok (.ireturn, 1) := by decide +kernel
theorem dX1_turnedY_52 : decode cX1_turnedY 52 = .ok (.iload_n 2, 1) := by decide +kernel
theorem dX1_turnedY_53 : decode cX1_turnedY 53 = .ok (.ireturn, 1) := by decide +kernel
theorem bX1_turnedY_0 (x0 : Int32) (x1 : Int32) (x2 : Int32) (mem : zm_Mem) (post : zm_Post) (kk : (((x0 : Int32).toInt < 1 ∨ 7 < (x0 : Int32).toInt → post x2 0 mem) ∧ ((x0 : Int32).toInt = 1 → post x1 0 mem) ∧ ((x0 : Int32).toInt = 2 → post (-x2) 0 mem) ∧ ((x0 : Int32).toInt = 3 → post (-x1) 0 mem) ∧ ((x0 : Int32).toInt = 4 → post x2 0 mem) ∧ ((x0 : Int32).toInt = 5 → post (-x2) 0 mem) ∧ ((x0 : Int32).toInt = 6 → post x1 0 mem) ∧ ((x0 : Int32).toInt = 7 → post (-x1) 0 mem))) : zm_Call gX1_turnedY [.int x0, .int x1, .int x2] mem post := by
  refine z_entry (by decide) (Nat.le_of_ble_eq_true rfl) ?_
  show zm_Z gX1_turnedY post 0 [(0, .int x0), (1, .int x1), (2, .int x2)] [] mem
  refine z_iload_n dX1_turnedY_0 rfl 0 rfl ?_
  by_cases h1 : (x0 : Int32).toInt < 1 ∨ 7 < (x0 : Int32).toInt
  ·
    refine z_tableOut (tgt := 52) dX1_turnedY_1 h1 (by decide) ?_
    refine z_iload_n dX1_turnedY_52 rfl 2 rfl ?_
    exact z_iret rfl dX1_turnedY_53 (kk.1 h1)
  by_cases h2 : (x0 : Int32).toInt = 1
  ·
    refine z_tableIn (off := 43) (tgt := 44) dX1_turnedY_1 (by omega) (by omega) (by rw [h2]; rfl) (by decide) ?_
    refine z_iload_n dX1_turnedY_44 rfl 1 rfl ?_
    exact z_iret rfl dX1_turnedY_45 (kk.2.1 h2)
  by_cases h3 : (x0 : Int32).toInt = 2
  ·
    refine z_tableIn (off := 45) (tgt := 46) dX1_turnedY_1 (by omega) (by omega) (by rw [h3]; rfl) (by decide) ?_
    refine z_iload_n dX1_turnedY_46 rfl 2 rfl ?_
    refine z_ineg dX1_turnedY_47 ?_
    exact z_iret rfl dX1_turnedY_48 (kk.2.2.1 h3)
  by_cases h4 : (x0 : Int32).toInt = 3
  ·
    refine z_tableIn (off := 48) (tgt := 49) dX1_turnedY_1 (by omega) (by omega) (by rw [h4]; rfl) (by decide) ?_
    refine z_iload_n dX1_turnedY_49 rfl 1 rfl ?_
    refine z_ineg dX1_turnedY_50 ?_
    exact z_iret rfl dX1_turnedY_51 (kk.2.2.2.1 h4)
  by_cases h5 : (x0 : Int32).toInt = 4
  ·
    refine z_tableIn (off := 51) (tgt := 52) dX1_turnedY_1 (by omega) (by omega) (by rw [h5]; rfl) (by decide) ?_
    refine z_iload_n dX1_turnedY_52 rfl 2 rfl ?_
    exact z_iret rfl dX1_turnedY_53 (kk.2.2.2.2.1 h5)
  by_cases h6 : (x0 : Int32).toInt = 5
  ·
    refine z_tableIn (off := 45) (tgt := 46) dX1_turnedY_1 (by omega) (by omega) (by rw [h6]; rfl) (by decide) ?_
    refine z_iload_n dX1_turnedY_46 rfl 2 rfl ?_
    refine z_ineg dX1_turnedY_47 ?_
    exact z_iret rfl dX1_turnedY_48 (kk.2.2.2.2.2.1 h6)
  by_cases h7 : (x0 : Int32).toInt = 6
  ·
    refine z_tableIn (off := 43) (tgt := 44) dX1_turnedY_1 (by omega) (by omega) (by rw [h7]; rfl) (by decide) ?_
    refine z_iload_n dX1_turnedY_44 rfl 1 rfl ?_
    exact z_iret rfl dX1_turnedY_45 (kk.2.2.2.2.2.2.1 h7)
  have h8 : (x0 : Int32).toInt = 7 := by omega
  refine z_tableIn (off := 48) (tgt := 49) dX1_turnedY_1 (by omega) (by omega) (by rw [h8]; rfl) (by decide) ?_
  refine z_iload_n dX1_turnedY_49 rfl 1 rfl ?_
  refine z_ineg dX1_turnedY_50 ?_
  exact z_iret rfl dX1_turnedY_51 (kk.2.2.2.2.2.2.2 h8)
theorem dX1_cellAt_0 : decode cX1_cellAt 0 = .ok (.aload_n 0, 1) := by decide +kernel
theorem dX1_cellAt_1 : decode cX1_cellAt 1 = .ok (.getfield 9, 3) := by decide +kernel
theorem dX1_cellAt_4 : decode cX1_cellAt 4 = .ok (.iconst 1, 1) := by decide +kernel
theorem dX1_cellAt_5 : decode cX1_cellAt 5 = .ok (.if_icmp .lt 11, 3) := by decide +kernel
theorem dX1_cellAt_8 : decode cX1_cellAt 8 = .ok (.aload_n 0, 1) := by decide +kernel
theorem dX1_cellAt_9 : decode cX1_cellAt 9 = .ok (.getfield 15, 3) := by decide +kernel
theorem dX1_cellAt_12 : decode cX1_cellAt 12 = .ok (.iconst 1, 1) := by decide +kernel
theorem dX1_cellAt_13 : decode cX1_cellAt 13 = .ok (.if_icmp .ge 5, 3) := by decide +kernel
theorem dX1_cellAt_16 : decode cX1_cellAt 16 = .ok (.iconst 0, 1) := by decide +kernel
theorem dX1_cellAt_17 : decode cX1_cellAt 17 = .ok (.ireturn, 1) := by decide +kernel
theorem dX1_cellAt_18 : decode cX1_cellAt 18 = .ok (.iload_n 1, 1) := by decide +kernel
theorem dX1_cellAt_19 : decode cX1_cellAt 19 = .ok (.aload_n 0, 1) := by decide +kernel
theorem dX1_cellAt_20 : decode cX1_cellAt 20 = .ok (.getfield 9, 3) := by decide +kernel
theorem dX1_cellAt_23 : decode cX1_cellAt 23 = .ok (.irem, 1) := by decide +kernel
theorem dX1_cellAt_24 : decode cX1_cellAt 24 = .ok (.istore_n 3, 1) := by decide +kernel
theorem dX1_cellAt_25 : decode cX1_cellAt 25 = .ok (.iload_n 2, 1) := by decide +kernel
theorem dX1_cellAt_26 : decode cX1_cellAt 26 = .ok (.aload_n 0, 1) := by decide +kernel
theorem dX1_cellAt_27 : decode cX1_cellAt 27 = .ok (.getfield 15, 3) := by decide +kernel
theorem dX1_cellAt_30 : decode cX1_cellAt 30 = .ok (.irem, 1) := by decide +kernel
theorem dX1_cellAt_31 : decode cX1_cellAt 31 = .ok (.istore 4, 2) := by decide +kernel
theorem dX1_cellAt_33 : decode cX1_cellAt 33 = .ok (.iload 4, 2) := by decide +kernel
theorem dX1_cellAt_35 : decode cX1_cellAt 35 = .ok (.ifCond .ge 13, 3) := by decide +kernel
theorem dX1_cellAt_38 : decode cX1_cellAt 38 = .ok (.iload 4, 2) := by decide +kernel
theorem dX1_cellAt_40 : decode cX1_cellAt 40 = .ok (.aload_n 0, 1) := by decide +kernel
theorem dX1_cellAt_41 : decode cX1_cellAt 41 = .ok (.getfield 15, 3) := by decide +kernel
theorem dX1_cellAt_44 : decode cX1_cellAt 44 = .ok (.iadd, 1) := by decide +kernel
theorem dX1_cellAt_45 : decode cX1_cellAt 45 = .ok (.goto 5, 3) := by decide +kernel
theorem dX1_cellAt_48 : decode cX1_cellAt 48 = .ok (.iload 4, 2) := by decide +kernel
theorem dX1_cellAt_50 : decode cX1_cellAt 50 = .ok (.aload_n 0, 1) := by decide +kernel
theorem dX1_cellAt_51 : decode cX1_cellAt 51 = .ok (.getfield 9, 3) := by decide +kernel
theorem dX1_cellAt_54 : decode cX1_cellAt 54 = .ok (.imul, 1) := by decide +kernel
theorem dX1_cellAt_55 : decode cX1_cellAt 55 = .ok (.iload_n 3, 1) := by decide +kernel
theorem dX1_cellAt_56 : decode cX1_cellAt 56 = .ok (.ifCond .ge 12, 3) := by decide +kernel
theorem dX1_cellAt_59 : decode cX1_cellAt 59 = .ok (.iload_n 3, 1) := by decide +kernel
theorem dX1_cellAt_60 : decode cX1_cellAt 60 = .ok (.aload_n 0, 1) := by decide +kernel
theorem dX1_cellAt_61 : decode cX1_cellAt 61 = .ok (.getfield 9, 3) := by decide +kernel
theorem dX1_cellAt_64 : decode cX1_cellAt 64 = .ok (.iadd, 1) := by decide +kernel
theorem dX1_cellAt_65 : decode cX1_cellAt 65 = .ok (.goto 4, 3) := by decide +kernel
theorem dX1_cellAt_68 : decode cX1_cellAt 68 = .ok (.iload_n 3, 1) := by decide +kernel
theorem dX1_cellAt_69 : decode cX1_cellAt 69 = .ok (.iadd, 1) := by decide +kernel
theorem dX1_cellAt_70 : decode cX1_cellAt 70 = .ok (.ireturn, 1) := by decide +kernel
theorem bX1_cellAt_0 (x1 : Int32) (x2 : Int32) (mem : zm_Mem) (post : zm_Post) (kk : (((mem 1 0) < 1 → post 0 0 mem) ∧ (¬ (mem 1 0) < 1 → ((1 ≤ (mem 1 1) → (¬ mem 1 0 = 0 ∧ (¬ mem 1 1 = 0 ∧ ((0 ≤ (x2 - x2 / (mem 1 1) * (mem 1 1)) → zm_Z gX1_cellAt post 50 [(0, .ref 1), (3, .int (x1 - x1 / (mem 1 0) * (mem 1 0)))] [.int (x2 - x2 / (mem 1 1) * (mem 1 1))] mem) ∧ (¬ 0 ≤ (x2 - x2 / (mem 1 1) * (mem 1 1)) → zm_Z gX1_cellAt post 50 [(0, .ref 1), (3, .int (x1 - x1 / (mem 1 0) * (mem 1 0)))] [.int ((x2 - x2 / (mem 1 1) * (mem 1 1)) + (mem 1 1))] mem))))) ∧ (¬ 1 ≤ (mem 1 1) → post 0 0 mem))))) : zm_Call gX1_cellAt [.ref 1, .int x1, .int x2] mem post := by
  refine z_entry (by decide) (Nat.le_of_ble_eq_true rfl) ?_
  show zm_Z gX1_cellAt post 0 [(0, .ref 1), (1, .int x1), (2, .int x2)] [] mem
  refine z_aload_n dX1_cellAt_0 rfl 0 rfl ?_
  refine z_geti (ci := 1) (j := 0) (T := TX1) rfl rfl hX1 rfl (by decide) fkX1_9 dX1_cellAt_1 ?_
  refine z_iconst (v := 1) dX1_cellAt_4 zciconst_1 ?_
  refine z_icmp_lt (tgt := 16) dX1_cellAt_5 (by decide) (fun h1 => ?_) (fun h1 => ?_)
  ·
    refine z_iconst (v := 0) dX1_cellAt_16 zciconst_0 ?_
    exact z_iret rfl dX1_cellAt_17 (kk.1 h1)
  ·
    refine z_aload_n dX1_cellAt_8 rfl 0 rfl ?_
    refine z_geti (ci := 1) (j := 1) (T := TX1) rfl rfl hX1 rfl (by decide) fkX1_15 dX1_cellAt_9 ?_
    refine z_iconst (v := 1) dX1_cellAt_12 zciconst_1 ?_
    refine z_icmp_ge (tgt := 18) dX1_cellAt_13 (by decide) (fun h2 => ?_) (fun h2 => ?_)
    ·
      refine z_iload_n dX1_cellAt_18 rfl 1 rfl ?_
      refine z_aload_n dX1_cellAt_19 rfl 0 rfl ?_
      refine z_geti (ci := 1) (j := 0) (T := TX1) rfl rfl hX1 rfl (by decide) fkX1_9 dX1_cellAt_20 ?_
      refine z_irem dX1_cellAt_23 ((kk.2 h1).1 h2).1 ?_
      refine z_istore_n (lv' := [(3, .int (x1 - x1 / (mem 1 0) * (mem 1 0))), (0, .ref 1), (1, .int x1), (2, .int x2)]) dX1_cellAt_24 rfl (by decide) rfl ?_
      refine z_iload_n dX1_cellAt_25 rfl 3 rfl ?_
      refine z_aload_n dX1_cellAt_26 rfl 1 rfl ?_
      refine z_geti (ci := 1) (j := 1) (T := TX1) rfl rfl hX1 rfl (by decide) fkX1_15 dX1_cellAt_27 ?_
      refine z_irem dX1_cellAt_30 ((kk.2 h1).1 h2).2.1 ?_
      refine z_istore (lv' := [(4, .int (x2 - x2 / (mem 1 1) * (mem 1 1))), (3, .int (x1 - x1 / (mem 1 0) * (mem 1 0))), (0, .ref 1), (1, .int x1), (2, .int x2)]) dX1_cellAt_31 (by decide) rfl ?_
      refine z_iload dX1_cellAt_33 0 rfl ?_
      refine z_if_ge (tgt := 48) dX1_cellAt_35 (by decide) (fun h3 => ?_) (fun h3 => ?_)
      ·
        refine z_iload dX1_cellAt_48 0 rfl ?_
        refine z_sub [2, 1] rfl ?_
        exact (((kk.2 h1).1 h2).2.2.1 h3)
      ·
        refine z_iload dX1_cellAt_38 0 rfl ?_
        refine z_aload_n dX1_cellAt_40 rfl 2 rfl ?_
        refine z_geti (ci := 1) (j := 1) (T := TX1) rfl rfl hX1 rfl (by decide) fkX1_15 dX1_cellAt_41 ?_
        refine z_iadd dX1_cellAt_44 ?_
        refine z_goto (tgt := 50) dX1_cellAt_45 (by decide) ?_
        refine z_sub [2, 1] rfl ?_
        exact (((kk.2 h1).1 h2).2.2.2 h3)
    ·
      refine z_iconst (v := 0) dX1_cellAt_16 zciconst_0 ?_
      exact z_iret rfl dX1_cellAt_17 ((kk.2 h1).2 h2)
theorem bX1_cellAt_50 (x3 : Int32) (s0 : Int32) (mem : zm_Mem) (post : zm_Post) (kk : ((0 ≤ x3 → post ((s0 * (mem 1 0)) + x3) 0 mem) ∧ (¬ 0 ≤ x3 → post ((s0 * (mem 1 0)) + (x3 + (mem 1 0))) 0 mem))) : zm_Z gX1_cellAt post 50 [(0, .ref 1), (3, .int x3)] [.int s0] mem := by
  refine z_aload_n dX1_cellAt_50 rfl 0 rfl ?_
  refine z_geti (ci := 1) (j := 0) (T := TX1) rfl rfl hX1 rfl (by decide) fkX1_9 dX1_cellAt_51 ?_
  refine z_imul dX1_cellAt_54 ?_
  refine z_iload_n dX1_cellAt_55 rfl 1 rfl ?_
  refine z_if_ge (tgt := 68) dX1_cellAt_56 (by decide) (fun h1 => ?_) (fun h1 => ?_)
  ·
    refine z_iload_n dX1_cellAt_68 rfl 1 rfl ?_
    refine z_iadd dX1_cellAt_69 ?_
    exact z_iret rfl dX1_cellAt_70 (kk.1 h1)
  ·
    refine z_iload_n dX1_cellAt_59 rfl 1 rfl ?_
    refine z_aload_n dX1_cellAt_60 rfl 0 rfl ?_
    refine z_geti (ci := 1) (j := 0) (T := TX1) rfl rfl hX1 rfl (by decide) fkX1_9 dX1_cellAt_61 ?_
    refine z_iadd dX1_cellAt_64 ?_
    refine z_goto (tgt := 69) dX1_cellAt_65 (by decide) ?_
    refine z_iadd dX1_cellAt_69 ?_
    exact z_iret rfl dX1_cellAt_70 (kk.2 h1)
theorem dX1_target_0 : decode cX1_target 0 = .ok (.aload_n 0, 1) := by decide +kernel
theorem dX1_target_1 : decode cX1_target 1 = .ok (.iload_n 1, 1) := by decide +kernel
theorem dX1_target_2 : decode cX1_target 2 = .ok (.invokevirtual 25, 3) := by decide +kernel
theorem dX1_target_5 : decode cX1_target 5 = .ok (.istore_n 3, 1) := by decide +kernel
theorem dX1_target_6 : decode cX1_target 6 = .ok (.aload_n 0, 1) := by decide +kernel
theorem dX1_target_7 : decode cX1_target 7 = .ok (.iload_n 1, 1) := by decide +kernel
theorem dX1_target_8 : decode cX1_target 8 = .ok (.invokevirtual 33, 3) := by decide +kernel
theorem dX1_target_11 : decode cX1_target 11 = .ok (.istore 4, 2) := by decide +kernel
theorem dX1_target_13 : decode cX1_target 13 = .ok (.aload_n 0, 1) := by decide +kernel
theorem dX1_target_14 : decode cX1_target 14 = .ok (.iload_n 2, 1) := by decide +kernel
theorem dX1_target_15 : decode cX1_target 15 = .ok (.invokevirtual 36, 3) := by decide +kernel
theorem dX1_target_18 : decode cX1_target 18 = .ok (.istore 5, 2) := by decide +kernel
theorem dX1_target_20 : decode cX1_target 20 = .ok (.aload_n 0, 1) := by decide +kernel
theorem dX1_target_21 : decode cX1_target 21 = .ok (.iload_n 2, 1) := by decide +kernel
theorem dX1_target_22 : decode cX1_target 22 = .ok (.invokevirtual 39, 3) := by decide +kernel
theorem dX1_target_25 : decode cX1_target 25 = .ok (.istore 6, 2) := by decide +kernel
theorem dX1_target_27 : decode cX1_target 27 = .ok (.aload_n 0, 1) := by decide +kernel
theorem dX1_target_28 : decode cX1_target 28 = .ok (.iload_n 3, 1) := by decide +kernel
theorem dX1_target_29 : decode cX1_target 29 = .ok (.iload 5, 2) := by decide +kernel
theorem dX1_target_31 : decode cX1_target 31 = .ok (.iload 6, 2) := by decide +kernel
theorem dX1_target_33 : decode cX1_target 33 = .ok (.invokestatic 42, 3) := by decide +kernel
theorem dX1_target_36 : decode cX1_target 36 = .ok (.aload_n 0, 1) := by decide +kernel
theorem dX1_target_37 : decode cX1_target 37 = .ok (.iload 4, 2) := by decide +kernel
theorem dX1_target_39 : decode cX1_target 39 = .ok (.invokevirtual 36, 3) := by decide +kernel
theorem dX1_target_42 : decode cX1_target 42 = .ok (.iadd, 1) := by decide +kernel
theorem dX1_target_43 : decode cX1_target 43 = .ok (.iload_n 3, 1) := by decide +kernel
theorem dX1_target_44 : decode cX1_target 44 = .ok (.iload 5, 2) := by decide +kernel
theorem dX1_target_46 : decode cX1_target 46 = .ok (.iload 6, 2) := by decide +kernel
theorem dX1_target_48 : decode cX1_target 48 = .ok (.invokestatic 46, 3) := by decide +kernel
theorem dX1_target_51 : decode cX1_target 51 = .ok (.aload_n 0, 1) := by decide +kernel
theorem dX1_target_52 : decode cX1_target 52 = .ok (.iload 4, 2) := by decide +kernel
theorem dX1_target_54 : decode cX1_target 54 = .ok (.invokevirtual 39, 3) := by decide +kernel
theorem dX1_target_57 : decode cX1_target 57 = .ok (.iadd, 1) := by decide +kernel
theorem dX1_target_58 : decode cX1_target 58 = .ok (.invokevirtual 49, 3) := by decide +kernel
theorem dX1_target_61 : decode cX1_target 61 = .ok (.ireturn, 1) := by decide +kernel
theorem bX1_target_0 (x1 : Int32) (x2 : Int32) (mem : zm_Mem) (post : zm_Post) (kk : zm_Call gX1_turnOf [.ref 1, .int x1] mem (fun r1 w1 u1 => zm_Call gX1_shiftOf [.ref 1, .int x1] u1 (fun r2 w2 u2 => zm_Call gX1_columnOf [.ref 1, .int x2] u2 (fun r3 w3 u3 => zm_Call gX1_rowOf [.ref 1, .int x2] u3 (fun r4 w4 u4 => zm_Call gX1_turnedX [.int r1, .int r3, .int r4] u4 (fun r5 w5 u5 => zm_Call gX1_columnOf [.ref 1, .int r2] u5 (fun r6 w6 u6 => zm_Call gX1_turnedY [.int r1, .int r3, .int r4] u6 (fun r7 w7 u7 => zm_Call gX1_rowOf [.ref 1, .int r2] u7 (fun r8 w8 u8 => zm_Call gX1_cellAt [.ref 1, .int (r5 + r6), .int (r7 + r8)] u8 (fun r9 w9 u9 => post r9 0 u9)))))))))) : zm_Call gX1_target [.ref 1, .int x1, .int x2] mem post := by
  refine z_entry (by decide) (Nat.le_of_ble_eq_true rfl) ?_
  show zm_Z gX1_target post 0 [(0, .ref 1), (1, .int x1), (2, .int x2)] [] mem
  refine z_aload_n dX1_target_0 rfl 0 rfl ?_
  refine z_iload_n dX1_target_1 rfl 1 rfl ?_
  refine z_callVi (g' := gX1_turnOf) [.int x1] (q := 1) (ci := 1) (T := TX1) rfl rfl ⟨lkX1_25, pdX1_turnOf, by decide, by decide⟩ ⟨_, rfl, by decide⟩ rfl (Nat.le_of_ble_eq_true rfl) dX1_target_2 (zm_Call.mono kk (fun r1 w1 u1 k1 => ?_))
  refine z_istore_n (lv' := [(3, .int r1), (0, .ref 1), (1, .int x1), (2, .int x2)]) dX1_target_5 rfl (by decide) rfl ?_
  refine z_aload_n dX1_target_6 rfl 1 rfl ?_
  refine z_iload_n dX1_target_7 rfl 2 rfl ?_
  refine z_callVi (g' := gX1_shiftOf) [.int x1] (q := 1) (ci := 1) (T := TX1) rfl rfl ⟨lkX1_33, pdX1_shiftOf, by decide, by decide⟩ ⟨_, rfl, by decide⟩ rfl (Nat.le_of_ble_eq_true rfl) dX1_target_8 (zm_Call.mono k1 (fun r2 w2 u2 k2 => ?_))
  refine z_istore (lv' := [(4, .int r2), (3, .int r1), (0, .ref 1), (1, .int x1), (2, .int x2)]) dX1_target_11 (by decide) rfl ?_
  refine z_aload_n dX1_target_13 rfl 2 rfl ?_
  refine z_iload_n dX1_target_14 rfl 4 rfl ?_
  refine z_callVi (g' := gX1_columnOf) [.int x2] (q := 1) (ci := 1) (T := TX1) rfl rfl ⟨lkX1_36, pdX1_columnOf, by decide, by decide⟩ ⟨_, rfl, by decide⟩ rfl (Nat.le_of_ble_eq_true rfl) dX1_target_15 (zm_Call.mono k2 (fun r3 w3 u3 k3 => ?_))
  refine z_istore (lv' := [(5, .int r3), (4, .int r2), (3, .int r1), (0, .ref 1), (1, .int x1), (2, .int x2)]) dX1_target_18 (by decide) rfl ?_
  refine z_aload_n dX1_target_20 rfl 3 rfl ?_
  refine z_iload_n dX1_target_21 rfl 5 rfl ?_
  refine z_callVi (g' := gX1_rowOf) [.int x2] (q := 1) (ci := 1) (T := TX1) rfl rfl ⟨lkX1_39, pdX1_rowOf, by decide, by decide⟩ ⟨_, rfl, by decide⟩ rfl (Nat.le_of_ble_eq_true rfl) dX1_target_22 (zm_Call.mono k3 (fun r4 w4 u4 k4 => ?_))
  refine z_istore (lv' := [(6, .int r4), (5, .int r3), (4, .int r2), (3, .int r1), (0, .ref 1), (1, .int x1), (2, .int x2)]) dX1_target_25 (by decide) rfl ?_
  refine z_aload_n dX1_target_27 rfl 4 rfl ?_
  refine z_iload_n dX1_target_28 rfl 3 rfl ?_
  refine z_iload dX1_target_29 1 rfl ?_
  refine z_iload dX1_target_31 0 rfl ?_
  refine z_callSi (g' := gX1_turnedX) (st := [.ref 1]) [.int r1, .int r3, .int r4] ⟨lkX1_42, pdX1_turnedX, by decide, by decide⟩ ⟨_, rfl, by decide⟩ rfl (Nat.le_of_ble_eq_true rfl) dX1_target_33 (zm_Call.mono k4 (fun r5 w5 u5 k5 => ?_))
  refine z_aload_n dX1_target_36 rfl 4 rfl ?_
  refine z_iload dX1_target_37 2 rfl ?_
  refine z_callVi (g' := gX1_columnOf) [.int r2] (q := 1) (ci := 1) (T := TX1) rfl rfl ⟨lkX1_36, pdX1_columnOf, by decide, by decide⟩ ⟨_, rfl, by decide⟩ rfl (Nat.le_of_ble_eq_true rfl) dX1_target_39 (zm_Call.mono k5 (fun r6 w6 u6 k6 => ?_))
  refine z_iadd dX1_target_42 ?_
  refine z_iload_n dX1_target_43 rfl 3 rfl ?_
  refine z_iload dX1_target_44 1 rfl ?_
  refine z_iload dX1_target_46 0 rfl ?_
  refine z_callSi (g' := gX1_turnedY) (st := [.int (r5 + r6), .ref 1]) [.int r1, .int r3, .int r4] ⟨lkX1_46, pdX1_turnedY, by decide, by decide⟩ ⟨_, rfl, by decide⟩ rfl (Nat.le_of_ble_eq_true rfl) dX1_target_48 (zm_Call.mono k6 (fun r7 w7 u7 k7 => ?_))
  refine z_aload_n dX1_target_51 rfl 4 rfl ?_
  refine z_iload dX1_target_52 2 rfl ?_
  refine z_callVi (g' := gX1_rowOf) [.int r2] (q := 1) (ci := 1) (T := TX1) rfl rfl ⟨lkX1_39, pdX1_rowOf, by decide, by decide⟩ ⟨_, rfl, by decide⟩ rfl (Nat.le_of_ble_eq_true rfl) dX1_target_54 (zm_Call.mono k7 (fun r8 w8 u8 k8 => ?_))
  refine z_iadd dX1_target_57 ?_
  refine z_callVi (g' := gX1_cellAt) [.int (r5 + r6), .int (r7 + r8)] (q := 1) (ci := 1) (T := TX1) rfl rfl ⟨lkX1_49, pdX1_cellAt, by decide, by decide⟩ ⟨_, rfl, by decide⟩ rfl (Nat.le_of_ble_eq_true rfl) dX1_target_58 (zm_Call.mono k8 (fun r9 w9 u9 k9 => ?_))
  exact z_iret rfl dX1_target_61 k9
theorem dX0_passRound_0 : decode cX0_passRound 0 = .ok (.iload_n 2, 1) := by decide +kernel
theorem dX0_passRound_1 : decode cX0_passRound 1 = .ok (.istore_n 3, 1) := by decide +kernel
theorem dX0_passRound_2 : decode cX0_passRound 2 = .ok (.iconst 0, 1) := by decide +kernel
theorem dX0_passRound_3 : decode cX0_passRound 3 = .ok (.istore 4, 2) := by decide +kernel
theorem dX0_passRound_5 : decode cX0_passRound 5 = .ok (.iload 4, 2) := by decide +kernel
theorem dX0_passRound_7 : decode cX0_passRound 7 = .ok (.aload_n 0, 1) := by decide +kernel
theorem dX0_passRound_8 : decode cX0_passRound 8 = .ok (.getfield 15, 3) := by decide +kernel
theorem dX0_passRound_11 : decode cX0_passRound 11 = .ok (.getfield 40, 3) := by decide +kernel
theorem dX0_passRound_14 : decode cX0_passRound 14 = .ok (.if_icmp .ge 35, 3) := by decide +kernel
theorem dX0_passRound_17 : decode cX0_passRound 17 = .ok (.aload_n 0, 1) := by decide +kernel
theorem dX0_passRound_18 : decode cX0_passRound 18 = .ok (.getfield 9, 3) := by decide +kernel
theorem dX0_passRound_21 : decode cX0_passRound 21 = .ok (.iload_n 3, 1) := by decide +kernel
theorem dX0_passRound_22 : decode cX0_passRound 22 = .ok (.baload, 1) := by decide +kernel
theorem dX0_passRound_23 : decode cX0_passRound 23 = .ok (.ifCond .ne 26, 3) := by decide +kernel
theorem dX0_passRound_26 : decode cX0_passRound 26 = .ok (.aload_n 0, 1) := by decide +kernel
theorem dX0_passRound_27 : decode cX0_passRound 27 = .ok (.getfield 9, 3) := by decide +kernel
theorem dX0_passRound_30 : decode cX0_passRound 30 = .ok (.iload_n 3, 1) := by decide +kernel
theorem dX0_passRound_31 : decode cX0_passRound 31 = .ok (.iconst 1, 1) := by decide +kernel
theorem dX0_passRound_32 : decode cX0_passRound 32 = .ok (.bastore, 1) := by decide +kernel
theorem dX0_passRound_33 : decode cX0_passRound 33 = .ok (.aload_n 0, 1) := by decide +kernel
theorem dX0_passRound_34 : decode cX0_passRound 34 = .ok (.getfield 15, 3) := by decide +kernel
theorem dX0_passRound_37 : decode cX0_passRound 37 = .ok (.iload_n 1, 1) := by decide +kernel
theorem dX0_passRound_38 : decode cX0_passRound 38 = .ok (.iload_n 3, 1) := by decide +kernel
theorem dX0_passRound_39 : decode cX0_passRound 39 = .ok (.invokevirtual 48, 3) := by decide +kernel
theorem dX0_passRound_42 : decode cX0_passRound 42 = .ok (.istore_n 3, 1) := by decide +kernel
theorem dX0_passRound_43 : decode cX0_passRound 43 = .ok (.iinc 4 1, 3) := by decide +kernel
theorem dX0_passRound_46 : decode cX0_passRound 46 = .ok (.goto (-41), 3) := by decide +kernel
theorem dX0_passRound_49 : decode cX0_passRound 49 = .ok (.return_, 1) := by decide +kernel
theorem bX0_passRound_0 (x1 : Int32) (x2 : Int32) (mem : zm_Mem) (post : zm_Post) (kk : zm_Z gX0_passRound post 5 [(0, .ref 13), (1, .int x1), (3, .int x2), (4, .int 0)] [] mem) : zm_Call gX0_passRound [.ref 13, .int x1, .int x2] mem post := by
  refine z_entry (by decide) (Nat.le_of_ble_eq_true rfl) ?_
  show zm_Z gX0_passRound post 0 [(0, .ref 13), (1, .int x1), (2, .int x2)] [] mem
  refine z_iload_n dX0_passRound_0 rfl 2 rfl ?_
  refine z_istore_n (lv' := [(3, .int x2), (0, .ref 13), (1, .int x1), (2, .int x2)]) dX0_passRound_1 rfl (by decide) rfl ?_
  refine z_iconst (v := 0) dX0_passRound_2 zciconst_0 ?_
  refine z_istore (lv' := [(4, .int 0), (3, .int x2), (0, .ref 13), (1, .int x1), (2, .int x2)]) dX0_passRound_3 (by decide) rfl ?_
  refine z_sub [2, 3, 1, 0] rfl ?_
  exact kk
theorem bX0_passRound_5 (x1 : Int32) (x3 : Int32) (x4 : Int32) (mem : zm_Mem) (post : zm_Post) (kk : (((mem 1 2) ≤ x4 → post 0 0 mem) ∧ (¬ (mem 1 2) ≤ x4 → (vp_in x3 36 ∧ ((¬ (mem 14 (Int32.toNatClampNeg x3)) = 0 → post 0 0 mem) ∧ ((mem 14 (Int32.toNatClampNeg x3)) = 0 → (vp_in x3 36 ∧ zm_Call gX1_target [.ref 1, .int x1, .int x3] (zm_st mem 14 (Int32.toNatClampNeg x3) 1) (fun r3 w3 u3 => zm_Z gX0_passRound post 5 [(0, .ref 13), (1, .int x1), (3, .int r3), (4, .int (x4 + 1))] [] u3)))))))) : zm_Z gX0_passRound post 5 [(0, .ref 13), (1, .int x1), (3, .int x3), (4, .int x4)] [] mem := by
  refine z_iload dX0_passRound_5 3 rfl ?_
  refine z_aload_n dX0_passRound_7 rfl 0 rfl ?_
  refine z_getr (ci := 0) (j := 0) (r := 1) (T := TX0) rfl rfl hX0 rfl (by decide) fkX0_15 dX0_passRound_8 ?_
  refine z_getiN (ci := 1) (j := 2) (T := TX1) rfl rfl hX1 rfl (by decide) fkX0_40 dX0_passRound_11 ?_
  refine z_icmp_ge (tgt := 49) dX0_passRound_14 (by decide) (fun h1 => ?_) (fun h1 => ?_)
  ·
    exact z_vret rfl dX0_passRound_49 (kk.1 h1)
  ·
    refine z_aload_n dX0_passRound_17 rfl 0 rfl ?_
    refine z_getr (ci := 0) (j := 1) (r := 14) (T := TX0) rfl rfl hX0 rfl (by decide) fkX0_9 dX0_passRound_18 ?_
    refine z_iload_n dX0_passRound_21 rfl 2 rfl ?_
    refine z_bald (n := 36) rfl (kk.2 h1).1 dX0_passRound_22 ?_
    refine z_if_ne (tgt := 49) dX0_passRound_23 (by decide) (fun h2 => ?_) (fun h2 => ?_)
    ·
      exact z_vret rfl dX0_passRound_49 ((kk.2 h1).2.1 h2)
    ·
      refine z_aload_n dX0_passRound_26 rfl 0 rfl ?_
      refine z_getr (ci := 0) (j := 1) (r := 14) (T := TX0) rfl rfl hX0 rfl (by decide) fkX0_9 dX0_passRound_27 ?_
      refine z_iload_n dX0_passRound_30 rfl 2 rfl ?_
      refine z_iconst (v := 1) dX0_passRound_31 zciconst_1 ?_
      refine z_bast (n := 36) rfl ((kk.2 h1).2.2 h2).1 (by decide) dX0_passRound_32 ?_
      refine z_aload_n dX0_passRound_33 rfl 0 rfl ?_
      refine z_getr (ci := 0) (j := 0) (r := 1) (T := TX0) rfl rfl hX0 rfl (by decide) fkX0_15 dX0_passRound_34 ?_
      refine z_iload_n dX0_passRound_37 rfl 1 rfl ?_
      refine z_iload_n dX0_passRound_38 rfl 2 rfl ?_
      refine z_callVi (g' := gX1_target) [.int x1, .int x3] (q := 1) (ci := 1) (T := TX1) rfl rfl ⟨lkX0_48, pdX1_target, by decide, by decide⟩ ⟨_, rfl, by decide⟩ rfl (Nat.le_of_ble_eq_true rfl) dX0_passRound_39 (zm_Call.mono ((kk.2 h1).2.2 h2).2 (fun r3 w3 u3 k3 => ?_))
      refine z_istore_n (lv' := [(3, .int r3), (0, .ref 13), (1, .int x1), (4, .int x4)]) dX0_passRound_42 rfl (by decide) rfl ?_
      refine z_iinc (v := x4 + 1) (lv' := [(4, .int (x4 + 1)), (3, .int r3), (0, .ref 13), (1, .int x1)]) dX0_passRound_43 3 rfl (by rw [zciconst_1]) (by decide) rfl ?_
      refine z_goto (tgt := 5) dX0_passRound_46 (by decide) ?_
      refine z_sub [2, 3, 1, 0] rfl ?_
      exact k3
theorem dX0_roundsOf_0 : decode cX0_roundsOf 0 = .ok (.iconst 0, 1) := by decide +kernel
theorem dX0_roundsOf_1 : decode cX0_roundsOf 1 = .ok (.istore_n 2, 1) := by decide +kernel
theorem dX0_roundsOf_2 : decode cX0_roundsOf 2 = .ok (.iload_n 2, 1) := by decide +kernel
theorem dX0_roundsOf_3 : decode cX0_roundsOf 3 = .ok (.aload_n 0, 1) := by decide +kernel
theorem dX0_roundsOf_4 : decode cX0_roundsOf 4 = .ok (.getfield 15, 3) := by decide +kernel
theorem dX0_roundsOf_7 : decode cX0_roundsOf 7 = .ok (.getfield 40, 3) := by decide +kernel
theorem dX0_roundsOf_10 : decode cX0_roundsOf 10 = .ok (.if_icmp .ge 16, 3) := by decide +kernel
theorem dX0_roundsOf_13 : decode cX0_roundsOf 13 = .ok (.aload_n 0, 1) := by decide +kernel
theorem dX0_roundsOf_14 : decode cX0_roundsOf 14 = .ok (.getfield 9, 3) := by decide +kernel
theorem dX0_roundsOf_17 : decode cX0_roundsOf 17 = .ok (.iload_n 2, 1) := by decide +kernel
theorem dX0_roundsOf_18 : decode cX0_roundsOf 18 = .ok (.iconst 0, 1) := by decide +kernel
theorem dX0_roundsOf_19 : decode cX0_roundsOf 19 = .ok (.bastore, 1) := by decide +kernel
theorem dX0_roundsOf_20 : decode cX0_roundsOf 20 = .ok (.iinc 2 1, 3) := by decide +kernel
theorem dX0_roundsOf_23 : decode cX0_roundsOf 23 = .ok (.goto (-21), 3) := by decide +kernel
theorem dX0_roundsOf_26 : decode cX0_roundsOf 26 = .ok (.iconst 0, 1) := by decide +kernel
theorem dX0_roundsOf_27 : decode cX0_roundsOf 27 = .ok (.istore_n 2, 1) := by decide +kernel
theorem dX0_roundsOf_28 : decode cX0_roundsOf 28 = .ok (.iconst 0, 1) := by decide +kernel
theorem dX0_roundsOf_29 : decode cX0_roundsOf 29 = .ok (.istore_n 3, 1) := by decide +kernel
theorem dX0_roundsOf_30 : decode cX0_roundsOf 30 = .ok (.iload_n 3, 1) := by decide +kernel
theorem dX0_roundsOf_31 : decode cX0_roundsOf 31 = .ok (.aload_n 0, 1) := by decide +kernel
theorem dX0_roundsOf_32 : decode cX0_roundsOf 32 = .ok (.getfield 15, 3) := by decide +kernel
theorem dX0_roundsOf_35 : decode cX0_roundsOf 35 = .ok (.getfield 40, 3) := by decide +kernel
theorem dX0_roundsOf_38 : decode cX0_roundsOf 38 = .ok (.if_icmp .ge 27, 3) := by decide +kernel
theorem dX0_roundsOf_41 : decode cX0_roundsOf 41 = .ok (.aload_n 0, 1) := by decide +kernel
theorem dX0_roundsOf_42 : decode cX0_roundsOf 42 = .ok (.getfield 9, 3) := by decide +kernel
theorem dX0_roundsOf_45 : decode cX0_roundsOf 45 = .ok (.iload_n 3, 1) := by decide +kernel
theorem dX0_roundsOf_46 : decode cX0_roundsOf 46 = .ok (.baload, 1) := by decide +kernel
theorem dX0_roundsOf_47 : decode cX0_roundsOf 47 = .ok (.ifCond .ne 12, 3) := by decide +kernel
theorem dX0_roundsOf_50 : decode cX0_roundsOf 50 = .ok (.iinc 2 1, 3) := by decide +kernel
theorem dX0_roundsOf_53 : decode cX0_roundsOf 53 = .ok (.aload_n 0, 1) := by decide +kernel
theorem dX0_roundsOf_54 : decode cX0_roundsOf 54 = .ok (.iload_n 1, 1) := by decide +kernel
theorem dX0_roundsOf_55 : decode cX0_roundsOf 55 = .ok (.iload_n 3, 1) := by decide +kernel
theorem dX0_roundsOf_56 : decode cX0_roundsOf 56 = .ok (.invokevirtual 44, 3) := by decide +kernel
theorem dX0_roundsOf_59 : decode cX0_roundsOf 59 = .ok (.iinc 3 1, 3) := by decide +kernel
theorem dX0_roundsOf_62 : decode cX0_roundsOf 62 = .ok (.goto (-32), 3) := by decide +kernel
theorem dX0_roundsOf_65 : decode cX0_roundsOf 65 = .ok (.iload_n 2, 1) := by decide +kernel
theorem dX0_roundsOf_66 : decode cX0_roundsOf 66 = .ok (.ireturn, 1) := by decide +kernel
theorem bX0_roundsOf_0 (x1 : Int32) (mem : zm_Mem) (post : zm_Post) (kk : zm_Z gX0_roundsOf post 2 [(0, .ref 13), (1, .int x1), (2, .int 0)] [] mem) : zm_Call gX0_roundsOf [.ref 13, .int x1] mem post := by
  refine z_entry (by decide) (Nat.le_of_ble_eq_true rfl) ?_
  show zm_Z gX0_roundsOf post 0 [(0, .ref 13), (1, .int x1)] [] mem
  refine z_iconst (v := 0) dX0_roundsOf_0 zciconst_0 ?_
  refine z_istore_n (lv' := [(2, .int 0), (0, .ref 13), (1, .int x1)]) dX0_roundsOf_1 rfl (by decide) rfl ?_
  refine z_sub [1, 2, 0] rfl ?_
  exact kk
theorem bX0_roundsOf_2 (x1 : Int32) (x2 : Int32) (mem : zm_Mem) (post : zm_Post) (kk : (((mem 1 2) ≤ x2 → zm_Z gX0_roundsOf post 30 [(0, .ref 13), (1, .int x1), (2, .int 0), (3, .int 0)] [] mem) ∧ (¬ (mem 1 2) ≤ x2 → (vp_in x2 36 ∧ zm_Z gX0_roundsOf post 2 [(0, .ref 13), (1, .int x1), (2, .int (x2 + 1))] [] (zm_st mem 14 (Int32.toNatClampNeg x2) 0))))) : zm_Z gX0_roundsOf post 2 [(0, .ref 13), (1, .int x1), (2, .int x2)] [] mem := by
  refine z_iload_n dX0_roundsOf_2 rfl 2 rfl ?_
  refine z_aload_n dX0_roundsOf_3 rfl 0 rfl ?_
  refine z_getr (ci := 0) (j := 0) (r := 1) (T := TX0) rfl rfl hX0 rfl (by decide) fkX0_15 dX0_roundsOf_4 ?_
  refine z_getiN (ci := 1) (j := 2) (T := TX1) rfl rfl hX1 rfl (by decide) fkX0_40 dX0_roundsOf_7 ?_
  refine z_icmp_ge (tgt := 26) dX0_roundsOf_10 (by decide) (fun h1 => ?_) (fun h1 => ?_)
  ·
    refine z_iconst (v := 0) dX0_roundsOf_26 zciconst_0 ?_
    refine z_istore_n (lv' := [(2, .int 0), (0, .ref 13), (1, .int x1)]) dX0_roundsOf_27 rfl (by decide) rfl ?_
    refine z_iconst (v := 0) dX0_roundsOf_28 zciconst_0 ?_
    refine z_istore_n (lv' := [(3, .int 0), (2, .int 0), (0, .ref 13), (1, .int x1)]) dX0_roundsOf_29 rfl (by decide) rfl ?_
    refine z_sub [2, 3, 1, 0] rfl ?_
    exact (kk.1 h1)
  ·
    refine z_aload_n dX0_roundsOf_13 rfl 0 rfl ?_
    refine z_getr (ci := 0) (j := 1) (r := 14) (T := TX0) rfl rfl hX0 rfl (by decide) fkX0_9 dX0_roundsOf_14 ?_
    refine z_iload_n dX0_roundsOf_17 rfl 2 rfl ?_
    refine z_iconst (v := 0) dX0_roundsOf_18 zciconst_0 ?_
    refine z_bast (n := 36) rfl (kk.2 h1).1 (by decide) dX0_roundsOf_19 ?_
    refine z_iinc (v := x2 + 1) (lv' := [(2, .int (x2 + 1)), (0, .ref 13), (1, .int x1)]) dX0_roundsOf_20 2 rfl (by rw [zciconst_1]) (by decide) rfl ?_
    refine z_goto (tgt := 2) dX0_roundsOf_23 (by decide) ?_
    refine z_sub [1, 2, 0] rfl ?_
    exact (kk.2 h1).2
theorem bX0_roundsOf_30 (x1 : Int32) (x2 : Int32) (x3 : Int32) (mem : zm_Mem) (post : zm_Post) (kk : (((mem 1 2) ≤ x3 → post x2 0 mem) ∧ (¬ (mem 1 2) ≤ x3 → (vp_in x3 36 ∧ ((¬ (mem 14 (Int32.toNatClampNeg x3)) = 0 → zm_Z gX0_roundsOf post 30 [(0, .ref 13), (1, .int x1), (2, .int x2), (3, .int (x3 + 1))] [] mem) ∧ ((mem 14 (Int32.toNatClampNeg x3)) = 0 → zm_Call gX0_passRound [.ref 13, .int x1, .int x3] mem (fun r3 w3 u3 => zm_Z gX0_roundsOf post 30 [(0, .ref 13), (1, .int x1), (2, .int (x2 + 1)), (3, .int (x3 + 1))] [] u3))))))) : zm_Z gX0_roundsOf post 30 [(0, .ref 13), (1, .int x1), (2, .int x2), (3, .int x3)] [] mem := by
  refine z_iload_n dX0_roundsOf_30 rfl 3 rfl ?_
  refine z_aload_n dX0_roundsOf_31 rfl 0 rfl ?_
  refine z_getr (ci := 0) (j := 0) (r := 1) (T := TX0) rfl rfl hX0 rfl (by decide) fkX0_15 dX0_roundsOf_32 ?_
  refine z_getiN (ci := 1) (j := 2) (T := TX1) rfl rfl hX1 rfl (by decide) fkX0_40 dX0_roundsOf_35 ?_
  refine z_icmp_ge (tgt := 65) dX0_roundsOf_38 (by decide) (fun h1 => ?_) (fun h1 => ?_)
  ·
    refine z_iload_n dX0_roundsOf_65 rfl 2 rfl ?_
    exact z_iret rfl dX0_roundsOf_66 (kk.1 h1)
  ·
    refine z_aload_n dX0_roundsOf_41 rfl 0 rfl ?_
    refine z_getr (ci := 0) (j := 1) (r := 14) (T := TX0) rfl rfl hX0 rfl (by decide) fkX0_9 dX0_roundsOf_42 ?_
    refine z_iload_n dX0_roundsOf_45 rfl 3 rfl ?_
    refine z_bald (n := 36) rfl (kk.2 h1).1 dX0_roundsOf_46 ?_
    refine z_if_ne (tgt := 59) dX0_roundsOf_47 (by decide) (fun h2 => ?_) (fun h2 => ?_)
    ·
      refine z_iinc (v := x3 + 1) (lv' := [(3, .int (x3 + 1)), (0, .ref 13), (1, .int x1), (2, .int x2)]) dX0_roundsOf_59 3 rfl (by rw [zciconst_1]) (by decide) rfl ?_
      refine z_goto (tgt := 30) dX0_roundsOf_62 (by decide) ?_
      refine z_sub [1, 2, 3, 0] rfl ?_
      exact ((kk.2 h1).2.1 h2)
    ·
      refine z_iinc (v := x2 + 1) (lv' := [(2, .int (x2 + 1)), (0, .ref 13), (1, .int x1), (3, .int x3)]) dX0_roundsOf_50 2 rfl (by rw [zciconst_1]) (by decide) rfl ?_
      refine z_aload_n dX0_roundsOf_53 rfl 1 rfl ?_
      refine z_iload_n dX0_roundsOf_54 rfl 2 rfl ?_
      refine z_iload_n dX0_roundsOf_55 rfl 3 rfl ?_
      refine z_callVv (g' := gX0_passRound) [.int x1, .int x3] (q := 13) (ci := 0) (T := TX0) rfl rfl ⟨lkX0_44, pdX0_passRound, by decide, by decide⟩ rfl rfl (Nat.le_of_ble_eq_true rfl) dX0_roundsOf_56 (zm_Call.mono ((kk.2 h1).2.2 h2) (fun r3 w3 u3 k3 => ?_))
      refine z_iinc (v := x3 + 1) (lv' := [(3, .int (x3 + 1)), (2, .int (x2 + 1)), (0, .ref 13), (1, .int x1)]) dX0_roundsOf_59 3 rfl (by rw [zciconst_1]) (by decide) rfl ?_
      refine z_goto (tgt := 30) dX0_roundsOf_62 (by decide) ?_
      refine z_sub [2, 3, 1, 0] rfl ?_
      exact k3
theorem dX1_moveCount_0 : decode cX1_moveCount 0 = .ok (.aload_n 0, 1) := by decide +kernel
theorem dX1_moveCount_1 : decode cX1_moveCount 1 = .ok (.getfield 9, 3) := by decide +kernel
theorem dX1_moveCount_4 : decode cX1_moveCount 4 = .ok (.aload_n 0, 1) := by decide +kernel
theorem dX1_moveCount_5 : decode cX1_moveCount 5 = .ok (.getfield 15, 3) := by decide +kernel
theorem dX1_moveCount_8 : decode cX1_moveCount 8 = .ok (.if_icmp .ne 13, 3) := by decide +kernel
theorem dX1_moveCount_11 : decode cX1_moveCount 11 = .ok (.bipush 8, 2) := by decide +kernel
theorem dX1_moveCount_13 : decode cX1_moveCount 13 = .ok (.aload_n 0, 1) := by decide +kernel
theorem dX1_moveCount_14 : decode cX1_moveCount 14 = .ok (.getfield 18, 3) := by decide +kernel
theorem dX1_moveCount_17 : decode cX1_moveCount 17 = .ok (.imul, 1) := by decide +kernel
theorem dX1_moveCount_18 : decode cX1_moveCount 18 = .ok (.goto 9, 3) := by decide +kernel
theorem dX1_moveCount_21 : decode cX1_moveCount 21 = .ok (.iconst 4, 1) := by decide +kernel
theorem dX1_moveCount_22 : decode cX1_moveCount 22 = .ok (.aload_n 0, 1) := by decide +kernel
theorem dX1_moveCount_23 : decode cX1_moveCount 23 = .ok (.getfield 18, 3) := by decide +kernel
theorem dX1_moveCount_26 : decode cX1_moveCount 26 = .ok (.imul, 1) := by decide +kernel
theorem dX1_moveCount_27 : decode cX1_moveCount 27 = .ok (.ireturn, 1) := by decide +kernel
theorem bX1_moveCount_0 (mem : zm_Mem) (post : zm_Post) (kk : ((¬ (mem 1 0) = (mem 1 1) → post (4 * (mem 1 2)) 0 mem) ∧ ((mem 1 0) = (mem 1 1) → post (8 * (mem 1 2)) 0 mem))) : zm_Call gX1_moveCount [.ref 1] mem post := by
  refine z_entry (by decide) (Nat.le_of_ble_eq_true rfl) ?_
  show zm_Z gX1_moveCount post 0 [(0, .ref 1)] [] mem
  refine z_aload_n dX1_moveCount_0 rfl 0 rfl ?_
  refine z_geti (ci := 1) (j := 0) (T := TX1) rfl rfl hX1 rfl (by decide) fkX1_9 dX1_moveCount_1 ?_
  refine z_aload_n dX1_moveCount_4 rfl 0 rfl ?_
  refine z_geti (ci := 1) (j := 1) (T := TX1) rfl rfl hX1 rfl (by decide) fkX1_15 dX1_moveCount_5 ?_
  refine z_icmp_ne (tgt := 21) dX1_moveCount_8 (by decide) (fun h1 => ?_) (fun h1 => ?_)
  ·
    refine z_iconst (v := 4) dX1_moveCount_21 zciconst_4 ?_
    refine z_aload_n dX1_moveCount_22 rfl 0 rfl ?_
    refine z_geti (ci := 1) (j := 2) (T := TX1) rfl rfl hX1 rfl (by decide) fkX1_18 dX1_moveCount_23 ?_
    refine z_imul dX1_moveCount_26 ?_
    exact z_iret rfl dX1_moveCount_27 (kk.1 h1)
  ·
    refine z_bipush (v := 8) dX1_moveCount_11 zcbipush_8 ?_
    refine z_aload_n dX1_moveCount_13 rfl 0 rfl ?_
    refine z_geti (ci := 1) (j := 2) (T := TX1) rfl rfl hX1 rfl (by decide) fkX1_18 dX1_moveCount_14 ?_
    refine z_imul dX1_moveCount_17 ?_
    refine z_goto (tgt := 27) dX1_moveCount_18 (by decide) ?_
    exact z_iret rfl dX1_moveCount_27 (kk.2 h1)
theorem dX0_unlike_0 : decode cX0_unlike 0 = .ok (.lconst 0, 1) := by decide +kernel
theorem dX0_unlike_1 : decode cX0_unlike 1 = .ok (.lstore_n 2, 1) := by decide +kernel
theorem dX0_unlike_2 : decode cX0_unlike 2 = .ok (.iconst 0, 1) := by decide +kernel
theorem dX0_unlike_3 : decode cX0_unlike 3 = .ok (.istore 4, 2) := by decide +kernel
theorem dX0_unlike_5 : decode cX0_unlike 5 = .ok (.iload 4, 2) := by decide +kernel
theorem dX0_unlike_7 : decode cX0_unlike 7 = .ok (.aload_n 0, 1) := by decide +kernel
theorem dX0_unlike_8 : decode cX0_unlike 8 = .ok (.getfield 15, 3) := by decide +kernel
theorem dX0_unlike_11 : decode cX0_unlike 11 = .ok (.invokevirtual 19, 3) := by decide +kernel
theorem dX0_unlike_14 : decode cX0_unlike 14 = .ok (.if_icmp .ge 34, 3) := by decide +kernel
theorem dX0_unlike_17 : decode cX0_unlike 17 = .ok (.aload_n 0, 1) := by decide +kernel
theorem dX0_unlike_18 : decode cX0_unlike 18 = .ok (.getfield 15, 3) := by decide +kernel
theorem dX0_unlike_21 : decode cX0_unlike 21 = .ok (.iload 4, 2) := by decide +kernel
theorem dX0_unlike_23 : decode cX0_unlike 23 = .ok (.invokevirtual 25, 3) := by decide +kernel
theorem dX0_unlike_26 : decode cX0_unlike 26 = .ok (.ifCond .eq 16, 3) := by decide +kernel
theorem dX0_unlike_29 : decode cX0_unlike 29 = .ok (.lload_n 2, 1) := by decide +kernel
theorem dX0_unlike_30 : decode cX0_unlike 30 = .ok (.iload_n 1, 1) := by decide +kernel
theorem dX0_unlike_31 : decode cX0_unlike 31 = .ok (.aload_n 0, 1) := by decide +kernel
theorem dX0_unlike_32 : decode cX0_unlike 32 = .ok (.iload 4, 2) := by decide +kernel
theorem dX0_unlike_34 : decode cX0_unlike 34 = .ok (.invokevirtual 29, 3) := by decide +kernel
theorem dX0_unlike_37 : decode cX0_unlike 37 = .ok (.invokestatic 33, 3) := by decide +kernel
theorem dX0_unlike_40 : decode cX0_unlike 40 = .ok (.ladd, 1) := by decide +kernel
theorem dX0_unlike_41 : decode cX0_unlike 41 = .ok (.lstore_n 2, 1) := by decide +kernel
theorem dX0_unlike_42 : decode cX0_unlike 42 = .ok (.iinc 4 1, 3) := by decide +kernel
theorem dX0_unlike_45 : decode cX0_unlike 45 = .ok (.goto (-40), 3) := by decide +kernel
theorem dX0_unlike_48 : decode cX0_unlike 48 = .ok (.aload_n 0, 1) := by decide +kernel
theorem dX0_unlike_49 : decode cX0_unlike 49 = .ok (.getfield 15, 3) := by decide +kernel
theorem dX0_unlike_52 : decode cX0_unlike 52 = .ok (.invokevirtual 37, 3) := by decide +kernel
theorem dX0_unlike_55 : decode cX0_unlike 55 = .ok (.istore 4, 2) := by decide +kernel
theorem dX0_unlike_57 : decode cX0_unlike 57 = .ok (.iload 4, 2) := by decide +kernel
theorem dX0_unlike_59 : decode cX0_unlike 59 = .ok (.iconst 1, 1) := by decide +kernel
theorem dX0_unlike_60 : decode cX0_unlike 60 = .ok (.if_icmp .ge 7, 3) := by decide +kernel
theorem dX0_unlike_63 : decode cX0_unlike 63 = .ok (.lconst 0, 1) := by decide +kernel
theorem dX0_unlike_64 : decode cX0_unlike 64 = .ok (.goto 8, 3) := by decide +kernel
theorem dX0_unlike_67 : decode cX0_unlike 67 = .ok (.lload_n 2, 1) := by decide +kernel
theorem dX0_unlike_68 : decode cX0_unlike 68 = .ok (.iload 4, 2) := by decide +kernel
theorem dX0_unlike_70 : decode cX0_unlike 70 = .ok (.i2l, 1) := by decide +kernel
theorem dX0_unlike_71 : decode cX0_unlike 71 = .ok (.ldiv, 1) := by decide +kernel
theorem dX0_unlike_72 : decode cX0_unlike 72 = .ok (.lreturn, 1) := by decide +kernel
theorem bX0_unlike_0 (x1 : Int32) (mem : zm_Mem) (post : zm_Post) (kk : zm_Z gX0_unlike post 5 [(0, .ref 13), (1, .int x1), (2, .long 0), (4, .int 0)] [] mem) : zm_Call gX0_unlike [.ref 13, .int x1] mem post := by
  refine z_entry (by decide) (Nat.le_of_ble_eq_true rfl) ?_
  show zm_Z gX0_unlike post 0 [(0, .ref 13), (1, .int x1)] [] mem
  refine z_lconst (v := 0) dX0_unlike_0 zclconst_0 ?_
  refine z_lstore_n (lv' := [(2, .long 0), (0, .ref 13), (1, .int x1)]) dX0_unlike_1 rfl (by decide) rfl ?_
  refine z_iconst (v := 0) dX0_unlike_2 zciconst_0 ?_
  refine z_istore (lv' := [(4, .int 0), (2, .long 0), (0, .ref 13), (1, .int x1)]) dX0_unlike_3 (by decide) rfl ?_
  refine z_sub [2, 3, 1, 0] rfl ?_
  exact kk
theorem bX0_unlike_5 (x1 : Int32) (x2 : Int64) (x4 : Int32) (mem : zm_Mem) (post : zm_Post) (kk : zm_Call gX1_numbers [.ref 1] mem (fun r1 w1 u1 => ((r1 ≤ x4 → zm_Call gX1_moveCount [.ref 1] u1 (fun r3 w3 u3 => ((1 ≤ r3 → (¬ Int32.toInt64 r3 = 0 ∧ post 0 (x2 / (Int32.toInt64 r3)) u3)) ∧ (¬ 1 ≤ r3 → post 0 0 u3)))) ∧ (¬ r1 ≤ x4 → zm_Call gX1_hasMove [.ref 1, .int x4] u1 (fun r5 w5 u5 => ((r5 = 0 → zm_Z gX0_unlike post 5 [(0, .ref 13), (1, .int x1), (2, .long x2), (4, .int (x4 + 1))] [] u5) ∧ (¬ r5 = 0 → zm_Call gX0_roundsOf [.ref 13, .int x4] u5 (fun r7 w7 u7 => zm_Call gX0_power [.int x1, .int r7] u7 (fun r8 w8 u8 => zm_Z gX0_unlike post 5 [(0, .ref 13), (1, .int x1), (2, .long (x2 + w8)), (4, .int (x4 + 1))] [] u8))))))))) : zm_Z gX0_unlike post 5 [(0, .ref 13), (1, .int x1), (2, .long x2), (4, .int x4)] [] mem := by
  refine z_iload dX0_unlike_5 3 rfl ?_
  refine z_aload_n dX0_unlike_7 rfl 0 rfl ?_
  refine z_getr (ci := 0) (j := 0) (r := 1) (T := TX0) rfl rfl hX0 rfl (by decide) fkX0_15 dX0_unlike_8 ?_
  refine z_callVi (g' := gX1_numbers) [] (q := 1) (ci := 1) (T := TX1) rfl rfl ⟨lkX0_19, pdX1_numbers, by decide, by decide⟩ ⟨_, rfl, by decide⟩ rfl (Nat.le_of_ble_eq_true rfl) dX0_unlike_11 (zm_Call.mono kk (fun r1 w1 u1 k1 => ?_))
  refine z_icmp_ge (tgt := 48) dX0_unlike_14 (by decide) (fun h2 => ?_) (fun h2 => ?_)
  ·
    refine z_aload_n dX0_unlike_48 rfl 0 rfl ?_
    refine z_getr (ci := 0) (j := 0) (r := 1) (T := TX0) rfl rfl hX0 rfl (by decide) fkX0_15 dX0_unlike_49 ?_
    refine z_callVi (g' := gX1_moveCount) [] (q := 1) (ci := 1) (T := TX1) rfl rfl ⟨lkX0_37, pdX1_moveCount, by decide, by decide⟩ ⟨_, rfl, by decide⟩ rfl (Nat.le_of_ble_eq_true rfl) dX0_unlike_52 (zm_Call.mono (k1.1 h2) (fun r3 w3 u3 k3 => ?_))
    refine z_istore (lv' := [(4, .int r3), (0, .ref 13), (1, .int x1), (2, .long x2)]) dX0_unlike_55 (by decide) rfl ?_
    refine z_iload dX0_unlike_57 0 rfl ?_
    refine z_iconst (v := 1) dX0_unlike_59 zciconst_1 ?_
    refine z_icmp_ge (tgt := 67) dX0_unlike_60 (by decide) (fun h4 => ?_) (fun h4 => ?_)
    ·
      refine z_lload_n dX0_unlike_67 rfl 3 rfl ?_
      refine z_iload dX0_unlike_68 0 rfl ?_
      refine z_i2l dX0_unlike_70 ?_
      refine z_ldiv dX0_unlike_71 (k3.1 h4).1 ?_
      exact z_lret rfl dX0_unlike_72 (k3.1 h4).2
    ·
      refine z_lconst (v := 0) dX0_unlike_63 zclconst_0 ?_
      refine z_goto (tgt := 72) dX0_unlike_64 (by decide) ?_
      exact z_lret rfl dX0_unlike_72 (k3.2 h4)
  ·
    refine z_aload_n dX0_unlike_17 rfl 0 rfl ?_
    refine z_getr (ci := 0) (j := 0) (r := 1) (T := TX0) rfl rfl hX0 rfl (by decide) fkX0_15 dX0_unlike_18 ?_
    refine z_iload dX0_unlike_21 3 rfl ?_
    refine z_callVi (g' := gX1_hasMove) [.int x4] (q := 1) (ci := 1) (T := TX1) rfl rfl ⟨lkX0_25, pdX1_hasMove, by decide, by decide⟩ ⟨_, rfl, by decide⟩ rfl (Nat.le_of_ble_eq_true rfl) dX0_unlike_23 (zm_Call.mono (k1.2 h2) (fun r5 w5 u5 k5 => ?_))
    refine z_if_eq (tgt := 42) dX0_unlike_26 (by decide) (fun h6 => ?_) (fun h6 => ?_)
    ·
      refine z_iinc (v := x4 + 1) (lv' := [(4, .int (x4 + 1)), (0, .ref 13), (1, .int x1), (2, .long x2)]) dX0_unlike_42 3 rfl (by rw [zciconst_1]) (by decide) rfl ?_
      refine z_goto (tgt := 5) dX0_unlike_45 (by decide) ?_
      refine z_sub [1, 2, 3, 0] rfl ?_
      exact (k5.1 h6)
    ·
      refine z_lload_n dX0_unlike_29 rfl 2 rfl ?_
      refine z_iload_n dX0_unlike_30 rfl 1 rfl ?_
      refine z_aload_n dX0_unlike_31 rfl 0 rfl ?_
      refine z_iload dX0_unlike_32 3 rfl ?_
      refine z_callVi (g' := gX0_roundsOf) [.int x4] (q := 13) (ci := 0) (T := TX0) rfl rfl ⟨lkX0_29, pdX0_roundsOf, by decide, by decide⟩ ⟨_, rfl, by decide⟩ rfl (Nat.le_of_ble_eq_true rfl) dX0_unlike_34 (zm_Call.mono (k5.2 h6) (fun r7 w7 u7 k7 => ?_))
      refine z_callSl (g' := gX0_power) (st := [.long x2]) [.int x1, .int r7] ⟨lkX0_33, pdX0_power, by decide, by decide⟩ rfl rfl (Nat.le_of_ble_eq_true rfl) dX0_unlike_37 (zm_Call.mono k7 (fun r8 w8 u8 k8 => ?_))
      refine z_ladd dX0_unlike_40 ?_
      refine z_lstore_n (lv' := [(2, .long (x2 + w8)), (0, .ref 13), (1, .int x1), (4, .int x4)]) dX0_unlike_41 rfl (by decide) rfl ?_
      refine z_iinc (v := x4 + 1) (lv' := [(4, .int (x4 + 1)), (2, .long (x2 + w8)), (0, .ref 13), (1, .int x1)]) dX0_unlike_42 3 rfl (by rw [zciconst_1]) (by decide) rfl ?_
      refine z_goto (tgt := 5) dX0_unlike_45 (by decide) ?_
      refine z_sub [2, 3, 1, 0] rfl ?_
      exact k8
theorem dX1_resize_0 : decode cX1_resize 0 = .ok (.aload_n 0, 1) := by decide +kernel
theorem dX1_resize_1 : decode cX1_resize 1 = .ok (.iload_n 1, 1) := by decide +kernel
theorem dX1_resize_2 : decode cX1_resize 2 = .ok (.putfield 9, 3) := by decide +kernel
theorem dX1_resize_5 : decode cX1_resize 5 = .ok (.aload_n 0, 1) := by decide +kernel
theorem dX1_resize_6 : decode cX1_resize 6 = .ok (.iload_n 2, 1) := by decide +kernel
theorem dX1_resize_7 : decode cX1_resize 7 = .ok (.putfield 15, 3) := by decide +kernel
theorem dX1_resize_10 : decode cX1_resize 10 = .ok (.aload_n 0, 1) := by decide +kernel
theorem dX1_resize_11 : decode cX1_resize 11 = .ok (.iload_n 1, 1) := by decide +kernel
theorem dX1_resize_12 : decode cX1_resize 12 = .ok (.iload_n 2, 1) := by decide +kernel
theorem dX1_resize_13 : decode cX1_resize 13 = .ok (.imul, 1) := by decide +kernel
theorem dX1_resize_14 : decode cX1_resize 14 = .ok (.putfield 18, 3) := by decide +kernel
theorem dX1_resize_17 : decode cX1_resize 17 = .ok (.return_, 1) := by decide +kernel
theorem bX1_resize_0 (x1 : Int32) (x2 : Int32) (mem : zm_Mem) (post : zm_Post) (kk : post 0 0 (zm_st (zm_st (zm_st mem 1 0 x1) 1 1 x2) 1 2 (x1 * x2))) : zm_Call gX1_resize [.ref 1, .int x1, .int x2] mem post := by
  refine z_entry (by decide) (Nat.le_of_ble_eq_true rfl) ?_
  show zm_Z gX1_resize post 0 [(0, .ref 1), (1, .int x1), (2, .int x2)] [] mem
  refine z_aload_n dX1_resize_0 rfl 0 rfl ?_
  refine z_iload_n dX1_resize_1 rfl 1 rfl ?_
  refine z_put (ci := 1) (j := 0) (T := TX1) (ty0 := tyX1) rfl rfl hX1 tyX1_ok nmX1 rfl (by decide) fkX1_9 rfl rfl rfl dX1_resize_2 ?_
  refine z_aload_n dX1_resize_5 rfl 0 rfl ?_
  refine z_iload_n dX1_resize_6 rfl 2 rfl ?_
  refine z_put (ci := 1) (j := 1) (T := TX1) (ty0 := tyX1) rfl rfl hX1 tyX1_ok nmX1 rfl (by decide) fkX1_15 rfl rfl rfl dX1_resize_7 ?_
  refine z_aload_n dX1_resize_10 rfl 0 rfl ?_
  refine z_iload_n dX1_resize_11 rfl 1 rfl ?_
  refine z_iload_n dX1_resize_12 rfl 2 rfl ?_
  refine z_imul dX1_resize_13 ?_
  refine z_put (ci := 1) (j := 2) (T := TX1) (ty0 := tyX1) rfl rfl hX1 tyX1_ok nmX1 rfl (by decide) fkX1_18 rfl rfl rfl dX1_resize_14 ?_
  exact z_vret rfl dX1_resize_17 kk
theorem dX1_hasCell_0 : decode cX1_hasCell 0 = .ok (.iload_n 1, 1) := by decide +kernel
theorem dX1_hasCell_1 : decode cX1_hasCell 1 = .ok (.ifCond .lt 15, 3) := by decide +kernel
theorem dX1_hasCell_4 : decode cX1_hasCell 4 = .ok (.iload_n 1, 1) := by decide +kernel
theorem dX1_hasCell_5 : decode cX1_hasCell 5 = .ok (.aload_n 0, 1) := by decide +kernel
theorem dX1_hasCell_6 : decode cX1_hasCell 6 = .ok (.getfield 18, 3) := by decide +kernel
theorem dX1_hasCell_9 : decode cX1_hasCell 9 = .ok (.if_icmp .ge 7, 3) := by decide +kernel
theorem dX1_hasCell_12 : decode cX1_hasCell 12 = .ok (.iconst 1, 1) := by decide +kernel
theorem dX1_hasCell_13 : decode cX1_hasCell 13 = .ok (.goto 4, 3) := by decide +kernel
theorem dX1_hasCell_16 : decode cX1_hasCell 16 = .ok (.iconst 0, 1) := by decide +kernel
theorem dX1_hasCell_17 : decode cX1_hasCell 17 = .ok (.ireturn, 1) := by decide +kernel
theorem bX1_hasCell_0 (x1 : Int32) (mem : zm_Mem) (post : zm_Post) (kk : ((x1 < 0 → post 0 0 mem) ∧ (¬ x1 < 0 → (((mem 1 2) ≤ x1 → post 0 0 mem) ∧ (¬ (mem 1 2) ≤ x1 → post 1 0 mem))))) : zm_Call gX1_hasCell [.ref 1, .int x1] mem post := by
  refine z_entry (by decide) (Nat.le_of_ble_eq_true rfl) ?_
  show zm_Z gX1_hasCell post 0 [(0, .ref 1), (1, .int x1)] [] mem
  refine z_iload_n dX1_hasCell_0 rfl 1 rfl ?_
  refine z_if_lt (tgt := 16) dX1_hasCell_1 (by decide) (fun h1 => ?_) (fun h1 => ?_)
  ·
    refine z_iconst (v := 0) dX1_hasCell_16 zciconst_0 ?_
    exact z_zret rfl (by decide) dX1_hasCell_17 (kk.1 h1)
  ·
    refine z_iload_n dX1_hasCell_4 rfl 1 rfl ?_
    refine z_aload_n dX1_hasCell_5 rfl 0 rfl ?_
    refine z_geti (ci := 1) (j := 2) (T := TX1) rfl rfl hX1 rfl (by decide) fkX1_18 dX1_hasCell_6 ?_
    refine z_icmp_ge (tgt := 16) dX1_hasCell_9 (by decide) (fun h2 => ?_) (fun h2 => ?_)
    ·
      refine z_iconst (v := 0) dX1_hasCell_16 zciconst_0 ?_
      exact z_zret rfl (by decide) dX1_hasCell_17 ((kk.2 h1).1 h2)
    ·
      refine z_iconst (v := 1) dX1_hasCell_12 zciconst_1 ?_
      refine z_goto (tgt := 17) dX1_hasCell_13 (by decide) ?_
      exact z_zret rfl (by decide) dX1_hasCell_17 ((kk.2 h1).2 h2)
theorem dX1_joinTurns_0 : decode cX1_joinTurns 0 = .ok (.iload_n 0, 1) := by decide +kernel
theorem dX1_joinTurns_1 : decode cX1_joinTurns 1 = .ok (.iconst 1, 1) := by decide +kernel
theorem dX1_joinTurns_2 : decode cX1_joinTurns 2 = .ok (.iconst 2, 1) := by decide +kernel
theorem dX1_joinTurns_3 : decode cX1_joinTurns 3 = .ok (.invokestatic 42, 3) := by decide +kernel
theorem dX1_joinTurns_6 : decode cX1_joinTurns 6 = .ok (.istore_n 2, 1) := by decide +kernel
theorem dX1_joinTurns_7 : decode cX1_joinTurns 7 = .ok (.iload_n 0, 1) := by decide +kernel
theorem dX1_joinTurns_8 : decode cX1_joinTurns 8 = .ok (.iconst 1, 1) := by decide +kernel
theorem dX1_joinTurns_9 : decode cX1_joinTurns 9 = .ok (.iconst 2, 1) := by decide +kernel
theorem dX1_joinTurns_10 : decode cX1_joinTurns 10 = .ok (.invokestatic 46, 3) := by decide +kernel
theorem dX1_joinTurns_13 : decode cX1_joinTurns 13 = .ok (.istore_n 3, 1) := by decide +kernel
theorem dX1_joinTurns_14 : decode cX1_joinTurns 14 = .ok (.iload_n 1, 1) := by decide +kernel
theorem dX1_joinTurns_15 : decode cX1_joinTurns 15 = .ok (.iload_n 2, 1) := by decide +kernel
theorem dX1_joinTurns_16 : decode cX1_joinTurns 16 = .ok (.iload_n 3, 1) := by decide +kernel
theorem dX1_joinTurns_17 : decode cX1_joinTurns 17 = .ok (.invokestatic 42, 3) := by decide +kernel
theorem dX1_joinTurns_20 : decode cX1_joinTurns 20 = .ok (.istore 4, 2) := by decide +kernel
theorem dX1_joinTurns_22 : decode cX1_joinTurns 22 = .ok (.iload_n 1, 1) := by decide +kernel
theorem dX1_joinTurns_23 : decode cX1_joinTurns 23 = .ok (.iload_n 2, 1) := by decide +kernel
theorem dX1_joinTurns_24 : decode cX1_joinTurns 24 = .ok (.iload_n 3, 1) := by decide +kernel
theorem dX1_joinTurns_25 : decode cX1_joinTurns 25 = .ok (.invokestatic 46, 3) := by decide +kernel
theorem dX1_joinTurns_28 : decode cX1_joinTurns 28 = .ok (.istore 5, 2) := by decide +kernel
theorem dX1_joinTurns_30 : decode cX1_joinTurns 30 = .ok (.iconst 0, 1) := by decide +kernel
theorem dX1_joinTurns_31 : decode cX1_joinTurns 31 = .ok (.istore 6, 2) := by decide +kernel
theorem dX1_joinTurns_33 : decode cX1_joinTurns 33 = .ok (.iload 6, 2) := by decide +kernel
theorem dX1_joinTurns_35 : decode cX1_joinTurns 35 = .ok (.bipush 8, 2) := by decide +kernel
theorem dX1_joinTurns_37 : decode cX1_joinTurns 37 = .ok (.if_icmp .ge 36, 3) := by decide +kernel
theorem dX1_joinTurns_40 : decode cX1_joinTurns 40 = .ok (.iload 6, 2) := by decide +kernel
theorem dX1_joinTurns_42 : decode cX1_joinTurns 42 = .ok (.iconst 1, 1) := by decide +kernel
theorem dX1_joinTurns_43 : decode cX1_joinTurns 43 = .ok (.iconst 2, 1) := by decide +kernel
theorem dX1_joinTurns_44 : decode cX1_joinTurns 44 = .ok (.invokestatic 42, 3) := by decide +kernel
theorem dX1_joinTurns_47 : decode cX1_joinTurns 47 = .ok (.iload 4, 2) := by decide +kernel
theorem dX1_joinTurns_49 : decode cX1_joinTurns 49 = .ok (.if_icmp .ne 18, 3) := by decide +kernel
theorem dX1_joinTurns_52 : decode cX1_joinTurns 52 = .ok (.iload 6, 2) := by decide +kernel
theorem dX1_joinTurns_54 : decode cX1_joinTurns 54 = .ok (.iconst 1, 1) := by decide +kernel
theorem dX1_joinTurns_55 : decode cX1_joinTurns 55 = .ok (.iconst 2, 1) := by decide +kernel
theorem dX1_joinTurns_56 : decode cX1_joinTurns 56 = .ok (.invokestatic 46, 3) := by decide +kernel
theorem dX1_joinTurns_59 : decode cX1_joinTurns 59 = .ok (.iload 5, 2) := by decide +kernel
theorem dX1_joinTurns_61 : decode cX1_joinTurns 61 = .ok (.if_icmp .ne 6, 3) := by decide +kernel
theorem dX1_joinTurns_64 : decode cX1_joinTurns 64 = .ok (.iload 6, 2) := by decide +kernel
theorem dX1_joinTurns_66 : decode cX1_joinTurns 66 = .ok (.ireturn, 1) := by decide +kernel
theorem dX1_joinTurns_67 : decode cX1_joinTurns 67 = .ok (.iinc 6 1, 3) := by decide +kernel
theorem dX1_joinTurns_70 : decode cX1_joinTurns 70 = .ok (.goto (-37), 3) := by decide +kernel
theorem dX1_joinTurns_73 : decode cX1_joinTurns 73 = .ok (.iconst 0, 1) := by decide +kernel
theorem dX1_joinTurns_74 : decode cX1_joinTurns 74 = .ok (.ireturn, 1) := by decide +kernel
theorem bX1_joinTurns_0 (x0 : Int32) (x1 : Int32) (mem : zm_Mem) (post : zm_Post) (kk : zm_Call gX1_turnedX [.int x0, .int 1, .int 2] mem (fun r1 w1 u1 => zm_Call gX1_turnedY [.int x0, .int 1, .int 2] u1 (fun r2 w2 u2 => zm_Call gX1_turnedX [.int x1, .int r1, .int r2] u2 (fun r3 w3 u3 => zm_Call gX1_turnedY [.int x1, .int r1, .int r2] u3 (fun r4 w4 u4 => zm_Z gX1_joinTurns post 33 [(4, .int r3), (5, .int r4), (6, .int 0)] [] u4))))) : zm_Call gX1_joinTurns [.int x0, .int x1] mem post := by
  refine z_entry (by decide) (Nat.le_of_ble_eq_true rfl) ?_
  show zm_Z gX1_joinTurns post 0 [(0, .int x0), (1, .int x1)] [] mem
  refine z_iload_n dX1_joinTurns_0 rfl 0 rfl ?_
  refine z_iconst (v := 1) dX1_joinTurns_1 zciconst_1 ?_
  refine z_iconst (v := 2) dX1_joinTurns_2 zciconst_2 ?_
  refine z_callSi (g' := gX1_turnedX) (st := []) [.int x0, .int 1, .int 2] ⟨lkX1_42, pdX1_turnedX, by decide, by decide⟩ ⟨_, rfl, by decide⟩ rfl (Nat.le_of_ble_eq_true rfl) dX1_joinTurns_3 (zm_Call.mono kk (fun r1 w1 u1 k1 => ?_))
  refine z_istore_n (lv' := [(2, .int r1), (0, .int x0), (1, .int x1)]) dX1_joinTurns_6 rfl (by decide) rfl ?_
  refine z_iload_n dX1_joinTurns_7 rfl 1 rfl ?_
  refine z_iconst (v := 1) dX1_joinTurns_8 zciconst_1 ?_
  refine z_iconst (v := 2) dX1_joinTurns_9 zciconst_2 ?_
  refine z_callSi (g' := gX1_turnedY) (st := []) [.int x0, .int 1, .int 2] ⟨lkX1_46, pdX1_turnedY, by decide, by decide⟩ ⟨_, rfl, by decide⟩ rfl (Nat.le_of_ble_eq_true rfl) dX1_joinTurns_10 (zm_Call.mono k1 (fun r2 w2 u2 k2 => ?_))
  refine z_istore_n (lv' := [(3, .int r2), (2, .int r1), (0, .int x0), (1, .int x1)]) dX1_joinTurns_13 rfl (by decide) rfl ?_
  refine z_iload_n dX1_joinTurns_14 rfl 3 rfl ?_
  refine z_iload_n dX1_joinTurns_15 rfl 1 rfl ?_
  refine z_iload_n dX1_joinTurns_16 rfl 0 rfl ?_
  refine z_callSi (g' := gX1_turnedX) (st := []) [.int x1, .int r1, .int r2] ⟨lkX1_42, pdX1_turnedX, by decide, by decide⟩ ⟨_, rfl, by decide⟩ rfl (Nat.le_of_ble_eq_true rfl) dX1_joinTurns_17 (zm_Call.mono k2 (fun r3 w3 u3 k3 => ?_))
  refine z_istore (lv' := [(4, .int r3), (3, .int r2), (2, .int r1), (0, .int x0), (1, .int x1)]) dX1_joinTurns_20 (by decide) rfl ?_
  refine z_iload_n dX1_joinTurns_22 rfl 4 rfl ?_
  refine z_iload_n dX1_joinTurns_23 rfl 2 rfl ?_
  refine z_iload_n dX1_joinTurns_24 rfl 1 rfl ?_
  refine z_callSi (g' := gX1_turnedY) (st := []) [.int x1, .int r1, .int r2] ⟨lkX1_46, pdX1_turnedY, by decide, by decide⟩ ⟨_, rfl, by decide⟩ rfl (Nat.le_of_ble_eq_true rfl) dX1_joinTurns_25 (zm_Call.mono k3 (fun r4 w4 u4 k4 => ?_))
  refine z_istore (lv' := [(5, .int r4), (4, .int r3), (3, .int r2), (2, .int r1), (0, .int x0), (1, .int x1)]) dX1_joinTurns_28 (by decide) rfl ?_
  refine z_iconst (v := 0) dX1_joinTurns_30 zciconst_0 ?_
  refine z_istore (lv' := [(6, .int 0), (5, .int r4), (4, .int r3), (3, .int r2), (2, .int r1), (0, .int x0), (1, .int x1)]) dX1_joinTurns_31 (by decide) rfl ?_
  refine z_sub [2, 1, 0] rfl ?_
  exact k4
theorem bX1_joinTurns_33 (x4 : Int32) (x5 : Int32) (x6 : Int32) (mem : zm_Mem) (post : zm_Post) (kk : ((8 ≤ x6 → post 0 0 mem) ∧ (¬ 8 ≤ x6 → zm_Call gX1_turnedX [.int x6, .int 1, .int 2] mem (fun r2 w2 u2 => ((¬ r2 = x4 → zm_Z gX1_joinTurns post 33 [(4, .int x4), (5, .int x5), (6, .int (x6 + 1))] [] u2) ∧ (r2 = x4 → zm_Call gX1_turnedY [.int x6, .int 1, .int 2] u2 (fun r4 w4 u4 => ((¬ r4 = x5 → zm_Z gX1_joinTurns post 33 [(4, .int x4), (5, .int x5), (6, .int (x6 + 1))] [] u4) ∧ (r4 = x5 → post x6 0 u4))))))))) : zm_Z gX1_joinTurns post 33 [(4, .int x4), (5, .int x5), (6, .int x6)] [] mem := by
  refine z_iload dX1_joinTurns_33 2 rfl ?_
  refine z_bipush (v := 8) dX1_joinTurns_35 zcbipush_8 ?_
  refine z_icmp_ge (tgt := 73) dX1_joinTurns_37 (by decide) (fun h1 => ?_) (fun h1 => ?_)
  ·
    refine z_iconst (v := 0) dX1_joinTurns_73 zciconst_0 ?_
    exact z_iret rfl dX1_joinTurns_74 (kk.1 h1)
  ·
    refine z_iload dX1_joinTurns_40 2 rfl ?_
    refine z_iconst (v := 1) dX1_joinTurns_42 zciconst_1 ?_
    refine z_iconst (v := 2) dX1_joinTurns_43 zciconst_2 ?_
    refine z_callSi (g' := gX1_turnedX) (st := []) [.int x6, .int 1, .int 2] ⟨lkX1_42, pdX1_turnedX, by decide, by decide⟩ ⟨_, rfl, by decide⟩ rfl (Nat.le_of_ble_eq_true rfl) dX1_joinTurns_44 (zm_Call.mono (kk.2 h1) (fun r2 w2 u2 k2 => ?_))
    refine z_iload dX1_joinTurns_47 0 rfl ?_
    refine z_icmp_ne (tgt := 67) dX1_joinTurns_49 (by decide) (fun h3 => ?_) (fun h3 => ?_)
    ·
      refine z_iinc (v := x6 + 1) (lv' := [(6, .int (x6 + 1)), (4, .int x4), (5, .int x5)]) dX1_joinTurns_67 2 rfl (by rw [zciconst_1]) (by decide) rfl ?_
      refine z_goto (tgt := 33) dX1_joinTurns_70 (by decide) ?_
      refine z_sub [1, 2, 0] rfl ?_
      exact (k2.1 h3)
    ·
      refine z_iload dX1_joinTurns_52 2 rfl ?_
      refine z_iconst (v := 1) dX1_joinTurns_54 zciconst_1 ?_
      refine z_iconst (v := 2) dX1_joinTurns_55 zciconst_2 ?_
      refine z_callSi (g' := gX1_turnedY) (st := []) [.int x6, .int 1, .int 2] ⟨lkX1_46, pdX1_turnedY, by decide, by decide⟩ ⟨_, rfl, by decide⟩ rfl (Nat.le_of_ble_eq_true rfl) dX1_joinTurns_56 (zm_Call.mono (k2.2 h3) (fun r4 w4 u4 k4 => ?_))
      refine z_iload dX1_joinTurns_59 1 rfl ?_
      refine z_icmp_ne (tgt := 67) dX1_joinTurns_61 (by decide) (fun h5 => ?_) (fun h5 => ?_)
      ·
        refine z_iinc (v := x6 + 1) (lv' := [(6, .int (x6 + 1)), (4, .int x4), (5, .int x5)]) dX1_joinTurns_67 2 rfl (by rw [zciconst_1]) (by decide) rfl ?_
        refine z_goto (tgt := 33) dX1_joinTurns_70 (by decide) ?_
        refine z_sub [1, 2, 0] rfl ?_
        exact (k4.1 h5)
      ·
        refine z_iload dX1_joinTurns_64 2 rfl ?_
        exact z_iret rfl dX1_joinTurns_66 (k4.2 h5)
theorem dX1_join_0 : decode cX1_join 0 = .ok (.aload_n 0, 1) := by decide +kernel
theorem dX1_join_1 : decode cX1_join 1 = .ok (.iload_n 1, 1) := by decide +kernel
theorem dX1_join_2 : decode cX1_join 2 = .ok (.invokevirtual 25, 3) := by decide +kernel
theorem dX1_join_5 : decode cX1_join 5 = .ok (.aload_n 0, 1) := by decide +kernel
theorem dX1_join_6 : decode cX1_join 6 = .ok (.iload_n 2, 1) := by decide +kernel
theorem dX1_join_7 : decode cX1_join 7 = .ok (.invokevirtual 25, 3) := by decide +kernel
theorem dX1_join_10 : decode cX1_join 10 = .ok (.invokestatic 53, 3) := by decide +kernel
theorem dX1_join_13 : decode cX1_join 13 = .ok (.aload_n 0, 1) := by decide +kernel
theorem dX1_join_14 : decode cX1_join 14 = .ok (.getfield 18, 3) := by decide +kernel
theorem dX1_join_17 : decode cX1_join 17 = .ok (.imul, 1) := by decide +kernel
theorem dX1_join_18 : decode cX1_join 18 = .ok (.aload_n 0, 1) := by decide +kernel
theorem dX1_join_19 : decode cX1_join 19 = .ok (.iload_n 2, 1) := by decide +kernel
theorem dX1_join_20 : decode cX1_join 20 = .ok (.aload_n 0, 1) := by decide +kernel
theorem dX1_join_21 : decode cX1_join 21 = .ok (.iload_n 1, 1) := by decide +kernel
theorem dX1_join_22 : decode cX1_join 22 = .ok (.invokevirtual 33, 3) := by decide +kernel
theorem dX1_join_25 : decode cX1_join 25 = .ok (.invokevirtual 56, 3) := by decide +kernel
theorem dX1_join_28 : decode cX1_join 28 = .ok (.iadd, 1) := by decide +kernel
theorem dX1_join_29 : decode cX1_join 29 = .ok (.ireturn, 1) := by decide +kernel
theorem bX1_join_0 (x1 : Int32) (x2 : Int32) (mem : zm_Mem) (post : zm_Post) (kk : zm_Call gX1_turnOf [.ref 1, .int x1] mem (fun r1 w1 u1 => zm_Call gX1_turnOf [.ref 1, .int x2] u1 (fun r2 w2 u2 => zm_Call gX1_joinTurns [.int r1, .int r2] u2 (fun r3 w3 u3 => zm_Call gX1_shiftOf [.ref 1, .int x1] u3 (fun r4 w4 u4 => zm_Call gX1_target [.ref 1, .int x2, .int r4] u4 (fun r5 w5 u5 => post ((r3 * (u3 1 2)) + r5) 0 u5)))))) : zm_Call gX1_join [.ref 1, .int x1, .int x2] mem post := by
  refine z_entry (by decide) (Nat.le_of_ble_eq_true rfl) ?_
  show zm_Z gX1_join post 0 [(0, .ref 1), (1, .int x1), (2, .int x2)] [] mem
  refine z_aload_n dX1_join_0 rfl 0 rfl ?_
  refine z_iload_n dX1_join_1 rfl 1 rfl ?_
  refine z_callVi (g' := gX1_turnOf) [.int x1] (q := 1) (ci := 1) (T := TX1) rfl rfl ⟨lkX1_25, pdX1_turnOf, by decide, by decide⟩ ⟨_, rfl, by decide⟩ rfl (Nat.le_of_ble_eq_true rfl) dX1_join_2 (zm_Call.mono kk (fun r1 w1 u1 k1 => ?_))
  refine z_aload_n dX1_join_5 rfl 0 rfl ?_
  refine z_iload_n dX1_join_6 rfl 2 rfl ?_
  refine z_callVi (g' := gX1_turnOf) [.int x2] (q := 1) (ci := 1) (T := TX1) rfl rfl ⟨lkX1_25, pdX1_turnOf, by decide, by decide⟩ ⟨_, rfl, by decide⟩ rfl (Nat.le_of_ble_eq_true rfl) dX1_join_7 (zm_Call.mono k1 (fun r2 w2 u2 k2 => ?_))
  refine z_callSi (g' := gX1_joinTurns) (st := []) [.int r1, .int r2] ⟨lkX1_53, pdX1_joinTurns, by decide, by decide⟩ ⟨_, rfl, by decide⟩ rfl (Nat.le_of_ble_eq_true rfl) dX1_join_10 (zm_Call.mono k2 (fun r3 w3 u3 k3 => ?_))
  refine z_aload_n dX1_join_13 rfl 0 rfl ?_
  refine z_geti (ci := 1) (j := 2) (T := TX1) rfl rfl hX1 rfl (by decide) fkX1_18 dX1_join_14 ?_
  refine z_imul dX1_join_17 ?_
  refine z_aload_n dX1_join_18 rfl 0 rfl ?_
  refine z_iload_n dX1_join_19 rfl 2 rfl ?_
  refine z_aload_n dX1_join_20 rfl 0 rfl ?_
  refine z_iload_n dX1_join_21 rfl 1 rfl ?_
  refine z_callVi (g' := gX1_shiftOf) [.int x1] (q := 1) (ci := 1) (T := TX1) rfl rfl ⟨lkX1_33, pdX1_shiftOf, by decide, by decide⟩ ⟨_, rfl, by decide⟩ rfl (Nat.le_of_ble_eq_true rfl) dX1_join_22 (zm_Call.mono k3 (fun r4 w4 u4 k4 => ?_))
  refine z_callVi (g' := gX1_target) [.int x2, .int r4] (q := 1) (ci := 1) (T := TX1) rfl rfl ⟨lkX1_56, pdX1_target, by decide, by decide⟩ ⟨_, rfl, by decide⟩ rfl (Nat.le_of_ble_eq_true rfl) dX1_join_25 (zm_Call.mono k4 (fun r5 w5 u5 k5 => ?_))
  refine z_iadd dX1_join_28 ?_
  exact z_iret rfl dX1_join_29 k5
theorem dX1_undoingTurn_0 : decode cX1_undoingTurn 0 = .ok (.iload_n 0, 1) := by decide +kernel
theorem dX1_undoingTurn_1 : decode cX1_undoingTurn 1 = .ok (.lookupswitch 31 #[(1, 27), (3, 29)], 27) := by decide +kernel
theorem dX1_undoingTurn_28 : decode cX1_undoingTurn 28 = .ok (.iconst 3, 1) := by decide +kernel
theorem dX1_undoingTurn_29 : decode cX1_undoingTurn 29 = .ok (.ireturn, 1) := by decide +kernel
theorem dX1_undoingTurn_30 : decode cX1_undoingTurn 30 = .ok (.iconst 1, 1) := by decide +kernel
theorem dX1_undoingTurn_31 : decode cX1_undoingTurn 31 = .ok (.ireturn, 1) := by decide +kernel
theorem dX1_undoingTurn_32 : decode cX1_undoingTurn 32 = .ok (.iload_n 0, 1) := by decide +kernel
theorem dX1_undoingTurn_33 : decode cX1_undoingTurn 33 = .ok (.ireturn, 1) := by decide +kernel
theorem bX1_undoingTurn_0 (x0 : Int32) (mem : zm_Mem) (post : zm_Post) (kk : (((x0 : Int32).toInt = 1 → post 3 0 mem) ∧ ((x0 : Int32).toInt = 3 → post 1 0 mem) ∧ (¬ (x0 : Int32).toInt = 1 → ¬ (x0 : Int32).toInt = 3 → post x0 0 mem))) : zm_Call gX1_undoingTurn [.int x0] mem post := by
  refine z_entry (by decide) (Nat.le_of_ble_eq_true rfl) ?_
  show zm_Z gX1_undoingTurn post 0 [(0, .int x0)] [] mem
  refine z_iload_n dX1_undoingTurn_0 rfl 0 rfl ?_
  by_cases h1 : (x0 : Int32).toInt = 1
  ·
    refine z_lookup (off := 27) (tgt := 28) dX1_undoingTurn_1 (by decide) (by rw [h1]; decide) (by decide) ?_
    refine z_iconst (v := 3) dX1_undoingTurn_28 zciconst_3 ?_
    exact z_iret rfl dX1_undoingTurn_29 (kk.1 h1)
  by_cases h2 : (x0 : Int32).toInt = 3
  ·
    refine z_lookup (off := 29) (tgt := 30) dX1_undoingTurn_1 (by decide) (by rw [h2]; decide) (by decide) ?_
    refine z_iconst (v := 1) dX1_undoingTurn_30 zciconst_1 ?_
    exact z_iret rfl dX1_undoingTurn_31 (kk.2.1 h2)
  refine z_lookup (off := 31) (tgt := 32) dX1_undoingTurn_1 (by decide) (by simp [Op.lookupswitch.offset_cons, Op.lookupswitch.offset, h1, Ne.symm h1, h2, Ne.symm h2]) (by decide) ?_
  refine z_iload_n dX1_undoingTurn_32 rfl 0 rfl ?_
  exact z_iret rfl dX1_undoingTurn_33 (kk.2.2 h1 h2)
theorem dX1_undoing_0 : decode cX1_undoing 0 = .ok (.aload_n 0, 1) := by decide +kernel
theorem dX1_undoing_1 : decode cX1_undoing 1 = .ok (.iload_n 1, 1) := by decide +kernel
theorem dX1_undoing_2 : decode cX1_undoing 2 = .ok (.invokevirtual 25, 3) := by decide +kernel
theorem dX1_undoing_5 : decode cX1_undoing 5 = .ok (.invokestatic 59, 3) := by decide +kernel
theorem dX1_undoing_8 : decode cX1_undoing 8 = .ok (.istore_n 2, 1) := by decide +kernel
theorem dX1_undoing_9 : decode cX1_undoing 9 = .ok (.aload_n 0, 1) := by decide +kernel
theorem dX1_undoing_10 : decode cX1_undoing 10 = .ok (.aload_n 0, 1) := by decide +kernel
theorem dX1_undoing_11 : decode cX1_undoing 11 = .ok (.iload_n 1, 1) := by decide +kernel
theorem dX1_undoing_12 : decode cX1_undoing 12 = .ok (.invokevirtual 33, 3) := by decide +kernel
theorem dX1_undoing_15 : decode cX1_undoing 15 = .ok (.invokevirtual 36, 3) := by decide +kernel
theorem dX1_undoing_18 : decode cX1_undoing 18 = .ok (.istore_n 3, 1) := by decide +kernel
theorem dX1_undoing_19 : decode cX1_undoing 19 = .ok (.aload_n 0, 1) := by decide +kernel
theorem dX1_undoing_20 : decode cX1_undoing 20 = .ok (.aload_n 0, 1) := by decide +kernel
theorem dX1_undoing_21 : decode cX1_undoing 21 = .ok (.iload_n 1, 1) := by decide +kernel
theorem dX1_undoing_22 : decode cX1_undoing 22 = .ok (.invokevirtual 33, 3) := by decide +kernel
theorem dX1_undoing_25 : decode cX1_undoing 25 = .ok (.invokevirtual 39, 3) := by decide +kernel
theorem dX1_undoing_28 : decode cX1_undoing 28 = .ok (.istore 4, 2) := by decide +kernel
theorem dX1_undoing_30 : decode cX1_undoing 30 = .ok (.iload_n 2, 1) := by decide +kernel
theorem dX1_undoing_31 : decode cX1_undoing 31 = .ok (.aload_n 0, 1) := by decide +kernel
theorem dX1_undoing_32 : decode cX1_undoing 32 = .ok (.getfield 18, 3) := by decide +kernel
theorem dX1_undoing_35 : decode cX1_undoing 35 = .ok (.imul, 1) := by decide +kernel
theorem dX1_undoing_36 : decode cX1_undoing 36 = .ok (.aload_n 0, 1) := by decide +kernel
theorem dX1_undoing_37 : decode cX1_undoing 37 = .ok (.iload_n 2, 1) := by decide +kernel
theorem dX1_undoing_38 : decode cX1_undoing 38 = .ok (.iload_n 3, 1) := by decide +kernel
theorem dX1_undoing_39 : decode cX1_undoing 39 = .ok (.iload 4, 2) := by decide +kernel
theorem dX1_undoing_41 : decode cX1_undoing 41 = .ok (.invokestatic 42, 3) := by decide +kernel
theorem dX1_undoing_44 : decode cX1_undoing 44 = .ok (.ineg, 1) := by decide +kernel
theorem dX1_undoing_45 : decode cX1_undoing 45 = .ok (.iload_n 2, 1) := by decide +kernel
theorem dX1_undoing_46 : decode cX1_undoing 46 = .ok (.iload_n 3, 1) := by decide +kernel
theorem dX1_undoing_47 : decode cX1_undoing 47 = .ok (.iload 4, 2) := by decide +kernel
theorem dX1_undoing_49 : decode cX1_undoing 49 = .ok (.invokestatic 46, 3) := by decide +kernel
theorem dX1_undoing_52 : decode cX1_undoing 52 = .ok (.ineg, 1) := by decide +kernel
theorem dX1_undoing_53 : decode cX1_undoing 53 = .ok (.invokevirtual 49, 3) := by decide +kernel
theorem dX1_undoing_56 : decode cX1_undoing 56 = .ok (.iadd, 1) := by decide +kernel
theorem dX1_undoing_57 : decode cX1_undoing 57 = .ok (.ireturn, 1) := by decide +kernel
theorem bX1_undoing_0 (x1 : Int32) (mem : zm_Mem) (post : zm_Post) (kk : zm_Call gX1_turnOf [.ref 1, .int x1] mem (fun r1 w1 u1 => zm_Call gX1_undoingTurn [.int r1] u1 (fun r2 w2 u2 => zm_Call gX1_shiftOf [.ref 1, .int x1] u2 (fun r3 w3 u3 => zm_Call gX1_columnOf [.ref 1, .int r3] u3 (fun r4 w4 u4 => zm_Call gX1_shiftOf [.ref 1, .int x1] u4 (fun r5 w5 u5 => zm_Call gX1_rowOf [.ref 1, .int r5] u5 (fun r6 w6 u6 => zm_Call gX1_turnedX [.int r2, .int r4, .int r6] u6 (fun r7 w7 u7 => zm_Call gX1_turnedY [.int r2, .int r4, .int r6] u7 (fun r8 w8 u8 => zm_Call gX1_cellAt [.ref 1, .int (-r7), .int (-r8)] u8 (fun r9 w9 u9 => post ((r2 * (u6 1 2)) + r9) 0 u9)))))))))) : zm_Call gX1_undoing [.ref 1, .int x1] mem post := by
  refine z_entry (by decide) (Nat.le_of_ble_eq_true rfl) ?_
  show zm_Z gX1_undoing post 0 [(0, .ref 1), (1, .int x1)] [] mem
  refine z_aload_n dX1_undoing_0 rfl 0 rfl ?_
  refine z_iload_n dX1_undoing_1 rfl 1 rfl ?_
  refine z_callVi (g' := gX1_turnOf) [.int x1] (q := 1) (ci := 1) (T := TX1) rfl rfl ⟨lkX1_25, pdX1_turnOf, by decide, by decide⟩ ⟨_, rfl, by decide⟩ rfl (Nat.le_of_ble_eq_true rfl) dX1_undoing_2 (zm_Call.mono kk (fun r1 w1 u1 k1 => ?_))
  refine z_callSi (g' := gX1_undoingTurn) (st := []) [.int r1] ⟨lkX1_59, pdX1_undoingTurn, by decide, by decide⟩ ⟨_, rfl, by decide⟩ rfl (Nat.le_of_ble_eq_true rfl) dX1_undoing_5 (zm_Call.mono k1 (fun r2 w2 u2 k2 => ?_))
  refine z_istore_n (lv' := [(2, .int r2), (0, .ref 1), (1, .int x1)]) dX1_undoing_8 rfl (by decide) rfl ?_
  refine z_aload_n dX1_undoing_9 rfl 1 rfl ?_
  refine z_aload_n dX1_undoing_10 rfl 1 rfl ?_
  refine z_iload_n dX1_undoing_11 rfl 2 rfl ?_
  refine z_callVi (g' := gX1_shiftOf) [.int x1] (q := 1) (ci := 1) (T := TX1) rfl rfl ⟨lkX1_33, pdX1_shiftOf, by decide, by decide⟩ ⟨_, rfl, by decide⟩ rfl (Nat.le_of_ble_eq_true rfl) dX1_undoing_12 (zm_Call.mono k2 (fun r3 w3 u3 k3 => ?_))
  refine z_callVi (g' := gX1_columnOf) [.int r3] (q := 1) (ci := 1) (T := TX1) rfl rfl ⟨lkX1_36, pdX1_columnOf, by decide, by decide⟩ ⟨_, rfl, by decide⟩ rfl (Nat.le_of_ble_eq_true rfl) dX1_undoing_15 (zm_Call.mono k3 (fun r4 w4 u4 k4 => ?_))
  refine z_istore_n (lv' := [(3, .int r4), (2, .int r2), (0, .ref 1), (1, .int x1)]) dX1_undoing_18 rfl (by decide) rfl ?_
  refine z_aload_n dX1_undoing_19 rfl 2 rfl ?_
  refine z_aload_n dX1_undoing_20 rfl 2 rfl ?_
  refine z_iload_n dX1_undoing_21 rfl 3 rfl ?_
  refine z_callVi (g' := gX1_shiftOf) [.int x1] (q := 1) (ci := 1) (T := TX1) rfl rfl ⟨lkX1_33, pdX1_shiftOf, by decide, by decide⟩ ⟨_, rfl, by decide⟩ rfl (Nat.le_of_ble_eq_true rfl) dX1_undoing_22 (zm_Call.mono k4 (fun r5 w5 u5 k5 => ?_))
  refine z_callVi (g' := gX1_rowOf) [.int r5] (q := 1) (ci := 1) (T := TX1) rfl rfl ⟨lkX1_39, pdX1_rowOf, by decide, by decide⟩ ⟨_, rfl, by decide⟩ rfl (Nat.le_of_ble_eq_true rfl) dX1_undoing_25 (zm_Call.mono k5 (fun r6 w6 u6 k6 => ?_))
  refine z_istore (lv' := [(4, .int r6), (3, .int r4), (2, .int r2), (0, .ref 1), (1, .int x1)]) dX1_undoing_28 (by decide) rfl ?_
  refine z_iload_n dX1_undoing_30 rfl 2 rfl ?_
  refine z_aload_n dX1_undoing_31 rfl 3 rfl ?_
  refine z_geti (ci := 1) (j := 2) (T := TX1) rfl rfl hX1 rfl (by decide) fkX1_18 dX1_undoing_32 ?_
  refine z_imul dX1_undoing_35 ?_
  refine z_aload_n dX1_undoing_36 rfl 3 rfl ?_
  refine z_iload_n dX1_undoing_37 rfl 2 rfl ?_
  refine z_iload_n dX1_undoing_38 rfl 1 rfl ?_
  refine z_iload dX1_undoing_39 0 rfl ?_
  refine z_callSi (g' := gX1_turnedX) (st := [.ref 1, .int (r2 * (u6 1 2))]) [.int r2, .int r4, .int r6] ⟨lkX1_42, pdX1_turnedX, by decide, by decide⟩ ⟨_, rfl, by decide⟩ rfl (Nat.le_of_ble_eq_true rfl) dX1_undoing_41 (zm_Call.mono k6 (fun r7 w7 u7 k7 => ?_))
  refine z_ineg dX1_undoing_44 ?_
  refine z_iload_n dX1_undoing_45 rfl 2 rfl ?_
  refine z_iload_n dX1_undoing_46 rfl 1 rfl ?_
  refine z_iload dX1_undoing_47 0 rfl ?_
  refine z_callSi (g' := gX1_turnedY) (st := [.int (-r7), .ref 1, .int (r2 * (u6 1 2))]) [.int r2, .int r4, .int r6] ⟨lkX1_46, pdX1_turnedY, by decide, by decide⟩ ⟨_, rfl, by decide⟩ rfl (Nat.le_of_ble_eq_true rfl) dX1_undoing_49 (zm_Call.mono k7 (fun r8 w8 u8 k8 => ?_))
  refine z_ineg dX1_undoing_52 ?_
  refine z_callVi (g' := gX1_cellAt) [.int (-r7), .int (-r8)] (q := 1) (ci := 1) (T := TX1) rfl rfl ⟨lkX1_49, pdX1_cellAt, by decide, by decide⟩ ⟨_, rfl, by decide⟩ rfl (Nat.le_of_ble_eq_true rfl) dX1_undoing_53 (zm_Call.mono k8 (fun r9 w9 u9 k9 => ?_))
  refine z_iadd dX1_undoing_56 ?_
  exact z_iret rfl dX1_undoing_57 k9
theorem dX1_isStill_0 : decode cX1_isStill 0 = .ok (.iconst 0, 1) := by decide +kernel
theorem dX1_isStill_1 : decode cX1_isStill 1 = .ok (.istore_n 2, 1) := by decide +kernel
theorem dX1_isStill_2 : decode cX1_isStill 2 = .ok (.iload_n 2, 1) := by decide +kernel
theorem dX1_isStill_3 : decode cX1_isStill 3 = .ok (.aload_n 0, 1) := by decide +kernel
theorem dX1_isStill_4 : decode cX1_isStill 4 = .ok (.getfield 18, 3) := by decide +kernel
theorem dX1_isStill_7 : decode cX1_isStill 7 = .ok (.if_icmp .ge 21, 3) := by decide +kernel
theorem dX1_isStill_10 : decode cX1_isStill 10 = .ok (.aload_n 0, 1) := by decide +kernel
theorem dX1_isStill_11 : decode cX1_isStill 11 = .ok (.iload_n 1, 1) := by decide +kernel
theorem dX1_isStill_12 : decode cX1_isStill 12 = .ok (.iload_n 2, 1) := by decide +kernel
theorem dX1_isStill_13 : decode cX1_isStill 13 = .ok (.invokevirtual 56, 3) := by decide +kernel
theorem dX1_isStill_16 : decode cX1_isStill 16 = .ok (.iload_n 2, 1) := by decide +kernel
theorem dX1_isStill_17 : decode cX1_isStill 17 = .ok (.if_icmp .eq 5, 3) := by decide +kernel
theorem dX1_isStill_20 : decode cX1_isStill 20 = .ok (.iconst 0, 1) := by decide +kernel
theorem dX1_isStill_21 : decode cX1_isStill 21 = .ok (.ireturn, 1) := by decide +kernel
theorem dX1_isStill_22 : decode cX1_isStill 22 = .ok (.iinc 2 1, 3) := by decide +kernel
theorem dX1_isStill_25 : decode cX1_isStill 25 = .ok (.goto (-23), 3) := by decide +kernel
theorem dX1_isStill_28 : decode cX1_isStill 28 = .ok (.iconst 1, 1) := by decide +kernel
theorem dX1_isStill_29 : decode cX1_isStill 29 = .ok (.ireturn, 1) := by decide +kernel
theorem bX1_isStill_0 (x1 : Int32) (mem : zm_Mem) (post : zm_Post) (kk : zm_Z gX1_isStill post 2 [(0, .ref 1), (1, .int x1), (2, .int 0)] [] mem) : zm_Call gX1_isStill [.ref 1, .int x1] mem post := by
  refine z_entry (by decide) (Nat.le_of_ble_eq_true rfl) ?_
  show zm_Z gX1_isStill post 0 [(0, .ref 1), (1, .int x1)] [] mem
  refine z_iconst (v := 0) dX1_isStill_0 zciconst_0 ?_
  refine z_istore_n (lv' := [(2, .int 0), (0, .ref 1), (1, .int x1)]) dX1_isStill_1 rfl (by decide) rfl ?_
  refine z_sub [1, 2, 0] rfl ?_
  exact kk
theorem bX1_isStill_2 (x1 : Int32) (x2 : Int32) (mem : zm_Mem) (post : zm_Post) (kk : (((mem 1 2) ≤ x2 → post 1 0 mem) ∧ (¬ (mem 1 2) ≤ x2 → zm_Call gX1_target [.ref 1, .int x1, .int x2] mem (fun r2 w2 u2 => ((r2 = x2 → zm_Z gX1_isStill post 2 [(0, .ref 1), (1, .int x1), (2, .int (x2 + 1))] [] u2) ∧ (¬ r2 = x2 → post 0 0 u2)))))) : zm_Z gX1_isStill post 2 [(0, .ref 1), (1, .int x1), (2, .int x2)] [] mem := by
  refine z_iload_n dX1_isStill_2 rfl 2 rfl ?_
  refine z_aload_n dX1_isStill_3 rfl 0 rfl ?_
  refine z_geti (ci := 1) (j := 2) (T := TX1) rfl rfl hX1 rfl (by decide) fkX1_18 dX1_isStill_4 ?_
  refine z_icmp_ge (tgt := 28) dX1_isStill_7 (by decide) (fun h1 => ?_) (fun h1 => ?_)
  ·
    refine z_iconst (v := 1) dX1_isStill_28 zciconst_1 ?_
    exact z_zret rfl (by decide) dX1_isStill_29 (kk.1 h1)
  ·
    refine z_aload_n dX1_isStill_10 rfl 0 rfl ?_
    refine z_iload_n dX1_isStill_11 rfl 1 rfl ?_
    refine z_iload_n dX1_isStill_12 rfl 2 rfl ?_
    refine z_callVi (g' := gX1_target) [.int x1, .int x2] (q := 1) (ci := 1) (T := TX1) rfl rfl ⟨lkX1_56, pdX1_target, by decide, by decide⟩ ⟨_, rfl, by decide⟩ rfl (Nat.le_of_ble_eq_true rfl) dX1_isStill_13 (zm_Call.mono (kk.2 h1) (fun r2 w2 u2 k2 => ?_))
    refine z_iload_n dX1_isStill_16 rfl 2 rfl ?_
    refine z_icmp_eq (tgt := 22) dX1_isStill_17 (by decide) (fun h3 => ?_) (fun h3 => ?_)
    ·
      refine z_iinc (v := x2 + 1) (lv' := [(2, .int (x2 + 1)), (0, .ref 1), (1, .int x1)]) dX1_isStill_22 2 rfl (by rw [zciconst_1]) (by decide) rfl ?_
      refine z_goto (tgt := 2) dX1_isStill_25 (by decide) ?_
      refine z_sub [1, 2, 0] rfl ?_
      exact (k2.1 h3)
    ·
      refine z_iconst (v := 0) dX1_isStill_20 zciconst_0 ?_
      exact z_zret rfl (by decide) dX1_isStill_21 (k2.2 h3)
theorem dX1_timesTillStill_0 : decode cX1_timesTillStill 0 = .ok (.iload_n 1, 1) := by decide +kernel
theorem dX1_timesTillStill_1 : decode cX1_timesTillStill 1 = .ok (.istore_n 2, 1) := by decide +kernel
theorem dX1_timesTillStill_2 : decode cX1_timesTillStill 2 = .ok (.iconst 1, 1) := by decide +kernel
theorem dX1_timesTillStill_3 : decode cX1_timesTillStill 3 = .ok (.istore_n 3, 1) := by decide +kernel
theorem dX1_timesTillStill_4 : decode cX1_timesTillStill 4 = .ok (.iload_n 3, 1) := by decide +kernel
theorem dX1_timesTillStill_5 : decode cX1_timesTillStill 5 = .ok (.sipush 288, 3) := by decide +kernel
theorem dX1_timesTillStill_8 : decode cX1_timesTillStill 8 = .ok (.if_icmp .ge 26, 3) := by decide +kernel
theorem dX1_timesTillStill_11 : decode cX1_timesTillStill 11 = .ok (.aload_n 0, 1) := by decide +kernel
theorem dX1_timesTillStill_12 : decode cX1_timesTillStill 12 = .ok (.iload_n 2, 1) := by decide +kernel
theorem dX1_timesTillStill_13 : decode cX1_timesTillStill 13 = .ok (.invokevirtual 62, 3) := by decide +kernel
theorem dX1_timesTillStill_16 : decode cX1_timesTillStill 16 = .ok (.ifCond .eq 5, 3) := by decide +kernel
theorem dX1_timesTillStill_19 : decode cX1_timesTillStill 19 = .ok (.iload_n 3, 1) := by decide +kernel
theorem dX1_timesTillStill_20 : decode cX1_timesTillStill 20 = .ok (.ireturn, 1) := by decide +kernel
theorem dX1_timesTillStill_21 : decode cX1_timesTillStill 21 = .ok (.aload_n 0, 1) := by decide +kernel
theorem dX1_timesTillStill_22 : decode cX1_timesTillStill 22 = .ok (.iload_n 2, 1) := by decide +kernel
theorem dX1_timesTillStill_23 : decode cX1_timesTillStill 23 = .ok (.iload_n 1, 1) := by decide +kernel
theorem dX1_timesTillStill_24 : decode cX1_timesTillStill 24 = .ok (.invokevirtual 65, 3) := by decide +kernel
theorem dX1_timesTillStill_27 : decode cX1_timesTillStill 27 = .ok (.istore_n 2, 1) := by decide +kernel
theorem dX1_timesTillStill_28 : decode cX1_timesTillStill 28 = .ok (.iinc 3 1, 3) := by decide +kernel
theorem dX1_timesTillStill_31 : decode cX1_timesTillStill 31 = .ok (.goto (-27), 3) := by decide +kernel
theorem dX1_timesTillStill_34 : decode cX1_timesTillStill 34 = .ok (.sipush 288, 3) := by decide +kernel
theorem dX1_timesTillStill_37 : decode cX1_timesTillStill 37 = .ok (.ireturn, 1) := by decide +kernel
theorem bX1_timesTillStill_0 (x1 : Int32) (mem : zm_Mem) (post : zm_Post) (kk : zm_Z gX1_timesTillStill post 4 [(0, .ref 1), (1, .int x1), (2, .int x1), (3, .int 1)] [] mem) : zm_Call gX1_timesTillStill [.ref 1, .int x1] mem post := by
  refine z_entry (by decide) (Nat.le_of_ble_eq_true rfl) ?_
  show zm_Z gX1_timesTillStill post 0 [(0, .ref 1), (1, .int x1)] [] mem
  refine z_iload_n dX1_timesTillStill_0 rfl 1 rfl ?_
  refine z_istore_n (lv' := [(2, .int x1), (0, .ref 1), (1, .int x1)]) dX1_timesTillStill_1 rfl (by decide) rfl ?_
  refine z_iconst (v := 1) dX1_timesTillStill_2 zciconst_1 ?_
  refine z_istore_n (lv' := [(3, .int 1), (2, .int x1), (0, .ref 1), (1, .int x1)]) dX1_timesTillStill_3 rfl (by decide) rfl ?_
  refine z_sub [2, 3, 1, 0] rfl ?_
  exact kk
theorem bX1_timesTillStill_4 (x1 : Int32) (x2 : Int32) (x3 : Int32) (mem : zm_Mem) (post : zm_Post) (kk : ((288 ≤ x3 → post 288 0 mem) ∧ (¬ 288 ≤ x3 → zm_Call gX1_isStill [.ref 1, .int x2] mem (fun r2 w2 u2 => ((r2 = 0 → zm_Call gX1_join [.ref 1, .int x2, .int x1] u2 (fun r4 w4 u4 => zm_Z gX1_timesTillStill post 4 [(0, .ref 1), (1, .int x1), (2, .int r4), (3, .int (x3 + 1))] [] u4)) ∧ (¬ r2 = 0 → post x3 0 u2)))))) : zm_Z gX1_timesTillStill post 4 [(0, .ref 1), (1, .int x1), (2, .int x2), (3, .int x3)] [] mem := by
  refine z_iload_n dX1_timesTillStill_4 rfl 3 rfl ?_
  refine z_sipush (v := 288) dX1_timesTillStill_5 zcsipush_288 ?_
  refine z_icmp_ge (tgt := 34) dX1_timesTillStill_8 (by decide) (fun h1 => ?_) (fun h1 => ?_)
  ·
    refine z_sipush (v := 288) dX1_timesTillStill_34 zcsipush_288 ?_
    exact z_iret rfl dX1_timesTillStill_37 (kk.1 h1)
  ·
    refine z_aload_n dX1_timesTillStill_11 rfl 0 rfl ?_
    refine z_iload_n dX1_timesTillStill_12 rfl 2 rfl ?_
    refine z_callVi (g' := gX1_isStill) [.int x2] (q := 1) (ci := 1) (T := TX1) rfl rfl ⟨lkX1_62, pdX1_isStill, by decide, by decide⟩ ⟨_, rfl, by decide⟩ rfl (Nat.le_of_ble_eq_true rfl) dX1_timesTillStill_13 (zm_Call.mono (kk.2 h1) (fun r2 w2 u2 k2 => ?_))
    refine z_if_eq (tgt := 21) dX1_timesTillStill_16 (by decide) (fun h3 => ?_) (fun h3 => ?_)
    ·
      refine z_aload_n dX1_timesTillStill_21 rfl 0 rfl ?_
      refine z_iload_n dX1_timesTillStill_22 rfl 2 rfl ?_
      refine z_iload_n dX1_timesTillStill_23 rfl 1 rfl ?_
      refine z_callVi (g' := gX1_join) [.int x2, .int x1] (q := 1) (ci := 1) (T := TX1) rfl rfl ⟨lkX1_65, pdX1_join, by decide, by decide⟩ ⟨_, rfl, by decide⟩ rfl (Nat.le_of_ble_eq_true rfl) dX1_timesTillStill_24 (zm_Call.mono (k2.1 h3) (fun r4 w4 u4 k4 => ?_))
      refine z_istore_n (lv' := [(2, .int r4), (0, .ref 1), (1, .int x1), (3, .int x3)]) dX1_timesTillStill_27 rfl (by decide) rfl ?_
      refine z_iinc (v := x3 + 1) (lv' := [(3, .int (x3 + 1)), (2, .int r4), (0, .ref 1), (1, .int x1)]) dX1_timesTillStill_28 3 rfl (by rw [zciconst_1]) (by decide) rfl ?_
      refine z_goto (tgt := 4) dX1_timesTillStill_31 (by decide) ?_
      refine z_sub [2, 3, 1, 0] rfl ?_
      exact k4
    ·
      refine z_iload_n dX1_timesTillStill_19 rfl 3 rfl ?_
      exact z_iret rfl dX1_timesTillStill_20 (k2.2 h3)
theorem dJ6_bitCount_0f7a4_0 : decode cJ6_bitCount_0f7a4 0 = .ok (.iload_n 0, 1) := by decide +kernel
theorem dJ6_bitCount_0f7a4_1 : decode cJ6_bitCount_0f7a4 1 = .ok (.iload_n 0, 1) := by decide +kernel
theorem dJ6_bitCount_0f7a4_2 : decode cJ6_bitCount_0f7a4 2 = .ok (.iconst 1, 1) := by decide +kernel
theorem dJ6_bitCount_0f7a4_3 : decode cJ6_bitCount_0f7a4 3 = .ok (.iushr, 1) := by decide +kernel
theorem dJ6_bitCount_0f7a4_4 : decode cJ6_bitCount_0f7a4 4 = .ok (.ldc_w 265, 3) := by decide +kernel
theorem dJ6_bitCount_0f7a4_7 : decode cJ6_bitCount_0f7a4 7 = .ok (.iand, 1) := by decide +kernel
theorem dJ6_bitCount_0f7a4_8 : decode cJ6_bitCount_0f7a4 8 = .ok (.isub, 1) := by decide +kernel
theorem dJ6_bitCount_0f7a4_9 : decode cJ6_bitCount_0f7a4 9 = .ok (.istore_n 0, 1) := by decide +kernel
theorem dJ6_bitCount_0f7a4_10 : decode cJ6_bitCount_0f7a4 10 = .ok (.iload_n 0, 1) := by decide +kernel
theorem dJ6_bitCount_0f7a4_11 : decode cJ6_bitCount_0f7a4 11 = .ok (.ldc_w 266, 3) := by decide +kernel
theorem dJ6_bitCount_0f7a4_14 : decode cJ6_bitCount_0f7a4 14 = .ok (.iand, 1) := by decide +kernel
theorem dJ6_bitCount_0f7a4_15 : decode cJ6_bitCount_0f7a4 15 = .ok (.iload_n 0, 1) := by decide +kernel
theorem dJ6_bitCount_0f7a4_16 : decode cJ6_bitCount_0f7a4 16 = .ok (.iconst 2, 1) := by decide +kernel
theorem dJ6_bitCount_0f7a4_17 : decode cJ6_bitCount_0f7a4 17 = .ok (.iushr, 1) := by decide +kernel
theorem dJ6_bitCount_0f7a4_18 : decode cJ6_bitCount_0f7a4 18 = .ok (.ldc_w 266, 3) := by decide +kernel
theorem dJ6_bitCount_0f7a4_21 : decode cJ6_bitCount_0f7a4 21 = .ok (.iand, 1) := by decide +kernel
theorem dJ6_bitCount_0f7a4_22 : decode cJ6_bitCount_0f7a4 22 = .ok (.iadd, 1) := by decide +kernel
theorem dJ6_bitCount_0f7a4_23 : decode cJ6_bitCount_0f7a4 23 = .ok (.istore_n 0, 1) := by decide +kernel
theorem dJ6_bitCount_0f7a4_24 : decode cJ6_bitCount_0f7a4 24 = .ok (.iload_n 0, 1) := by decide +kernel
theorem dJ6_bitCount_0f7a4_25 : decode cJ6_bitCount_0f7a4 25 = .ok (.iload_n 0, 1) := by decide +kernel
theorem dJ6_bitCount_0f7a4_26 : decode cJ6_bitCount_0f7a4 26 = .ok (.iconst 4, 1) := by decide +kernel
theorem dJ6_bitCount_0f7a4_27 : decode cJ6_bitCount_0f7a4 27 = .ok (.iushr, 1) := by decide +kernel
theorem dJ6_bitCount_0f7a4_28 : decode cJ6_bitCount_0f7a4 28 = .ok (.iadd, 1) := by decide +kernel
theorem dJ6_bitCount_0f7a4_29 : decode cJ6_bitCount_0f7a4 29 = .ok (.ldc_w 267, 3) := by decide +kernel
theorem dJ6_bitCount_0f7a4_32 : decode cJ6_bitCount_0f7a4 32 = .ok (.iand, 1) := by decide +kernel
theorem dJ6_bitCount_0f7a4_33 : decode cJ6_bitCount_0f7a4 33 = .ok (.istore_n 0, 1) := by decide +kernel
theorem dJ6_bitCount_0f7a4_34 : decode cJ6_bitCount_0f7a4 34 = .ok (.iload_n 0, 1) := by decide +kernel
theorem dJ6_bitCount_0f7a4_35 : decode cJ6_bitCount_0f7a4 35 = .ok (.iload_n 0, 1) := by decide +kernel
theorem dJ6_bitCount_0f7a4_36 : decode cJ6_bitCount_0f7a4 36 = .ok (.bipush 8, 2) := by decide +kernel
theorem dJ6_bitCount_0f7a4_38 : decode cJ6_bitCount_0f7a4 38 = .ok (.iushr, 1) := by decide +kernel
theorem dJ6_bitCount_0f7a4_39 : decode cJ6_bitCount_0f7a4 39 = .ok (.iadd, 1) := by decide +kernel
theorem dJ6_bitCount_0f7a4_40 : decode cJ6_bitCount_0f7a4 40 = .ok (.istore_n 0, 1) := by decide +kernel
theorem dJ6_bitCount_0f7a4_41 : decode cJ6_bitCount_0f7a4 41 = .ok (.iload_n 0, 1) := by decide +kernel
theorem dJ6_bitCount_0f7a4_42 : decode cJ6_bitCount_0f7a4 42 = .ok (.iload_n 0, 1) := by decide +kernel
theorem dJ6_bitCount_0f7a4_43 : decode cJ6_bitCount_0f7a4 43 = .ok (.bipush 16, 2) := by decide +kernel
theorem dJ6_bitCount_0f7a4_45 : decode cJ6_bitCount_0f7a4 45 = .ok (.iushr, 1) := by decide +kernel
theorem dJ6_bitCount_0f7a4_46 : decode cJ6_bitCount_0f7a4 46 = .ok (.iadd, 1) := by decide +kernel
theorem dJ6_bitCount_0f7a4_47 : decode cJ6_bitCount_0f7a4 47 = .ok (.istore_n 0, 1) := by decide +kernel
theorem dJ6_bitCount_0f7a4_48 : decode cJ6_bitCount_0f7a4 48 = .ok (.iload_n 0, 1) := by decide +kernel
theorem dJ6_bitCount_0f7a4_49 : decode cJ6_bitCount_0f7a4 49 = .ok (.bipush 63, 2) := by decide +kernel
theorem dJ6_bitCount_0f7a4_51 : decode cJ6_bitCount_0f7a4 51 = .ok (.iand, 1) := by decide +kernel
theorem dJ6_bitCount_0f7a4_52 : decode cJ6_bitCount_0f7a4 52 = .ok (.ireturn, 1) := by decide +kernel
theorem bJ6_bitCount_0f7a4_0 (x0 : Int32) (mem : zm_Mem) (post : zm_Post) (kk : post ((((((((x0 - (((x0.toUInt32 >>> ((1 : Int32).toUInt32 &&& Int32.toUInt32 31)).toInt32) &&& 1431655765)) &&& 858993459) + ((((x0 - (((x0.toUInt32 >>> ((1 : Int32).toUInt32 &&& Int32.toUInt32 31)).toInt32) &&& 1431655765)).toUInt32 >>> ((2 : Int32).toUInt32 &&& Int32.toUInt32 31)).toInt32) &&& 858993459)) + (((((x0 - (((x0.toUInt32 >>> ((1 : Int32).toUInt32 &&& Int32.toUInt32 31)).toInt32) &&& 1431655765)) &&& 858993459) + ((((x0 - (((x0.toUInt32 >>> ((1 : Int32).toUInt32 &&& Int32.toUInt32 31)).toInt32) &&& 1431655765)).toUInt32 >>> ((2 : Int32).toUInt32 &&& Int32.toUInt32 31)).toInt32) &&& 858993459)).toUInt32 >>> ((4 : Int32).toUInt32 &&& Int32.toUInt32 31)).toInt32)) &&& 252645135) + (((((((x0 - (((x0.toUInt32 >>> ((1 : Int32).toUInt32 &&& Int32.toUInt32 31)).toInt32) &&& 1431655765)) &&& 858993459) + ((((x0 - (((x0.toUInt32 >>> ((1 : Int32).toUInt32 &&& Int32.toUInt32 31)).toInt32) &&& 1431655765)).toUInt32 >>> ((2 : Int32).toUInt32 &&& Int32.toUInt32 31)).toInt32) &&& 858993459)) + (((((x0 - (((x0.toUInt32 >>> ((1 : Int32).toUInt32 &&& Int32.toUInt32 31)).toInt32) &&& 1431655765)) &&& 858993459) + ((((x0 - (((x0.toUInt32 >>> ((1 : Int32).toUInt32 &&& Int32.toUInt32 31)).toInt32) &&& 1431655765)).toUInt32 >>> ((2 : Int32).toUInt32 &&& Int32.toUInt32 31)).toInt32) &&& 858993459)).toUInt32 >>> ((4 : Int32).toUInt32 &&& Int32.toUInt32 31)).toInt32)) &&& 252645135).toUInt32 >>> ((8 : Int32).toUInt32 &&& Int32.toUInt32 31)).toInt32)) + ((((((((x0 - (((x0.toUInt32 >>> ((1 : Int32).toUInt32 &&& Int32.toUInt32 31)).toInt32) &&& 1431655765)) &&& 858993459) + ((((x0 - (((x0.toUInt32 >>> ((1 : Int32).toUInt32 &&& Int32.toUInt32 31)).toInt32) &&& 1431655765)).toUInt32 >>> ((2 : Int32).toUInt32 &&& Int32.toUInt32 31)).toInt32) &&& 858993459)) + (((((x0 - (((x0.toUInt32 >>> ((1 : Int32).toUInt32 &&& Int32.toUInt32 31)).toInt32) &&& 1431655765)) &&& 858993459) + ((((x0 - (((x0.toUInt32 >>> ((1 : Int32).toUInt32 &&& Int32.toUInt32 31)).toInt32) &&& 1431655765)).toUInt32 >>> ((2 : Int32).toUInt32 &&& Int32.toUInt32 31)).toInt32) &&& 858993459)).toUInt32 >>> ((4 : Int32).toUInt32 &&& Int32.toUInt32 31)).toInt32)) &&& 252645135) + (((((((x0 - (((x0.toUInt32 >>> ((1 : Int32).toUInt32 &&& Int32.toUInt32 31)).toInt32) &&& 1431655765)) &&& 858993459) + ((((x0 - (((x0.toUInt32 >>> ((1 : Int32).toUInt32 &&& Int32.toUInt32 31)).toInt32) &&& 1431655765)).toUInt32 >>> ((2 : Int32).toUInt32 &&& Int32.toUInt32 31)).toInt32) &&& 858993459)) + (((((x0 - (((x0.toUInt32 >>> ((1 : Int32).toUInt32 &&& Int32.toUInt32 31)).toInt32) &&& 1431655765)) &&& 858993459) + ((((x0 - (((x0.toUInt32 >>> ((1 : Int32).toUInt32 &&& Int32.toUInt32 31)).toInt32) &&& 1431655765)).toUInt32 >>> ((2 : Int32).toUInt32 &&& Int32.toUInt32 31)).toInt32) &&& 858993459)).toUInt32 >>> ((4 : Int32).toUInt32 &&& Int32.toUInt32 31)).toInt32)) &&& 252645135).toUInt32 >>> ((8 : Int32).toUInt32 &&& Int32.toUInt32 31)).toInt32)).toUInt32 >>> ((16 : Int32).toUInt32 &&& Int32.toUInt32 31)).toInt32)) &&& 63) 0 mem) : zm_Call gJ6_bitCount_0f7a4 [.int x0] mem post := by
  refine z_entry (by decide) (Nat.le_of_ble_eq_true rfl) ?_
  show zm_Z gJ6_bitCount_0f7a4 post 0 [(0, .int x0)] [] mem
  refine z_iload_n dJ6_bitCount_0f7a4_0 rfl 0 rfl ?_
  refine z_iload_n dJ6_bitCount_0f7a4_1 rfl 0 rfl ?_
  refine z_iconst (v := 1) dJ6_bitCount_0f7a4_2 zciconst_1 ?_
  refine z_iushr (v := (x0.toUInt32 >>> ((1 : Int32).toUInt32 &&& Int32.toUInt32 31)).toInt32) dJ6_bitCount_0f7a4_3 rfl ?_
  refine z_ldcw (v := 1431655765) dJ6_bitCount_0f7a4_4 fkJ6_265 ?_
  refine z_iand dJ6_bitCount_0f7a4_7 ?_
  refine z_isub dJ6_bitCount_0f7a4_8 ?_
  refine z_istore_n (lv' := [(0, .int (x0 - (((x0.toUInt32 >>> ((1 : Int32).toUInt32 &&& Int32.toUInt32 31)).toInt32) &&& 1431655765)))]) dJ6_bitCount_0f7a4_9 rfl (by decide) rfl ?_
  refine z_iload_n dJ6_bitCount_0f7a4_10 rfl 0 rfl ?_
  refine z_ldcw (v := 858993459) dJ6_bitCount_0f7a4_11 fkJ6_266 ?_
  refine z_iand dJ6_bitCount_0f7a4_14 ?_
  refine z_iload_n dJ6_bitCount_0f7a4_15 rfl 0 rfl ?_
  refine z_iconst (v := 2) dJ6_bitCount_0f7a4_16 zciconst_2 ?_
  refine z_iushr (v := ((x0 - (((x0.toUInt32 >>> ((1 : Int32).toUInt32 &&& Int32.toUInt32 31)).toInt32) &&& 1431655765)).toUInt32 >>> ((2 : Int32).toUInt32 &&& Int32.toUInt32 31)).toInt32) dJ6_bitCount_0f7a4_17 rfl ?_
  refine z_ldcw (v := 858993459) dJ6_bitCount_0f7a4_18 fkJ6_266 ?_
  refine z_iand dJ6_bitCount_0f7a4_21 ?_
  refine z_iadd dJ6_bitCount_0f7a4_22 ?_
  refine z_istore_n (lv' := [(0, .int (((x0 - (((x0.toUInt32 >>> ((1 : Int32).toUInt32 &&& Int32.toUInt32 31)).toInt32) &&& 1431655765)) &&& 858993459) + ((((x0 - (((x0.toUInt32 >>> ((1 : Int32).toUInt32 &&& Int32.toUInt32 31)).toInt32) &&& 1431655765)).toUInt32 >>> ((2 : Int32).toUInt32 &&& Int32.toUInt32 31)).toInt32) &&& 858993459)))]) dJ6_bitCount_0f7a4_23 rfl (by decide) rfl ?_
  refine z_iload_n dJ6_bitCount_0f7a4_24 rfl 0 rfl ?_
  refine z_iload_n dJ6_bitCount_0f7a4_25 rfl 0 rfl ?_
  refine z_iconst (v := 4) dJ6_bitCount_0f7a4_26 zciconst_4 ?_
  refine z_iushr (v := ((((x0 - (((x0.toUInt32 >>> ((1 : Int32).toUInt32 &&& Int32.toUInt32 31)).toInt32) &&& 1431655765)) &&& 858993459) + ((((x0 - (((x0.toUInt32 >>> ((1 : Int32).toUInt32 &&& Int32.toUInt32 31)).toInt32) &&& 1431655765)).toUInt32 >>> ((2 : Int32).toUInt32 &&& Int32.toUInt32 31)).toInt32) &&& 858993459)).toUInt32 >>> ((4 : Int32).toUInt32 &&& Int32.toUInt32 31)).toInt32) dJ6_bitCount_0f7a4_27 rfl ?_
  refine z_iadd dJ6_bitCount_0f7a4_28 ?_
  refine z_ldcw (v := 252645135) dJ6_bitCount_0f7a4_29 fkJ6_267 ?_
  refine z_iand dJ6_bitCount_0f7a4_32 ?_
  refine z_istore_n (lv' := [(0, .int (((((x0 - (((x0.toUInt32 >>> ((1 : Int32).toUInt32 &&& Int32.toUInt32 31)).toInt32) &&& 1431655765)) &&& 858993459) + ((((x0 - (((x0.toUInt32 >>> ((1 : Int32).toUInt32 &&& Int32.toUInt32 31)).toInt32) &&& 1431655765)).toUInt32 >>> ((2 : Int32).toUInt32 &&& Int32.toUInt32 31)).toInt32) &&& 858993459)) + (((((x0 - (((x0.toUInt32 >>> ((1 : Int32).toUInt32 &&& Int32.toUInt32 31)).toInt32) &&& 1431655765)) &&& 858993459) + ((((x0 - (((x0.toUInt32 >>> ((1 : Int32).toUInt32 &&& Int32.toUInt32 31)).toInt32) &&& 1431655765)).toUInt32 >>> ((2 : Int32).toUInt32 &&& Int32.toUInt32 31)).toInt32) &&& 858993459)).toUInt32 >>> ((4 : Int32).toUInt32 &&& Int32.toUInt32 31)).toInt32)) &&& 252645135))]) dJ6_bitCount_0f7a4_33 rfl (by decide) rfl ?_
  refine z_iload_n dJ6_bitCount_0f7a4_34 rfl 0 rfl ?_
  refine z_iload_n dJ6_bitCount_0f7a4_35 rfl 0 rfl ?_
  refine z_bipush (v := 8) dJ6_bitCount_0f7a4_36 zcbipush_8 ?_
  refine z_iushr (v := ((((((x0 - (((x0.toUInt32 >>> ((1 : Int32).toUInt32 &&& Int32.toUInt32 31)).toInt32) &&& 1431655765)) &&& 858993459) + ((((x0 - (((x0.toUInt32 >>> ((1 : Int32).toUInt32 &&& Int32.toUInt32 31)).toInt32) &&& 1431655765)).toUInt32 >>> ((2 : Int32).toUInt32 &&& Int32.toUInt32 31)).toInt32) &&& 858993459)) + (((((x0 - (((x0.toUInt32 >>> ((1 : Int32).toUInt32 &&& Int32.toUInt32 31)).toInt32) &&& 1431655765)) &&& 858993459) + ((((x0 - (((x0.toUInt32 >>> ((1 : Int32).toUInt32 &&& Int32.toUInt32 31)).toInt32) &&& 1431655765)).toUInt32 >>> ((2 : Int32).toUInt32 &&& Int32.toUInt32 31)).toInt32) &&& 858993459)).toUInt32 >>> ((4 : Int32).toUInt32 &&& Int32.toUInt32 31)).toInt32)) &&& 252645135).toUInt32 >>> ((8 : Int32).toUInt32 &&& Int32.toUInt32 31)).toInt32) dJ6_bitCount_0f7a4_38 rfl ?_
  refine z_iadd dJ6_bitCount_0f7a4_39 ?_
  refine z_istore_n (lv' := [(0, .int ((((((x0 - (((x0.toUInt32 >>> ((1 : Int32).toUInt32 &&& Int32.toUInt32 31)).toInt32) &&& 1431655765)) &&& 858993459) + ((((x0 - (((x0.toUInt32 >>> ((1 : Int32).toUInt32 &&& Int32.toUInt32 31)).toInt32) &&& 1431655765)).toUInt32 >>> ((2 : Int32).toUInt32 &&& Int32.toUInt32 31)).toInt32) &&& 858993459)) + (((((x0 - (((x0.toUInt32 >>> ((1 : Int32).toUInt32 &&& Int32.toUInt32 31)).toInt32) &&& 1431655765)) &&& 858993459) + ((((x0 - (((x0.toUInt32 >>> ((1 : Int32).toUInt32 &&& Int32.toUInt32 31)).toInt32) &&& 1431655765)).toUInt32 >>> ((2 : Int32).toUInt32 &&& Int32.toUInt32 31)).toInt32) &&& 858993459)).toUInt32 >>> ((4 : Int32).toUInt32 &&& Int32.toUInt32 31)).toInt32)) &&& 252645135) + (((((((x0 - (((x0.toUInt32 >>> ((1 : Int32).toUInt32 &&& Int32.toUInt32 31)).toInt32) &&& 1431655765)) &&& 858993459) + ((((x0 - (((x0.toUInt32 >>> ((1 : Int32).toUInt32 &&& Int32.toUInt32 31)).toInt32) &&& 1431655765)).toUInt32 >>> ((2 : Int32).toUInt32 &&& Int32.toUInt32 31)).toInt32) &&& 858993459)) + (((((x0 - (((x0.toUInt32 >>> ((1 : Int32).toUInt32 &&& Int32.toUInt32 31)).toInt32) &&& 1431655765)) &&& 858993459) + ((((x0 - (((x0.toUInt32 >>> ((1 : Int32).toUInt32 &&& Int32.toUInt32 31)).toInt32) &&& 1431655765)).toUInt32 >>> ((2 : Int32).toUInt32 &&& Int32.toUInt32 31)).toInt32) &&& 858993459)).toUInt32 >>> ((4 : Int32).toUInt32 &&& Int32.toUInt32 31)).toInt32)) &&& 252645135).toUInt32 >>> ((8 : Int32).toUInt32 &&& Int32.toUInt32 31)).toInt32)))]) dJ6_bitCount_0f7a4_40 rfl (by decide) rfl ?_
  refine z_iload_n dJ6_bitCount_0f7a4_41 rfl 0 rfl ?_
  refine z_iload_n dJ6_bitCount_0f7a4_42 rfl 0 rfl ?_
  refine z_bipush (v := 16) dJ6_bitCount_0f7a4_43 zcbipush_16 ?_
  refine z_iushr (v := (((((((x0 - (((x0.toUInt32 >>> ((1 : Int32).toUInt32 &&& Int32.toUInt32 31)).toInt32) &&& 1431655765)) &&& 858993459) + ((((x0 - (((x0.toUInt32 >>> ((1 : Int32).toUInt32 &&& Int32.toUInt32 31)).toInt32) &&& 1431655765)).toUInt32 >>> ((2 : Int32).toUInt32 &&& Int32.toUInt32 31)).toInt32) &&& 858993459)) + (((((x0 - (((x0.toUInt32 >>> ((1 : Int32).toUInt32 &&& Int32.toUInt32 31)).toInt32) &&& 1431655765)) &&& 858993459) + ((((x0 - (((x0.toUInt32 >>> ((1 : Int32).toUInt32 &&& Int32.toUInt32 31)).toInt32) &&& 1431655765)).toUInt32 >>> ((2 : Int32).toUInt32 &&& Int32.toUInt32 31)).toInt32) &&& 858993459)).toUInt32 >>> ((4 : Int32).toUInt32 &&& Int32.toUInt32 31)).toInt32)) &&& 252645135) + (((((((x0 - (((x0.toUInt32 >>> ((1 : Int32).toUInt32 &&& Int32.toUInt32 31)).toInt32) &&& 1431655765)) &&& 858993459) + ((((x0 - (((x0.toUInt32 >>> ((1 : Int32).toUInt32 &&& Int32.toUInt32 31)).toInt32) &&& 1431655765)).toUInt32 >>> ((2 : Int32).toUInt32 &&& Int32.toUInt32 31)).toInt32) &&& 858993459)) + (((((x0 - (((x0.toUInt32 >>> ((1 : Int32).toUInt32 &&& Int32.toUInt32 31)).toInt32) &&& 1431655765)) &&& 858993459) + ((((x0 - (((x0.toUInt32 >>> ((1 : Int32).toUInt32 &&& Int32.toUInt32 31)).toInt32) &&& 1431655765)).toUInt32 >>> ((2 : Int32).toUInt32 &&& Int32.toUInt32 31)).toInt32) &&& 858993459)).toUInt32 >>> ((4 : Int32).toUInt32 &&& Int32.toUInt32 31)).toInt32)) &&& 252645135).toUInt32 >>> ((8 : Int32).toUInt32 &&& Int32.toUInt32 31)).toInt32)).toUInt32 >>> ((16 : Int32).toUInt32 &&& Int32.toUInt32 31)).toInt32) dJ6_bitCount_0f7a4_45 rfl ?_
  refine z_iadd dJ6_bitCount_0f7a4_46 ?_
  refine z_istore_n (lv' := [(0, .int (((((((x0 - (((x0.toUInt32 >>> ((1 : Int32).toUInt32 &&& Int32.toUInt32 31)).toInt32) &&& 1431655765)) &&& 858993459) + ((((x0 - (((x0.toUInt32 >>> ((1 : Int32).toUInt32 &&& Int32.toUInt32 31)).toInt32) &&& 1431655765)).toUInt32 >>> ((2 : Int32).toUInt32 &&& Int32.toUInt32 31)).toInt32) &&& 858993459)) + (((((x0 - (((x0.toUInt32 >>> ((1 : Int32).toUInt32 &&& Int32.toUInt32 31)).toInt32) &&& 1431655765)) &&& 858993459) + ((((x0 - (((x0.toUInt32 >>> ((1 : Int32).toUInt32 &&& Int32.toUInt32 31)).toInt32) &&& 1431655765)).toUInt32 >>> ((2 : Int32).toUInt32 &&& Int32.toUInt32 31)).toInt32) &&& 858993459)).toUInt32 >>> ((4 : Int32).toUInt32 &&& Int32.toUInt32 31)).toInt32)) &&& 252645135) + (((((((x0 - (((x0.toUInt32 >>> ((1 : Int32).toUInt32 &&& Int32.toUInt32 31)).toInt32) &&& 1431655765)) &&& 858993459) + ((((x0 - (((x0.toUInt32 >>> ((1 : Int32).toUInt32 &&& Int32.toUInt32 31)).toInt32) &&& 1431655765)).toUInt32 >>> ((2 : Int32).toUInt32 &&& Int32.toUInt32 31)).toInt32) &&& 858993459)) + (((((x0 - (((x0.toUInt32 >>> ((1 : Int32).toUInt32 &&& Int32.toUInt32 31)).toInt32) &&& 1431655765)) &&& 858993459) + ((((x0 - (((x0.toUInt32 >>> ((1 : Int32).toUInt32 &&& Int32.toUInt32 31)).toInt32) &&& 1431655765)).toUInt32 >>> ((2 : Int32).toUInt32 &&& Int32.toUInt32 31)).toInt32) &&& 858993459)).toUInt32 >>> ((4 : Int32).toUInt32 &&& Int32.toUInt32 31)).toInt32)) &&& 252645135).toUInt32 >>> ((8 : Int32).toUInt32 &&& Int32.toUInt32 31)).toInt32)) + ((((((((x0 - (((x0.toUInt32 >>> ((1 : Int32).toUInt32 &&& Int32.toUInt32 31)).toInt32) &&& 1431655765)) &&& 858993459) + ((((x0 - (((x0.toUInt32 >>> ((1 : Int32).toUInt32 &&& Int32.toUInt32 31)).toInt32) &&& 1431655765)).toUInt32 >>> ((2 : Int32).toUInt32 &&& Int32.toUInt32 31)).toInt32) &&& 858993459)) + (((((x0 - (((x0.toUInt32 >>> ((1 : Int32).toUInt32 &&& Int32.toUInt32 31)).toInt32) &&& 1431655765)) &&& 858993459) + ((((x0 - (((x0.toUInt32 >>> ((1 : Int32).toUInt32 &&& Int32.toUInt32 31)).toInt32) &&& 1431655765)).toUInt32 >>> ((2 : Int32).toUInt32 &&& Int32.toUInt32 31)).toInt32) &&& 858993459)).toUInt32 >>> ((4 : Int32).toUInt32 &&& Int32.toUInt32 31)).toInt32)) &&& 252645135) + (((((((x0 - (((x0.toUInt32 >>> ((1 : Int32).toUInt32 &&& Int32.toUInt32 31)).toInt32) &&& 1431655765)) &&& 858993459) + ((((x0 - (((x0.toUInt32 >>> ((1 : Int32).toUInt32 &&& Int32.toUInt32 31)).toInt32) &&& 1431655765)).toUInt32 >>> ((2 : Int32).toUInt32 &&& Int32.toUInt32 31)).toInt32) &&& 858993459)) + (((((x0 - (((x0.toUInt32 >>> ((1 : Int32).toUInt32 &&& Int32.toUInt32 31)).toInt32) &&& 1431655765)) &&& 858993459) + ((((x0 - (((x0.toUInt32 >>> ((1 : Int32).toUInt32 &&& Int32.toUInt32 31)).toInt32) &&& 1431655765)).toUInt32 >>> ((2 : Int32).toUInt32 &&& Int32.toUInt32 31)).toInt32) &&& 858993459)).toUInt32 >>> ((4 : Int32).toUInt32 &&& Int32.toUInt32 31)).toInt32)) &&& 252645135).toUInt32 >>> ((8 : Int32).toUInt32 &&& Int32.toUInt32 31)).toInt32)).toUInt32 >>> ((16 : Int32).toUInt32 &&& Int32.toUInt32 31)).toInt32)))]) dJ6_bitCount_0f7a4_47 rfl (by decide) rfl ?_
  refine z_iload_n dJ6_bitCount_0f7a4_48 rfl 0 rfl ?_
  refine z_bipush (v := 63) dJ6_bitCount_0f7a4_49 zcbipush_63 ?_
  refine z_iand dJ6_bitCount_0f7a4_51 ?_
  exact z_iret rfl dJ6_bitCount_0f7a4_52 kk
