theorem dX6_leaveAll_0 : decode cX6_leaveAll 0 = .ok (.iconst 0, 1) := by decide +kernel
theorem dX6_leaveAll_1 : decode cX6_leaveAll 1 = .ok (.istore_n 1, 1) := by decide +kernel
theorem dX6_leaveAll_2 : decode cX6_leaveAll 2 = .ok (.iload_n 1, 1) := by decide +kernel
theorem dX6_leaveAll_3 : decode cX6_leaveAll 3 = .ok (.aload_n 0, 1) := by decide +kernel
theorem dX6_leaveAll_4 : decode cX6_leaveAll 4 = .ok (.getfield 25, 3) := by decide +kernel
theorem dX6_leaveAll_7 : decode cX6_leaveAll 7 = .ok (.getfield 36, 3) := by decide +kernel
theorem dX6_leaveAll_10 : decode cX6_leaveAll 10 = .ok (.if_icmp .ge 16, 3) := by decide +kernel
theorem dX6_leaveAll_13 : decode cX6_leaveAll 13 = .ok (.aload_n 0, 1) := by decide +kernel
theorem dX6_leaveAll_14 : decode cX6_leaveAll 14 = .ok (.getfield 15, 3) := by decide +kernel
theorem dX6_leaveAll_17 : decode cX6_leaveAll 17 = .ok (.iload_n 1, 1) := by decide +kernel
theorem dX6_leaveAll_18 : decode cX6_leaveAll 18 = .ok (.iconst 0, 1) := by decide +kernel
theorem dX6_leaveAll_19 : decode cX6_leaveAll 19 = .ok (.bastore, 1) := by decide +kernel
theorem dX6_leaveAll_20 : decode cX6_leaveAll 20 = .ok (.iinc 1 1, 3) := by decide +kernel
theorem dX6_leaveAll_23 : decode cX6_leaveAll 23 = .ok (.goto (-21), 3) := by decide +kernel
theorem dX6_leaveAll_26 : decode cX6_leaveAll 26 = .ok (.return_, 1) := by decide +kernel
theorem bX6_leaveAll_0 (mem : zm_Mem) (post : zm_Post) (kk : zm_Z gX6_leaveAll post 2 [(0, .ref 16), (1, .int 0)] [] mem) : zm_Call gX6_leaveAll [.ref 16] mem post := by
  refine z_entry (by decide) (Nat.le_of_ble_eq_true rfl) ?_
  show zm_Z gX6_leaveAll post 0 [(0, .ref 16)] [] mem
  refine z_iconst (v := 0) dX6_leaveAll_0 zciconst_0 ?_
  refine z_istore_n (lv' := [(1, .int 0), (0, .ref 16)]) dX6_leaveAll_1 rfl (by decide) rfl ?_
  refine z_sub [1, 0] rfl ?_
  exact kk
theorem bX6_leaveAll_2 (x1 : Int32) (mem : zm_Mem) (post : zm_Post) (kk : (((mem 1 2) ≤ x1 → post 0 0 mem) ∧ (¬ (mem 1 2) ≤ x1 → (vp_in x1 36 ∧ zm_Z gX6_leaveAll post 2 [(0, .ref 16), (1, .int (x1 + 1))] [] (zm_st mem 18 (Int32.toNatClampNeg x1) 0))))) : zm_Z gX6_leaveAll post 2 [(0, .ref 16), (1, .int x1)] [] mem := by
  refine z_iload_n dX6_leaveAll_2 rfl 1 rfl ?_
  refine z_aload_n dX6_leaveAll_3 rfl 0 rfl ?_
  refine z_getr (ci := 6) (j := 0) (r := 1) (T := TX6) rfl rfl hX6 rfl (by decide) fkX6_25 dX6_leaveAll_4 ?_
  refine z_getiN (ci := 1) (j := 2) (T := TX1) rfl rfl hX1 rfl (by decide) fkX6_36 dX6_leaveAll_7 ?_
  refine z_icmp_ge (tgt := 26) dX6_leaveAll_10 (by decide) (fun h1 => ?_) (fun h1 => ?_)
  ·
    exact z_vret rfl dX6_leaveAll_26 (kk.1 h1)
  ·
    refine z_aload_n dX6_leaveAll_13 rfl 0 rfl ?_
    refine z_getr (ci := 6) (j := 3) (r := 18) (T := TX6) rfl rfl hX6 rfl (by decide) fkX6_15 dX6_leaveAll_14 ?_
    refine z_iload_n dX6_leaveAll_17 rfl 1 rfl ?_
    refine z_iconst (v := 0) dX6_leaveAll_18 zciconst_0 ?_
    refine z_bast (n := 36) rfl (kk.2 h1).1 (by decide) dX6_leaveAll_19 ?_
    refine z_iinc (v := x1 + 1) (lv' := [(1, .int (x1 + 1)), (0, .ref 16)]) dX6_leaveAll_20 1 rfl (by rw [zciconst_1]) (by decide) rfl ?_
    refine z_goto (tgt := 2) dX6_leaveAll_23 (by decide) ?_
    refine z_sub [1, 0] rfl ?_
    exact (kk.2 h1).2
theorem dX6_arrive_0 : decode cX6_arrive 0 = .ok (.aload_n 0, 1) := by decide +kernel
theorem dX6_arrive_1 : decode cX6_arrive 1 = .ok (.getfield 15, 3) := by decide +kernel
theorem dX6_arrive_4 : decode cX6_arrive 4 = .ok (.iload_n 1, 1) := by decide +kernel
theorem dX6_arrive_5 : decode cX6_arrive 5 = .ok (.iconst 1, 1) := by decide +kernel
theorem dX6_arrive_6 : decode cX6_arrive 6 = .ok (.bastore, 1) := by decide +kernel
theorem dX6_arrive_7 : decode cX6_arrive 7 = .ok (.aload_n 0, 1) := by decide +kernel
theorem dX6_arrive_8 : decode cX6_arrive 8 = .ok (.getfield 19, 3) := by decide +kernel
theorem dX6_arrive_11 : decode cX6_arrive 11 = .ok (.iload_n 1, 1) := by decide +kernel
theorem dX6_arrive_12 : decode cX6_arrive 12 = .ok (.iload_n 2, 1) := by decide +kernel
theorem dX6_arrive_13 : decode cX6_arrive 13 = .ok (.iastore, 1) := by decide +kernel
theorem dX6_arrive_14 : decode cX6_arrive 14 = .ok (.aload_n 0, 1) := by decide +kernel
theorem dX6_arrive_15 : decode cX6_arrive 15 = .ok (.getfield 22, 3) := by decide +kernel
theorem dX6_arrive_18 : decode cX6_arrive 18 = .ok (.iload_n 1, 1) := by decide +kernel
theorem dX6_arrive_19 : decode cX6_arrive 19 = .ok (.iload_n 3, 1) := by decide +kernel
theorem dX6_arrive_20 : decode cX6_arrive 20 = .ok (.iastore, 1) := by decide +kernel
theorem dX6_arrive_21 : decode cX6_arrive 21 = .ok (.aload_n 0, 1) := by decide +kernel
theorem dX6_arrive_22 : decode cX6_arrive 22 = .ok (.getfield 9, 3) := by decide +kernel
theorem dX6_arrive_25 : decode cX6_arrive 25 = .ok (.aload_n 0, 1) := by decide +kernel
theorem dX6_arrive_26 : decode cX6_arrive 26 = .ok (.getfield 55, 3) := by decide +kernel
theorem dX6_arrive_29 : decode cX6_arrive 29 = .ok (.iload_n 1, 1) := by decide +kernel
theorem dX6_arrive_30 : decode cX6_arrive 30 = .ok (.iastore, 1) := by decide +kernel
theorem dX6_arrive_31 : decode cX6_arrive 31 = .ok (.aload_n 0, 1) := by decide +kernel
theorem dX6_arrive_32 : decode cX6_arrive 32 = .ok (.dup, 1) := by decide +kernel
theorem dX6_arrive_33 : decode cX6_arrive 33 = .ok (.getfield 55, 3) := by decide +kernel
theorem dX6_arrive_36 : decode cX6_arrive 36 = .ok (.iconst 1, 1) := by decide +kernel
theorem dX6_arrive_37 : decode cX6_arrive 37 = .ok (.iadd, 1) := by decide +kernel
theorem dX6_arrive_38 : decode cX6_arrive 38 = .ok (.putfield 55, 3) := by decide +kernel
theorem dX6_arrive_41 : decode cX6_arrive 41 = .ok (.return_, 1) := by decide +kernel
theorem bX6_arrive_0 (x1 : Int32) (x2 : Int32) (x3 : Int32) (mem : zm_Mem) (post : zm_Post) (kk : (vp_in x1 36 ∧ (vp_in x1 36 ∧ (vp_in x1 36 ∧ (vp_in ((zm_st (zm_st (zm_st mem 18 (Int32.toNatClampNeg x1) 1) 19 (Int32.toNatClampNeg x1) x2) 20 (Int32.toNatClampNeg x1) x3) 16 6) 36 ∧ post 0 0 (zm_st (zm_st (zm_st (zm_st (zm_st mem 18 (Int32.toNatClampNeg x1) 1) 19 (Int32.toNatClampNeg x1) x2) 20 (Int32.toNatClampNeg x1) x3) 17 (Int32.toNatClampNeg ((zm_st (zm_st (zm_st mem 18 (Int32.toNatClampNeg x1) 1) 19 (Int32.toNatClampNeg x1) x2) 20 (Int32.toNatClampNeg x1) x3) 16 6)) x1) 16 6 (((zm_st (zm_st (zm_st (zm_st mem 18 (Int32.toNatClampNeg x1) 1) 19 (Int32.toNatClampNeg x1) x2) 20 (Int32.toNatClampNeg x1) x3) 17 (Int32.toNatClampNeg ((zm_st (zm_st (zm_st mem 18 (Int32.toNatClampNeg x1) 1) 19 (Int32.toNatClampNeg x1) x2) 20 (Int32.toNatClampNeg x1) x3) 16 6)) x1) 16 6) + 1))))))) : zm_Call gX6_arrive [.ref 16, .int x1, .int x2, .int x3] mem post := by
  refine z_entry (by decide) (Nat.le_of_ble_eq_true rfl) ?_
  show zm_Z gX6_arrive post 0 [(0, .ref 16), (1, .int x1), (2, .int x2), (3, .int x3)] [] mem
  refine z_aload_n dX6_arrive_0 rfl 0 rfl ?_
  refine z_getr (ci := 6) (j := 3) (r := 18) (T := TX6) rfl rfl hX6 rfl (by decide) fkX6_15 dX6_arrive_1 ?_
  refine z_iload_n dX6_arrive_4 rfl 1 rfl ?_
  refine z_iconst (v := 1) dX6_arrive_5 zciconst_1 ?_
  refine z_bast (n := 36) rfl kk.1 (by decide) dX6_arrive_6 ?_
  refine z_aload_n dX6_arrive_7 rfl 0 rfl ?_
  refine z_getr (ci := 6) (j := 4) (r := 19) (T := TX6) rfl rfl hX6 rfl (by decide) fkX6_19 dX6_arrive_8 ?_
  refine z_iload_n dX6_arrive_11 rfl 1 rfl ?_
  refine z_iload_n dX6_arrive_12 rfl 2 rfl ?_
  refine z_iast (n := 36) rfl kk.2.1 dX6_arrive_13 ?_
  refine z_aload_n dX6_arrive_14 rfl 0 rfl ?_
  refine z_getr (ci := 6) (j := 5) (r := 20) (T := TX6) rfl rfl hX6 rfl (by decide) fkX6_22 dX6_arrive_15 ?_
  refine z_iload_n dX6_arrive_18 rfl 1 rfl ?_
  refine z_iload_n dX6_arrive_19 rfl 3 rfl ?_
  refine z_iast (n := 36) rfl kk.2.2.1 dX6_arrive_20 ?_
  refine z_aload_n dX6_arrive_21 rfl 0 rfl ?_
  refine z_getr (ci := 6) (j := 2) (r := 17) (T := TX6) rfl rfl hX6 rfl (by decide) fkX6_9 dX6_arrive_22 ?_
  refine z_aload_n dX6_arrive_25 rfl 0 rfl ?_
  refine z_geti (ci := 6) (j := 6) (T := TX6) rfl rfl hX6 rfl (by decide) fkX6_55 dX6_arrive_26 ?_
  refine z_iload_n dX6_arrive_29 rfl 1 rfl ?_
  refine z_iast (n := 36) rfl kk.2.2.2.1 dX6_arrive_30 ?_
  refine z_aload_n dX6_arrive_31 rfl 0 rfl ?_
  refine z_dupr dX6_arrive_32 ?_
  refine z_geti (ci := 6) (j := 6) (T := TX6) rfl rfl hX6 rfl (by decide) fkX6_55 dX6_arrive_33 ?_
  refine z_iconst (v := 1) dX6_arrive_36 zciconst_1 ?_
  refine z_iadd dX6_arrive_37 ?_
  refine z_put (ci := 6) (j := 6) (T := TX6) (ty0 := tyX6) rfl rfl hX6 tyX6_ok nmX6 rfl (by decide) fkX6_55 rfl rfl rfl dX6_arrive_38 ?_
  exact z_vret rfl dX6_arrive_41 kk.2.2.2.2
theorem dX6_step_0 : decode cX6_step 0 = .ok (.aload_n 0, 1) := by decide +kernel
theorem dX6_step_1 : decode cX6_step 1 = .ok (.getfield 25, 3) := by decide +kernel
theorem dX6_step_4 : decode cX6_step 4 = .ok (.iload_n 2, 1) := by decide +kernel
theorem dX6_step_5 : decode cX6_step 5 = .ok (.iload_n 3, 1) := by decide +kernel
theorem dX6_step_6 : decode cX6_step 6 = .ok (.invokevirtual 72, 3) := by decide +kernel
theorem dX6_step_9 : decode cX6_step 9 = .ok (.istore 4, 2) := by decide +kernel
theorem dX6_step_11 : decode cX6_step 11 = .ok (.aload_n 0, 1) := by decide +kernel
theorem dX6_step_12 : decode cX6_step 12 = .ok (.getfield 29, 3) := by decide +kernel
theorem dX6_step_15 : decode cX6_step 15 = .ok (.getfield 42, 3) := by decide +kernel
theorem dX6_step_18 : decode cX6_step 18 = .ok (.iload 4, 2) := by decide +kernel
theorem dX6_step_20 : decode cX6_step 20 = .ok (.iaload, 1) := by decide +kernel
theorem dX6_step_21 : decode cX6_step 21 = .ok (.aload_n 0, 1) := by decide +kernel
theorem dX6_step_22 : decode cX6_step 22 = .ok (.getfield 29, 3) := by decide +kernel
theorem dX6_step_25 : decode cX6_step 25 = .ok (.getfield 42, 3) := by decide +kernel
theorem dX6_step_28 : decode cX6_step 28 = .ok (.iload_n 1, 1) := by decide +kernel
theorem dX6_step_29 : decode cX6_step 29 = .ok (.iaload, 1) := by decide +kernel
theorem dX6_step_30 : decode cX6_step 30 = .ok (.if_icmp .eq 4, 3) := by decide +kernel
theorem dX6_step_33 : decode cX6_step 33 = .ok (.return_, 1) := by decide +kernel
theorem dX6_step_34 : decode cX6_step 34 = .ok (.aload_n 0, 1) := by decide +kernel
theorem dX6_step_35 : decode cX6_step 35 = .ok (.getfield 15, 3) := by decide +kernel
theorem dX6_step_38 : decode cX6_step 38 = .ok (.iload 4, 2) := by decide +kernel
theorem dX6_step_40 : decode cX6_step 40 = .ok (.baload, 1) := by decide +kernel
theorem dX6_step_41 : decode cX6_step 41 = .ok (.ifCond .ne 14, 3) := by decide +kernel
theorem dX6_step_44 : decode cX6_step 44 = .ok (.aload_n 0, 1) := by decide +kernel
theorem dX6_step_45 : decode cX6_step 45 = .ok (.iload 4, 2) := by decide +kernel
theorem dX6_step_47 : decode cX6_step 47 = .ok (.iload_n 2, 1) := by decide +kernel
theorem dX6_step_48 : decode cX6_step 48 = .ok (.iload_n 3, 1) := by decide +kernel
theorem dX6_step_49 : decode cX6_step 49 = .ok (.invokevirtual 65, 3) := by decide +kernel
theorem dX6_step_52 : decode cX6_step 52 = .ok (.goto 30, 3) := by decide +kernel
theorem dX6_step_55 : decode cX6_step 55 = .ok (.aload_n 0, 1) := by decide +kernel
theorem dX6_step_56 : decode cX6_step 56 = .ok (.getfield 19, 3) := by decide +kernel
theorem dX6_step_59 : decode cX6_step 59 = .ok (.iload 4, 2) := by decide +kernel
theorem dX6_step_61 : decode cX6_step 61 = .ok (.iaload, 1) := by decide +kernel
theorem dX6_step_62 : decode cX6_step 62 = .ok (.iload_n 2, 1) := by decide +kernel
theorem dX6_step_63 : decode cX6_step 63 = .ok (.if_icmp .ne 14, 3) := by decide +kernel
theorem dX6_step_66 : decode cX6_step 66 = .ok (.aload_n 0, 1) := by decide +kernel
theorem dX6_step_67 : decode cX6_step 67 = .ok (.getfield 22, 3) := by decide +kernel
theorem dX6_step_70 : decode cX6_step 70 = .ok (.iload 4, 2) := by decide +kernel
theorem dX6_step_72 : decode cX6_step 72 = .ok (.iaload, 1) := by decide +kernel
theorem dX6_step_73 : decode cX6_step 73 = .ok (.iload_n 3, 1) := by decide +kernel
theorem dX6_step_74 : decode cX6_step 74 = .ok (.if_icmp .eq 8, 3) := by decide +kernel
theorem dX6_step_77 : decode cX6_step 77 = .ok (.aload_n 0, 1) := by decide +kernel
theorem dX6_step_78 : decode cX6_step 78 = .ok (.iconst 1, 1) := by decide +kernel
theorem dX6_step_79 : decode cX6_step 79 = .ok (.putfield 51, 3) := by decide +kernel
theorem dX6_step_82 : decode cX6_step 82 = .ok (.return_, 1) := by decide +kernel
theorem bX6_step_0 (x1 : Int32) (x2 : Int32) (x3 : Int32) (mem : zm_Mem) (post : zm_Post) (kk : zm_Call gX1_cellAt [.ref 1, .int x2, .int x3] mem (fun r1 w1 u1 => (vp_in r1 36 ∧ (vp_in x1 36 ∧ (((u1 3 (Int32.toNatClampNeg r1)) = (u1 3 (Int32.toNatClampNeg x1)) → (vp_in r1 36 ∧ ((¬ (u1 18 (Int32.toNatClampNeg r1)) = 0 → (vp_in r1 36 ∧ ((¬ (u1 19 (Int32.toNatClampNeg r1)) = x2 → post 0 0 (zm_st u1 16 7 1)) ∧ ((u1 19 (Int32.toNatClampNeg r1)) = x2 → (vp_in r1 36 ∧ (((u1 20 (Int32.toNatClampNeg r1)) = x3 → post 0 0 u1) ∧ (¬ (u1 20 (Int32.toNatClampNeg r1)) = x3 → post 0 0 (zm_st u1 16 7 1)))))))) ∧ ((u1 18 (Int32.toNatClampNeg r1)) = 0 → zm_Call gX6_arrive [.ref 16, .int r1, .int x2, .int x3] u1 (fun r6 w6 u6 => post 0 0 u6))))) ∧ (¬ (u1 3 (Int32.toNatClampNeg r1)) = (u1 3 (Int32.toNatClampNeg x1)) → post 0 0 u1)))))) : zm_Call gX6_step [.ref 16, .int x1, .int x2, .int x3] mem post := by
  refine z_entry (by decide) (Nat.le_of_ble_eq_true rfl) ?_
  show zm_Z gX6_step post 0 [(0, .ref 16), (1, .int x1), (2, .int x2), (3, .int x3)] [] mem
  refine z_aload_n dX6_step_0 rfl 0 rfl ?_
  refine z_getr (ci := 6) (j := 0) (r := 1) (T := TX6) rfl rfl hX6 rfl (by decide) fkX6_25 dX6_step_1 ?_
  refine z_iload_n dX6_step_4 rfl 2 rfl ?_
  refine z_iload_n dX6_step_5 rfl 3 rfl ?_
  refine z_callVi (g' := gX1_cellAt) [.int x2, .int x3] (q := 1) (ci := 1) (T := TX1) rfl rfl ⟨lkX6_72, pdX1_cellAt, by decide, by decide⟩ ⟨_, rfl, by decide⟩ rfl (Nat.le_of_ble_eq_true rfl) dX6_step_6 (zm_Call.mono kk (fun r1 w1 u1 k1 => ?_))
  refine z_istore (lv' := [(4, .int r1), (0, .ref 16), (1, .int x1), (2, .int x2), (3, .int x3)]) dX6_step_9 (by decide) rfl ?_
  refine z_aload_n dX6_step_11 rfl 1 rfl ?_
  refine z_getr (ci := 6) (j := 1) (r := 2) (T := TX6) rfl rfl hX6 rfl (by decide) fkX6_29 dX6_step_12 ?_
  refine z_getrN (ci := 5) (j := 1) (r := 3) (T := TX5) rfl rfl hX5 rfl (by decide) fkX6_42 dX6_step_15 ?_
  refine z_iload dX6_step_18 0 rfl ?_
  refine z_iald (n := 36) rfl k1.1 dX6_step_20 ?_
  refine z_aload_n dX6_step_21 rfl 1 rfl ?_
  refine z_getr (ci := 6) (j := 1) (r := 2) (T := TX6) rfl rfl hX6 rfl (by decide) fkX6_29 dX6_step_22 ?_
  refine z_getrN (ci := 5) (j := 1) (r := 3) (T := TX5) rfl rfl hX5 rfl (by decide) fkX6_42 dX6_step_25 ?_
  refine z_iload_n dX6_step_28 rfl 2 rfl ?_
  refine z_iald (n := 36) rfl k1.2.1 dX6_step_29 ?_
  refine z_icmp_eq (tgt := 34) dX6_step_30 (by decide) (fun h2 => ?_) (fun h2 => ?_)
  ·
    refine z_aload_n dX6_step_34 rfl 1 rfl ?_
    refine z_getr (ci := 6) (j := 3) (r := 18) (T := TX6) rfl rfl hX6 rfl (by decide) fkX6_15 dX6_step_35 ?_
    refine z_iload dX6_step_38 0 rfl ?_
    refine z_bald (n := 36) rfl (k1.2.2.1 h2).1 dX6_step_40 ?_
    refine z_if_ne (tgt := 55) dX6_step_41 (by decide) (fun h3 => ?_) (fun h3 => ?_)
    ·
      refine z_aload_n dX6_step_55 rfl 1 rfl ?_
      refine z_getr (ci := 6) (j := 4) (r := 19) (T := TX6) rfl rfl hX6 rfl (by decide) fkX6_19 dX6_step_56 ?_
      refine z_iload dX6_step_59 0 rfl ?_
      refine z_iald (n := 36) rfl ((k1.2.2.1 h2).2.1 h3).1 dX6_step_61 ?_
      refine z_iload_n dX6_step_62 rfl 3 rfl ?_
      refine z_icmp_ne (tgt := 77) dX6_step_63 (by decide) (fun h4 => ?_) (fun h4 => ?_)
      ·
        refine z_aload_n dX6_step_77 rfl 1 rfl ?_
        refine z_iconst (v := 1) dX6_step_78 zciconst_1 ?_
        refine z_put (ci := 6) (j := 7) (T := TX6) (ty0 := tyX6) rfl rfl hX6 tyX6_ok nmX6 rfl (by decide) fkX6_51 rfl rfl rfl dX6_step_79 ?_
        exact z_vret rfl dX6_step_82 (((k1.2.2.1 h2).2.1 h3).2.1 h4)
      ·
        refine z_aload_n dX6_step_66 rfl 1 rfl ?_
        refine z_getr (ci := 6) (j := 5) (r := 20) (T := TX6) rfl rfl hX6 rfl (by decide) fkX6_22 dX6_step_67 ?_
        refine z_iload dX6_step_70 0 rfl ?_
        refine z_iald (n := 36) rfl (((k1.2.2.1 h2).2.1 h3).2.2 h4).1 dX6_step_72 ?_
        refine z_iload_n dX6_step_73 rfl 4 rfl ?_
        refine z_icmp_eq (tgt := 82) dX6_step_74 (by decide) (fun h5 => ?_) (fun h5 => ?_)
        ·
          exact z_vret rfl dX6_step_82 ((((k1.2.2.1 h2).2.1 h3).2.2 h4).2.1 h5)
        ·
          refine z_aload_n dX6_step_77 rfl 1 rfl ?_
          refine z_iconst (v := 1) dX6_step_78 zciconst_1 ?_
          refine z_put (ci := 6) (j := 7) (T := TX6) (ty0 := tyX6) rfl rfl hX6 tyX6_ok nmX6 rfl (by decide) fkX6_51 rfl rfl rfl dX6_step_79 ?_
          exact z_vret rfl dX6_step_82 ((((k1.2.2.1 h2).2.1 h3).2.2 h4).2.2 h5)
    ·
      refine z_aload_n dX6_step_44 rfl 1 rfl ?_
      refine z_iload dX6_step_45 0 rfl ?_
      refine z_iload_n dX6_step_47 rfl 3 rfl ?_
      refine z_iload_n dX6_step_48 rfl 4 rfl ?_
      refine z_callVv (g' := gX6_arrive) [.int r1, .int x2, .int x3] (q := 16) (ci := 6) (T := TX6) rfl rfl ⟨lkX6_65, pdX6_arrive, by decide, by decide⟩ rfl rfl (Nat.le_of_ble_eq_true rfl) dX6_step_49 (zm_Call.mono ((k1.2.2.1 h2).2.2 h3) (fun r6 w6 u6 k6 => ?_))
      refine z_goto (tgt := 82) dX6_step_52 (by decide) ?_
      exact z_vret rfl dX6_step_82 k6
  ·
    exact z_vret rfl dX6_step_33 (k1.2.2.2 h2)
theorem dX6_walk_0 : decode cX6_walk 0 = .ok (.aload_n 0, 1) := by decide +kernel
theorem dX6_walk_1 : decode cX6_walk 1 = .ok (.iconst 0, 1) := by decide +kernel
theorem dX6_walk_2 : decode cX6_walk 2 = .ok (.putfield 55, 3) := by decide +kernel
theorem dX6_walk_5 : decode cX6_walk 5 = .ok (.aload_n 0, 1) := by decide +kernel
theorem dX6_walk_6 : decode cX6_walk 6 = .ok (.iconst 0, 1) := by decide +kernel
theorem dX6_walk_7 : decode cX6_walk 7 = .ok (.putfield 51, 3) := by decide +kernel
theorem dX6_walk_10 : decode cX6_walk 10 = .ok (.aload_n 0, 1) := by decide +kernel
theorem dX6_walk_11 : decode cX6_walk 11 = .ok (.iload_n 1, 1) := by decide +kernel
theorem dX6_walk_12 : decode cX6_walk 12 = .ok (.aload_n 0, 1) := by decide +kernel
theorem dX6_walk_13 : decode cX6_walk 13 = .ok (.getfield 25, 3) := by decide +kernel
theorem dX6_walk_16 : decode cX6_walk 16 = .ok (.iload_n 1, 1) := by decide +kernel
theorem dX6_walk_17 : decode cX6_walk 17 = .ok (.invokevirtual 58, 3) := by decide +kernel
theorem dX6_walk_20 : decode cX6_walk 20 = .ok (.aload_n 0, 1) := by decide +kernel
theorem dX6_walk_21 : decode cX6_walk 21 = .ok (.getfield 25, 3) := by decide +kernel
theorem dX6_walk_24 : decode cX6_walk 24 = .ok (.iload_n 1, 1) := by decide +kernel
theorem dX6_walk_25 : decode cX6_walk 25 = .ok (.invokevirtual 62, 3) := by decide +kernel
theorem dX6_walk_28 : decode cX6_walk 28 = .ok (.invokevirtual 65, 3) := by decide +kernel
theorem dX6_walk_31 : decode cX6_walk 31 = .ok (.iconst 0, 1) := by decide +kernel
theorem dX6_walk_32 : decode cX6_walk 32 = .ok (.istore_n 2, 1) := by decide +kernel
theorem dX6_walk_33 : decode cX6_walk 33 = .ok (.iload_n 2, 1) := by decide +kernel
theorem dX6_walk_34 : decode cX6_walk 34 = .ok (.aload_n 0, 1) := by decide +kernel
theorem dX6_walk_35 : decode cX6_walk 35 = .ok (.getfield 55, 3) := by decide +kernel
theorem dX6_walk_38 : decode cX6_walk 38 = .ok (.if_icmp .ge 98, 3) := by decide +kernel
theorem dX6_walk_41 : decode cX6_walk 41 = .ok (.iload_n 2, 1) := by decide +kernel
theorem dX6_walk_42 : decode cX6_walk 42 = .ok (.bipush 36, 2) := by decide +kernel
theorem dX6_walk_44 : decode cX6_walk 44 = .ok (.if_icmp .ge 92, 3) := by decide +kernel
theorem dX6_walk_47 : decode cX6_walk 47 = .ok (.aload_n 0, 1) := by decide +kernel
theorem dX6_walk_48 : decode cX6_walk 48 = .ok (.getfield 9, 3) := by decide +kernel
theorem dX6_walk_51 : decode cX6_walk 51 = .ok (.iload_n 2, 1) := by decide +kernel
theorem dX6_walk_52 : decode cX6_walk 52 = .ok (.iaload, 1) := by decide +kernel
theorem dX6_walk_53 : decode cX6_walk 53 = .ok (.istore_n 3, 1) := by decide +kernel
theorem dX6_walk_54 : decode cX6_walk 54 = .ok (.aload_n 0, 1) := by decide +kernel
theorem dX6_walk_55 : decode cX6_walk 55 = .ok (.iload_n 3, 1) := by decide +kernel
theorem dX6_walk_56 : decode cX6_walk 56 = .ok (.aload_n 0, 1) := by decide +kernel
theorem dX6_walk_57 : decode cX6_walk 57 = .ok (.getfield 19, 3) := by decide +kernel
theorem dX6_walk_60 : decode cX6_walk 60 = .ok (.iload_n 3, 1) := by decide +kernel
theorem dX6_walk_61 : decode cX6_walk 61 = .ok (.iaload, 1) := by decide +kernel
theorem dX6_walk_62 : decode cX6_walk 62 = .ok (.iconst 1, 1) := by decide +kernel
theorem dX6_walk_63 : decode cX6_walk 63 = .ok (.iadd, 1) := by decide +kernel
theorem dX6_walk_64 : decode cX6_walk 64 = .ok (.aload_n 0, 1) := by decide +kernel
theorem dX6_walk_65 : decode cX6_walk 65 = .ok (.getfield 22, 3) := by decide +kernel
theorem dX6_walk_68 : decode cX6_walk 68 = .ok (.iload_n 3, 1) := by decide +kernel
theorem dX6_walk_69 : decode cX6_walk 69 = .ok (.iaload, 1) := by decide +kernel
theorem dX6_walk_70 : decode cX6_walk 70 = .ok (.invokevirtual 69, 3) := by decide +kernel
theorem dX6_walk_73 : decode cX6_walk 73 = .ok (.aload_n 0, 1) := by decide +kernel
theorem dX6_walk_74 : decode cX6_walk 74 = .ok (.iload_n 3, 1) := by decide +kernel
theorem dX6_walk_75 : decode cX6_walk 75 = .ok (.aload_n 0, 1) := by decide +kernel
theorem dX6_walk_76 : decode cX6_walk 76 = .ok (.getfield 19, 3) := by decide +kernel
theorem dX6_walk_79 : decode cX6_walk 79 = .ok (.iload_n 3, 1) := by decide +kernel
theorem dX6_walk_80 : decode cX6_walk 80 = .ok (.iaload, 1) := by decide +kernel
theorem dX6_walk_81 : decode cX6_walk 81 = .ok (.iconst 1, 1) := by decide +kernel
theorem dX6_walk_82 : decode cX6_walk 82 = .ok (.isub, 1) := by decide +kernel
theorem dX6_walk_83 : decode cX6_walk 83 = .ok (.aload_n 0, 1) := by decide +kernel
theorem dX6_walk_84 : decode cX6_walk 84 = .ok (.getfield 22, 3) := by decide +kernel
theorem dX6_walk_87 : decode cX6_walk 87 = .ok (.iload_n 3, 1) := by decide +kernel
theorem dX6_walk_88 : decode cX6_walk 88 = .ok (.iaload, 1) := by decide +kernel
theorem dX6_walk_89 : decode cX6_walk 89 = .ok (.invokevirtual 69, 3) := by decide +kernel
theorem dX6_walk_92 : decode cX6_walk 92 = .ok (.aload_n 0, 1) := by decide +kernel
theorem dX6_walk_93 : decode cX6_walk 93 = .ok (.iload_n 3, 1) := by decide +kernel
theorem dX6_walk_94 : decode cX6_walk 94 = .ok (.aload_n 0, 1) := by decide +kernel
theorem dX6_walk_95 : decode cX6_walk 95 = .ok (.getfield 19, 3) := by decide +kernel
theorem dX6_walk_98 : decode cX6_walk 98 = .ok (.iload_n 3, 1) := by decide +kernel
theorem dX6_walk_99 : decode cX6_walk 99 = .ok (.iaload, 1) := by decide +kernel
theorem dX6_walk_100 : decode cX6_walk 100 = .ok (.aload_n 0, 1) := by decide +kernel
theorem dX6_walk_101 : decode cX6_walk 101 = .ok (.getfield 22, 3) := by decide +kernel
theorem dX6_walk_104 : decode cX6_walk 104 = .ok (.iload_n 3, 1) := by decide +kernel
theorem dX6_walk_105 : decode cX6_walk 105 = .ok (.iaload, 1) := by decide +kernel
theorem dX6_walk_106 : decode cX6_walk 106 = .ok (.iconst 1, 1) := by decide +kernel
theorem dX6_walk_107 : decode cX6_walk 107 = .ok (.iadd, 1) := by decide +kernel
theorem dX6_walk_108 : decode cX6_walk 108 = .ok (.invokevirtual 69, 3) := by decide +kernel
theorem dX6_walk_111 : decode cX6_walk 111 = .ok (.aload_n 0, 1) := by decide +kernel
theorem dX6_walk_112 : decode cX6_walk 112 = .ok (.iload_n 3, 1) := by decide +kernel
theorem dX6_walk_113 : decode cX6_walk 113 = .ok (.aload_n 0, 1) := by decide +kernel
theorem dX6_walk_114 : decode cX6_walk 114 = .ok (.getfield 19, 3) := by decide +kernel
theorem dX6_walk_117 : decode cX6_walk 117 = .ok (.iload_n 3, 1) := by decide +kernel
theorem dX6_walk_118 : decode cX6_walk 118 = .ok (.iaload, 1) := by decide +kernel
theorem dX6_walk_119 : decode cX6_walk 119 = .ok (.aload_n 0, 1) := by decide +kernel
theorem dX6_walk_120 : decode cX6_walk 120 = .ok (.getfield 22, 3) := by decide +kernel
theorem dX6_walk_123 : decode cX6_walk 123 = .ok (.iload_n 3, 1) := by decide +kernel
theorem dX6_walk_124 : decode cX6_walk 124 = .ok (.iaload, 1) := by decide +kernel
theorem dX6_walk_125 : decode cX6_walk 125 = .ok (.iconst 1, 1) := by decide +kernel
theorem dX6_walk_126 : decode cX6_walk 126 = .ok (.isub, 1) := by decide +kernel
theorem dX6_walk_127 : decode cX6_walk 127 = .ok (.invokevirtual 69, 3) := by decide +kernel
theorem dX6_walk_130 : decode cX6_walk 130 = .ok (.iinc 2 1, 3) := by decide +kernel
theorem dX6_walk_133 : decode cX6_walk 133 = .ok (.goto (-100), 3) := by decide +kernel
theorem dX6_walk_136 : decode cX6_walk 136 = .ok (.return_, 1) := by decide +kernel
theorem bX6_walk_0 (x1 : Int32) (mem : zm_Mem) (post : zm_Post) (kk : zm_Call gX1_columnOf [.ref 1, .int x1] (zm_st (zm_st mem 16 6 0) 16 7 0) (fun r1 w1 u1 => zm_Call gX1_rowOf [.ref 1, .int x1] u1 (fun r2 w2 u2 => zm_Call gX6_arrive [.ref 16, .int x1, .int r1, .int r2] u2 (fun r3 w3 u3 => zm_Z gX6_walk post 33 [(0, .ref 16), (2, .int 0)] [] u3)))) : zm_Call gX6_walk [.ref 16, .int x1] mem post := by
  refine z_entry (by decide) (Nat.le_of_ble_eq_true rfl) ?_
  show zm_Z gX6_walk post 0 [(0, .ref 16), (1, .int x1)] [] mem
  refine z_aload_n dX6_walk_0 rfl 0 rfl ?_
  refine z_iconst (v := 0) dX6_walk_1 zciconst_0 ?_
  refine z_put (ci := 6) (j := 6) (T := TX6) (ty0 := tyX6) rfl rfl hX6 tyX6_ok nmX6 rfl (by decide) fkX6_55 rfl rfl rfl dX6_walk_2 ?_
  refine z_aload_n dX6_walk_5 rfl 0 rfl ?_
  refine z_iconst (v := 0) dX6_walk_6 zciconst_0 ?_
  refine z_put (ci := 6) (j := 7) (T := TX6) (ty0 := tyX6) rfl rfl hX6 tyX6_ok nmX6 rfl (by decide) fkX6_51 rfl rfl rfl dX6_walk_7 ?_
  refine z_aload_n dX6_walk_10 rfl 0 rfl ?_
  refine z_iload_n dX6_walk_11 rfl 1 rfl ?_
  refine z_aload_n dX6_walk_12 rfl 0 rfl ?_
  refine z_getr (ci := 6) (j := 0) (r := 1) (T := TX6) rfl rfl hX6 rfl (by decide) fkX6_25 dX6_walk_13 ?_
  refine z_iload_n dX6_walk_16 rfl 1 rfl ?_
  refine z_callVi (g' := gX1_columnOf) [.int x1] (q := 1) (ci := 1) (T := TX1) rfl rfl ⟨lkX6_58, pdX1_columnOf, by decide, by decide⟩ ⟨_, rfl, by decide⟩ rfl (Nat.le_of_ble_eq_true rfl) dX6_walk_17 (zm_Call.mono kk (fun r1 w1 u1 k1 => ?_))
  refine z_aload_n dX6_walk_20 rfl 0 rfl ?_
  refine z_getr (ci := 6) (j := 0) (r := 1) (T := TX6) rfl rfl hX6 rfl (by decide) fkX6_25 dX6_walk_21 ?_
  refine z_iload_n dX6_walk_24 rfl 1 rfl ?_
  refine z_callVi (g' := gX1_rowOf) [.int x1] (q := 1) (ci := 1) (T := TX1) rfl rfl ⟨lkX6_62, pdX1_rowOf, by decide, by decide⟩ ⟨_, rfl, by decide⟩ rfl (Nat.le_of_ble_eq_true rfl) dX6_walk_25 (zm_Call.mono k1 (fun r2 w2 u2 k2 => ?_))
  refine z_callVv (g' := gX6_arrive) [.int x1, .int r1, .int r2] (q := 16) (ci := 6) (T := TX6) rfl rfl ⟨lkX6_65, pdX6_arrive, by decide, by decide⟩ rfl rfl (Nat.le_of_ble_eq_true rfl) dX6_walk_28 (zm_Call.mono k2 (fun r3 w3 u3 k3 => ?_))
  refine z_iconst (v := 0) dX6_walk_31 zciconst_0 ?_
  refine z_istore_n (lv' := [(2, .int 0), (0, .ref 16), (1, .int x1)]) dX6_walk_32 rfl (by decide) rfl ?_
  refine z_sub [1, 0] rfl ?_
  exact k3
theorem bX6_walk_33 (x2 : Int32) (mem : zm_Mem) (post : zm_Post) (kk : (((mem 16 6) ≤ x2 → post 0 0 mem) ∧ (¬ (mem 16 6) ≤ x2 → ((36 ≤ x2 → post 0 0 mem) ∧ (¬ 36 ≤ x2 → (vp_in x2 36 ∧ (vp_in (mem 17 (Int32.toNatClampNeg x2)) 36 ∧ (vp_in (mem 17 (Int32.toNatClampNeg x2)) 36 ∧ zm_Call gX6_step [.ref 16, .int (mem 17 (Int32.toNatClampNeg x2)), .int ((mem 19 (Int32.toNatClampNeg (mem 17 (Int32.toNatClampNeg x2)))) + 1), .int (mem 20 (Int32.toNatClampNeg (mem 17 (Int32.toNatClampNeg x2))))] mem (fun r3 w3 u3 => (vp_in (mem 17 (Int32.toNatClampNeg x2)) 36 ∧ (vp_in (mem 17 (Int32.toNatClampNeg x2)) 36 ∧ zm_Call gX6_step [.ref 16, .int (mem 17 (Int32.toNatClampNeg x2)), .int ((u3 19 (Int32.toNatClampNeg (mem 17 (Int32.toNatClampNeg x2)))) - 1), .int (u3 20 (Int32.toNatClampNeg (mem 17 (Int32.toNatClampNeg x2))))] u3 (fun r4 w4 u4 => (vp_in (mem 17 (Int32.toNatClampNeg x2)) 36 ∧ (vp_in (mem 17 (Int32.toNatClampNeg x2)) 36 ∧ zm_Call gX6_step [.ref 16, .int (mem 17 (Int32.toNatClampNeg x2)), .int (u4 19 (Int32.toNatClampNeg (mem 17 (Int32.toNatClampNeg x2)))), .int ((u4 20 (Int32.toNatClampNeg (mem 17 (Int32.toNatClampNeg x2)))) + 1)] u4 (fun r5 w5 u5 => (vp_in (mem 17 (Int32.toNatClampNeg x2)) 36 ∧ (vp_in (mem 17 (Int32.toNatClampNeg x2)) 36 ∧ zm_Call gX6_step [.ref 16, .int (mem 17 (Int32.toNatClampNeg x2)), .int (u5 19 (Int32.toNatClampNeg (mem 17 (Int32.toNatClampNeg x2)))), .int ((u5 20 (Int32.toNatClampNeg (mem 17 (Int32.toNatClampNeg x2)))) - 1)] u5 (fun r6 w6 u6 => zm_Z gX6_walk post 33 [(0, .ref 16), (2, .int (x2 + 1))] [] u6)))))))))))))))))) : zm_Z gX6_walk post 33 [(0, .ref 16), (2, .int x2)] [] mem := by
  refine z_iload_n dX6_walk_33 rfl 1 rfl ?_
  refine z_aload_n dX6_walk_34 rfl 0 rfl ?_
  refine z_geti (ci := 6) (j := 6) (T := TX6) rfl rfl hX6 rfl (by decide) fkX6_55 dX6_walk_35 ?_
  refine z_icmp_ge (tgt := 136) dX6_walk_38 (by decide) (fun h1 => ?_) (fun h1 => ?_)
  ·
    exact z_vret rfl dX6_walk_136 (kk.1 h1)
  ·
    refine z_iload_n dX6_walk_41 rfl 1 rfl ?_
    refine z_bipush (v := 36) dX6_walk_42 zcbipush_36 ?_
    refine z_icmp_ge (tgt := 136) dX6_walk_44 (by decide) (fun h2 => ?_) (fun h2 => ?_)
    ·
      exact z_vret rfl dX6_walk_136 ((kk.2 h1).1 h2)
    ·
      refine z_aload_n dX6_walk_47 rfl 0 rfl ?_
      refine z_getr (ci := 6) (j := 2) (r := 17) (T := TX6) rfl rfl hX6 rfl (by decide) fkX6_9 dX6_walk_48 ?_
      refine z_iload_n dX6_walk_51 rfl 1 rfl ?_
      refine z_iald (n := 36) rfl ((kk.2 h1).2 h2).1 dX6_walk_52 ?_
      refine z_istore_n (lv' := [(3, .int (mem 17 (Int32.toNatClampNeg x2))), (0, .ref 16), (2, .int x2)]) dX6_walk_53 rfl (by decide) rfl ?_
      refine z_aload_n dX6_walk_54 rfl 1 rfl ?_
      refine z_iload_n dX6_walk_55 rfl 0 rfl ?_
      refine z_aload_n dX6_walk_56 rfl 1 rfl ?_
      refine z_getr (ci := 6) (j := 4) (r := 19) (T := TX6) rfl rfl hX6 rfl (by decide) fkX6_19 dX6_walk_57 ?_
      refine z_iload_n dX6_walk_60 rfl 0 rfl ?_
      refine z_iald (n := 36) rfl ((kk.2 h1).2 h2).2.1 dX6_walk_61 ?_
      refine z_iconst (v := 1) dX6_walk_62 zciconst_1 ?_
      refine z_iadd dX6_walk_63 ?_
      refine z_aload_n dX6_walk_64 rfl 1 rfl ?_
      refine z_getr (ci := 6) (j := 5) (r := 20) (T := TX6) rfl rfl hX6 rfl (by decide) fkX6_22 dX6_walk_65 ?_
      refine z_iload_n dX6_walk_68 rfl 0 rfl ?_
      refine z_iald (n := 36) rfl ((kk.2 h1).2 h2).2.2.1 dX6_walk_69 ?_
      refine z_callVv (g' := gX6_step) [.int (mem 17 (Int32.toNatClampNeg x2)), .int ((mem 19 (Int32.toNatClampNeg (mem 17 (Int32.toNatClampNeg x2)))) + 1), .int (mem 20 (Int32.toNatClampNeg (mem 17 (Int32.toNatClampNeg x2))))] (q := 16) (ci := 6) (T := TX6) rfl rfl ⟨lkX6_69, pdX6_step, by decide, by decide⟩ rfl rfl (Nat.le_of_ble_eq_true rfl) dX6_walk_70 (zm_Call.mono ((kk.2 h1).2 h2).2.2.2 (fun r3 w3 u3 k3 => ?_))
      refine z_aload_n dX6_walk_73 rfl 1 rfl ?_
      refine z_iload_n dX6_walk_74 rfl 0 rfl ?_
      refine z_aload_n dX6_walk_75 rfl 1 rfl ?_
      refine z_getr (ci := 6) (j := 4) (r := 19) (T := TX6) rfl rfl hX6 rfl (by decide) fkX6_19 dX6_walk_76 ?_
      refine z_iload_n dX6_walk_79 rfl 0 rfl ?_
      refine z_iald (n := 36) rfl k3.1 dX6_walk_80 ?_
      refine z_iconst (v := 1) dX6_walk_81 zciconst_1 ?_
      refine z_isub dX6_walk_82 ?_
      refine z_aload_n dX6_walk_83 rfl 1 rfl ?_
      refine z_getr (ci := 6) (j := 5) (r := 20) (T := TX6) rfl rfl hX6 rfl (by decide) fkX6_22 dX6_walk_84 ?_
      refine z_iload_n dX6_walk_87 rfl 0 rfl ?_
      refine z_iald (n := 36) rfl k3.2.1 dX6_walk_88 ?_
      refine z_callVv (g' := gX6_step) [.int (mem 17 (Int32.toNatClampNeg x2)), .int ((u3 19 (Int32.toNatClampNeg (mem 17 (Int32.toNatClampNeg x2)))) - 1), .int (u3 20 (Int32.toNatClampNeg (mem 17 (Int32.toNatClampNeg x2))))] (q := 16) (ci := 6) (T := TX6) rfl rfl ⟨lkX6_69, pdX6_step, by decide, by decide⟩ rfl rfl (Nat.le_of_ble_eq_true rfl) dX6_walk_89 (zm_Call.mono k3.2.2 (fun r4 w4 u4 k4 => ?_))
      refine z_aload_n dX6_walk_92 rfl 1 rfl ?_
      refine z_iload_n dX6_walk_93 rfl 0 rfl ?_
      refine z_aload_n dX6_walk_94 rfl 1 rfl ?_
      refine z_getr (ci := 6) (j := 4) (r := 19) (T := TX6) rfl rfl hX6 rfl (by decide) fkX6_19 dX6_walk_95 ?_
      refine z_iload_n dX6_walk_98 rfl 0 rfl ?_
      refine z_iald (n := 36) rfl k4.1 dX6_walk_99 ?_
      refine z_aload_n dX6_walk_100 rfl 1 rfl ?_
      refine z_getr (ci := 6) (j := 5) (r := 20) (T := TX6) rfl rfl hX6 rfl (by decide) fkX6_22 dX6_walk_101 ?_
      refine z_iload_n dX6_walk_104 rfl 0 rfl ?_
      refine z_iald (n := 36) rfl k4.2.1 dX6_walk_105 ?_
      refine z_iconst (v := 1) dX6_walk_106 zciconst_1 ?_
      refine z_iadd dX6_walk_107 ?_
      refine z_callVv (g' := gX6_step) [.int (mem 17 (Int32.toNatClampNeg x2)), .int (u4 19 (Int32.toNatClampNeg (mem 17 (Int32.toNatClampNeg x2)))), .int ((u4 20 (Int32.toNatClampNeg (mem 17 (Int32.toNatClampNeg x2)))) + 1)] (q := 16) (ci := 6) (T := TX6) rfl rfl ⟨lkX6_69, pdX6_step, by decide, by decide⟩ rfl rfl (Nat.le_of_ble_eq_true rfl) dX6_walk_108 (zm_Call.mono k4.2.2 (fun r5 w5 u5 k5 => ?_))
      refine z_aload_n dX6_walk_111 rfl 1 rfl ?_
      refine z_iload_n dX6_walk_112 rfl 0 rfl ?_
      refine z_aload_n dX6_walk_113 rfl 1 rfl ?_
      refine z_getr (ci := 6) (j := 4) (r := 19) (T := TX6) rfl rfl hX6 rfl (by decide) fkX6_19 dX6_walk_114 ?_
      refine z_iload_n dX6_walk_117 rfl 0 rfl ?_
      refine z_iald (n := 36) rfl k5.1 dX6_walk_118 ?_
      refine z_aload_n dX6_walk_119 rfl 1 rfl ?_
      refine z_getr (ci := 6) (j := 5) (r := 20) (T := TX6) rfl rfl hX6 rfl (by decide) fkX6_22 dX6_walk_120 ?_
      refine z_iload_n dX6_walk_123 rfl 0 rfl ?_
      refine z_iald (n := 36) rfl k5.2.1 dX6_walk_124 ?_
      refine z_iconst (v := 1) dX6_walk_125 zciconst_1 ?_
      refine z_isub dX6_walk_126 ?_
      refine z_callVv (g' := gX6_step) [.int (mem 17 (Int32.toNatClampNeg x2)), .int (u5 19 (Int32.toNatClampNeg (mem 17 (Int32.toNatClampNeg x2)))), .int ((u5 20 (Int32.toNatClampNeg (mem 17 (Int32.toNatClampNeg x2)))) - 1)] (q := 16) (ci := 6) (T := TX6) rfl rfl ⟨lkX6_69, pdX6_step, by decide, by decide⟩ rfl rfl (Nat.le_of_ble_eq_true rfl) dX6_walk_127 (zm_Call.mono k5.2.2 (fun r6 w6 u6 k6 => ?_))
      refine z_iinc (v := x2 + 1) (lv' := [(2, .int (x2 + 1)), (3, .int (mem 17 (Int32.toNatClampNeg x2))), (0, .ref 16)]) dX6_walk_130 2 rfl (by rw [zciconst_1]) (by decide) rfl ?_
      refine z_goto (tgt := 33) dX6_walk_133 (by decide) ?_
      refine z_sub [2, 0] rfl ?_
      exact k6
theorem dX6_total_0 : decode cX6_total 0 = .ok (.aload_n 0, 1) := by decide +kernel
theorem dX6_total_1 : decode cX6_total 1 = .ok (.invokevirtual 33, 3) := by decide +kernel
theorem dX6_total_4 : decode cX6_total 4 = .ok (.iconst 0, 1) := by decide +kernel
theorem dX6_total_5 : decode cX6_total 5 = .ok (.istore_n 2, 1) := by decide +kernel
theorem dX6_total_6 : decode cX6_total 6 = .ok (.iconst 0, 1) := by decide +kernel
theorem dX6_total_7 : decode cX6_total 7 = .ok (.istore_n 3, 1) := by decide +kernel
theorem dX6_total_8 : decode cX6_total 8 = .ok (.iload_n 3, 1) := by decide +kernel
theorem dX6_total_9 : decode cX6_total 9 = .ok (.aload_n 0, 1) := by decide +kernel
theorem dX6_total_10 : decode cX6_total 10 = .ok (.getfield 25, 3) := by decide +kernel
theorem dX6_total_13 : decode cX6_total 13 = .ok (.getfield 36, 3) := by decide +kernel
theorem dX6_total_16 : decode cX6_total 16 = .ok (.if_icmp .ge 51, 3) := by decide +kernel
theorem dX6_total_19 : decode cX6_total 19 = .ok (.aload_n 0, 1) := by decide +kernel
theorem dX6_total_20 : decode cX6_total 20 = .ok (.getfield 15, 3) := by decide +kernel
theorem dX6_total_23 : decode cX6_total 23 = .ok (.iload_n 3, 1) := by decide +kernel
theorem dX6_total_24 : decode cX6_total 24 = .ok (.baload, 1) := by decide +kernel
theorem dX6_total_25 : decode cX6_total 25 = .ok (.ifCond .ne 36, 3) := by decide +kernel
theorem dX6_total_28 : decode cX6_total 28 = .ok (.aload_n 0, 1) := by decide +kernel
theorem dX6_total_29 : decode cX6_total 29 = .ok (.getfield 29, 3) := by decide +kernel
theorem dX6_total_32 : decode cX6_total 32 = .ok (.getfield 42, 3) := by decide +kernel
theorem dX6_total_35 : decode cX6_total 35 = .ok (.iload_n 3, 1) := by decide +kernel
theorem dX6_total_36 : decode cX6_total 36 = .ok (.iaload, 1) := by decide +kernel
theorem dX6_total_37 : decode cX6_total 37 = .ok (.bipush 9, 2) := by decide +kernel
theorem dX6_total_39 : decode cX6_total 39 = .ok (.if_icmp .eq 22, 3) := by decide +kernel
theorem dX6_total_42 : decode cX6_total 42 = .ok (.aload_n 0, 1) := by decide +kernel
theorem dX6_total_43 : decode cX6_total 43 = .ok (.iload_n 3, 1) := by decide +kernel
theorem dX6_total_44 : decode cX6_total 44 = .ok (.invokevirtual 47, 3) := by decide +kernel
theorem dX6_total_47 : decode cX6_total 47 = .ok (.aload_n 0, 1) := by decide +kernel
theorem dX6_total_48 : decode cX6_total 48 = .ok (.getfield 51, 3) := by decide +kernel
theorem dX6_total_51 : decode cX6_total 51 = .ok (.ifCond .ne 7, 3) := by decide +kernel
theorem dX6_total_54 : decode cX6_total 54 = .ok (.iload_n 1, 1) := by decide +kernel
theorem dX6_total_55 : decode cX6_total 55 = .ok (.ifCond .ne 6, 3) := by decide +kernel
theorem dX6_total_58 : decode cX6_total 58 = .ok (.iinc 2 1, 3) := by decide +kernel
theorem dX6_total_61 : decode cX6_total 61 = .ok (.iinc 3 1, 3) := by decide +kernel
theorem dX6_total_64 : decode cX6_total 64 = .ok (.goto (-56), 3) := by decide +kernel
theorem dX6_total_67 : decode cX6_total 67 = .ok (.iload_n 2, 1) := by decide +kernel
theorem dX6_total_68 : decode cX6_total 68 = .ok (.ireturn, 1) := by decide +kernel
theorem bX6_total_0 (x1 : Int32) (mem : zm_Mem) (post : zm_Post) (kk : zm_Call gX6_leaveAll [.ref 16] mem (fun r1 w1 u1 => zm_Z gX6_total post 8 [(0, .ref 16), (1, .int x1), (2, .int 0), (3, .int 0)] [] u1)) : zm_Call gX6_total [.ref 16, .int x1] mem post := by
  refine z_entry (by decide) (Nat.le_of_ble_eq_true rfl) ?_
  show zm_Z gX6_total post 0 [(0, .ref 16), (1, .int x1)] [] mem
  refine z_aload_n dX6_total_0 rfl 0 rfl ?_
  refine z_callVv (g' := gX6_leaveAll) [] (q := 16) (ci := 6) (T := TX6) rfl rfl ⟨lkX6_33, pdX6_leaveAll, by decide, by decide⟩ rfl rfl (Nat.le_of_ble_eq_true rfl) dX6_total_1 (zm_Call.mono kk (fun r1 w1 u1 k1 => ?_))
  refine z_iconst (v := 0) dX6_total_4 zciconst_0 ?_
  refine z_istore_n (lv' := [(2, .int 0), (0, .ref 16), (1, .int x1)]) dX6_total_5 rfl (by decide) rfl ?_
  refine z_iconst (v := 0) dX6_total_6 zciconst_0 ?_
  refine z_istore_n (lv' := [(3, .int 0), (2, .int 0), (0, .ref 16), (1, .int x1)]) dX6_total_7 rfl (by decide) rfl ?_
  refine z_sub [2, 3, 1, 0] rfl ?_
  exact k1
theorem bX6_total_8 (x1 : Int32) (x2 : Int32) (x3 : Int32) (mem : zm_Mem) (post : zm_Post) (kk : (((mem 1 2) ≤ x3 → post x2 0 mem) ∧ (¬ (mem 1 2) ≤ x3 → (vp_in x3 36 ∧ ((¬ (mem 18 (Int32.toNatClampNeg x3)) = 0 → zm_Z gX6_total post 8 [(0, .ref 16), (1, .int x1), (2, .int x2), (3, .int (x3 + 1))] [] mem) ∧ ((mem 18 (Int32.toNatClampNeg x3)) = 0 → (vp_in x3 36 ∧ (((mem 3 (Int32.toNatClampNeg x3)) = 9 → zm_Z gX6_total post 8 [(0, .ref 16), (1, .int x1), (2, .int x2), (3, .int (x3 + 1))] [] mem) ∧ (¬ (mem 3 (Int32.toNatClampNeg x3)) = 9 → zm_Call gX6_walk [.ref 16, .int x3] mem (fun r4 w4 u4 => ((¬ (u4 16 7) = 0 → zm_Z gX6_total post 8 [(0, .ref 16), (1, .int x1), (2, .int (x2 + 1)), (3, .int (x3 + 1))] [] u4) ∧ ((u4 16 7) = 0 → ((¬ x1 = 0 → zm_Z gX6_total post 8 [(0, .ref 16), (1, .int x1), (2, .int x2), (3, .int (x3 + 1))] [] u4) ∧ (x1 = 0 → zm_Z gX6_total post 8 [(0, .ref 16), (1, .int x1), (2, .int (x2 + 1)), (3, .int (x3 + 1))] [] u4)))))))))))))) : zm_Z gX6_total post 8 [(0, .ref 16), (1, .int x1), (2, .int x2), (3, .int x3)] [] mem := by
  refine z_iload_n dX6_total_8 rfl 3 rfl ?_
  refine z_aload_n dX6_total_9 rfl 0 rfl ?_
  refine z_getr (ci := 6) (j := 0) (r := 1) (T := TX6) rfl rfl hX6 rfl (by decide) fkX6_25 dX6_total_10 ?_
  refine z_getiN (ci := 1) (j := 2) (T := TX1) rfl rfl hX1 rfl (by decide) fkX6_36 dX6_total_13 ?_
  refine z_icmp_ge (tgt := 67) dX6_total_16 (by decide) (fun h1 => ?_) (fun h1 => ?_)
  ·
    refine z_iload_n dX6_total_67 rfl 2 rfl ?_
    exact z_iret rfl dX6_total_68 (kk.1 h1)
  ·
    refine z_aload_n dX6_total_19 rfl 0 rfl ?_
    refine z_getr (ci := 6) (j := 3) (r := 18) (T := TX6) rfl rfl hX6 rfl (by decide) fkX6_15 dX6_total_20 ?_
    refine z_iload_n dX6_total_23 rfl 3 rfl ?_
    refine z_bald (n := 36) rfl (kk.2 h1).1 dX6_total_24 ?_
    refine z_if_ne (tgt := 61) dX6_total_25 (by decide) (fun h2 => ?_) (fun h2 => ?_)
    ·
      refine z_iinc (v := x3 + 1) (lv' := [(3, .int (x3 + 1)), (0, .ref 16), (1, .int x1), (2, .int x2)]) dX6_total_61 3 rfl (by rw [zciconst_1]) (by decide) rfl ?_
      refine z_goto (tgt := 8) dX6_total_64 (by decide) ?_
      refine z_sub [1, 2, 3, 0] rfl ?_
      exact ((kk.2 h1).2.1 h2)
    ·
      refine z_aload_n dX6_total_28 rfl 0 rfl ?_
      refine z_getr (ci := 6) (j := 1) (r := 2) (T := TX6) rfl rfl hX6 rfl (by decide) fkX6_29 dX6_total_29 ?_
      refine z_getrN (ci := 5) (j := 1) (r := 3) (T := TX5) rfl rfl hX5 rfl (by decide) fkX6_42 dX6_total_32 ?_
      refine z_iload_n dX6_total_35 rfl 3 rfl ?_
      refine z_iald (n := 36) rfl ((kk.2 h1).2.2 h2).1 dX6_total_36 ?_
      refine z_bipush (v := 9) dX6_total_37 zcbipush_9 ?_
      refine z_icmp_eq (tgt := 61) dX6_total_39 (by decide) (fun h3 => ?_) (fun h3 => ?_)
      ·
        refine z_iinc (v := x3 + 1) (lv' := [(3, .int (x3 + 1)), (0, .ref 16), (1, .int x1), (2, .int x2)]) dX6_total_61 3 rfl (by rw [zciconst_1]) (by decide) rfl ?_
        refine z_goto (tgt := 8) dX6_total_64 (by decide) ?_
        refine z_sub [1, 2, 3, 0] rfl ?_
        exact (((kk.2 h1).2.2 h2).2.1 h3)
      ·
        refine z_aload_n dX6_total_42 rfl 0 rfl ?_
        refine z_iload_n dX6_total_43 rfl 3 rfl ?_
        refine z_callVv (g' := gX6_walk) [.int x3] (q := 16) (ci := 6) (T := TX6) rfl rfl ⟨lkX6_47, pdX6_walk, by decide, by decide⟩ rfl rfl (Nat.le_of_ble_eq_true rfl) dX6_total_44 (zm_Call.mono (((kk.2 h1).2.2 h2).2.2 h3) (fun r4 w4 u4 k4 => ?_))
        refine z_aload_n dX6_total_47 rfl 0 rfl ?_
        refine z_geti (ci := 6) (j := 7) (T := TX6) rfl rfl hX6 rfl (by decide) fkX6_51 dX6_total_48 ?_
        refine z_if_ne (tgt := 58) dX6_total_51 (by decide) (fun h5 => ?_) (fun h5 => ?_)
        ·
          refine z_iinc (v := x2 + 1) (lv' := [(2, .int (x2 + 1)), (0, .ref 16), (1, .int x1), (3, .int x3)]) dX6_total_58 2 rfl (by rw [zciconst_1]) (by decide) rfl ?_
          refine z_iinc (v := x3 + 1) (lv' := [(3, .int (x3 + 1)), (2, .int (x2 + 1)), (0, .ref 16), (1, .int x1)]) dX6_total_61 3 rfl (by rw [zciconst_1]) (by decide) rfl ?_
          refine z_goto (tgt := 8) dX6_total_64 (by decide) ?_
          refine z_sub [2, 3, 1, 0] rfl ?_
          exact (k4.1 h5)
        ·
          refine z_iload_n dX6_total_54 rfl 1 rfl ?_
          refine z_if_ne (tgt := 61) dX6_total_55 (by decide) (fun h6 => ?_) (fun h6 => ?_)
          ·
            refine z_iinc (v := x3 + 1) (lv' := [(3, .int (x3 + 1)), (0, .ref 16), (1, .int x1), (2, .int x2)]) dX6_total_61 3 rfl (by rw [zciconst_1]) (by decide) rfl ?_
            refine z_goto (tgt := 8) dX6_total_64 (by decide) ?_
            refine z_sub [1, 2, 3, 0] rfl ?_
            exact ((k4.2 h5).1 h6)
          ·
            refine z_iinc (v := x2 + 1) (lv' := [(2, .int (x2 + 1)), (0, .ref 16), (1, .int x1), (3, .int x3)]) dX6_total_58 2 rfl (by rw [zciconst_1]) (by decide) rfl ?_
            refine z_iinc (v := x3 + 1) (lv' := [(3, .int (x3 + 1)), (2, .int (x2 + 1)), (0, .ref 16), (1, .int x1)]) dX6_total_61 3 rfl (by rw [zciconst_1]) (by decide) rfl ?_
            refine z_goto (tgt := 8) dX6_total_64 (by decide) ?_
            refine z_sub [2, 3, 1, 0] rfl ?_
            exact ((k4.2 h5).2 h6)
theorem dX6_sizeAt_0 : decode cX6_sizeAt 0 = .ok (.aload_n 0, 1) := by decide +kernel
theorem dX6_sizeAt_1 : decode cX6_sizeAt 1 = .ok (.invokevirtual 33, 3) := by decide +kernel
theorem dX6_sizeAt_4 : decode cX6_sizeAt 4 = .ok (.aload_n 0, 1) := by decide +kernel
theorem dX6_sizeAt_5 : decode cX6_sizeAt 5 = .ok (.iload_n 1, 1) := by decide +kernel
theorem dX6_sizeAt_6 : decode cX6_sizeAt 6 = .ok (.invokevirtual 47, 3) := by decide +kernel
theorem dX6_sizeAt_9 : decode cX6_sizeAt 9 = .ok (.aload_n 0, 1) := by decide +kernel
theorem dX6_sizeAt_10 : decode cX6_sizeAt 10 = .ok (.getfield 55, 3) := by decide +kernel
theorem dX6_sizeAt_13 : decode cX6_sizeAt 13 = .ok (.ireturn, 1) := by decide +kernel
theorem bX6_sizeAt_0 (x1 : Int32) (mem : zm_Mem) (post : zm_Post) (kk : zm_Call gX6_leaveAll [.ref 16] mem (fun r1 w1 u1 => zm_Call gX6_walk [.ref 16, .int x1] u1 (fun r2 w2 u2 => post (u2 16 6) 0 u2))) : zm_Call gX6_sizeAt [.ref 16, .int x1] mem post := by
  refine z_entry (by decide) (Nat.le_of_ble_eq_true rfl) ?_
  show zm_Z gX6_sizeAt post 0 [(0, .ref 16), (1, .int x1)] [] mem
  refine z_aload_n dX6_sizeAt_0 rfl 0 rfl ?_
  refine z_callVv (g' := gX6_leaveAll) [] (q := 16) (ci := 6) (T := TX6) rfl rfl ⟨lkX6_33, pdX6_leaveAll, by decide, by decide⟩ rfl rfl (Nat.le_of_ble_eq_true rfl) dX6_sizeAt_1 (zm_Call.mono kk (fun r1 w1 u1 k1 => ?_))
  refine z_aload_n dX6_sizeAt_4 rfl 0 rfl ?_
  refine z_iload_n dX6_sizeAt_5 rfl 1 rfl ?_
  refine z_callVv (g' := gX6_walk) [.int x1] (q := 16) (ci := 6) (T := TX6) rfl rfl ⟨lkX6_47, pdX6_walk, by decide, by decide⟩ rfl rfl (Nat.le_of_ble_eq_true rfl) dX6_sizeAt_6 (zm_Call.mono k1 (fun r2 w2 u2 k2 => ?_))
  refine z_aload_n dX6_sizeAt_9 rfl 0 rfl ?_
  refine z_geti (ci := 6) (j := 6) (T := TX6) rfl rfl hX6 rfl (by decide) fkX6_55 dX6_sizeAt_10 ?_
  exact z_iret rfl dX6_sizeAt_13 k2
theorem dX7_markRing_0 : decode cX7_markRing 0 = .ok (.aload_n 0, 1) := by decide +kernel
theorem dX7_markRing_1 : decode cX7_markRing 1 = .ok (.getfield 15, 3) := by decide +kernel
theorem dX7_markRing_4 : decode cX7_markRing 4 = .ok (.iload_n 1, 1) := by decide +kernel
theorem dX7_markRing_5 : decode cX7_markRing 5 = .ok (.iload_n 1, 1) := by decide +kernel
theorem dX7_markRing_6 : decode cX7_markRing 6 = .ok (.iastore, 1) := by decide +kernel
theorem dX7_markRing_7 : decode cX7_markRing 7 = .ok (.aload_n 0, 1) := by decide +kernel
theorem dX7_markRing_8 : decode cX7_markRing 8 = .ok (.getfield 18, 3) := by decide +kernel
theorem dX7_markRing_11 : decode cX7_markRing 11 = .ok (.iconst 0, 1) := by decide +kernel
theorem dX7_markRing_12 : decode cX7_markRing 12 = .ok (.iload_n 1, 1) := by decide +kernel
theorem dX7_markRing_13 : decode cX7_markRing 13 = .ok (.iastore, 1) := by decide +kernel
theorem dX7_markRing_14 : decode cX7_markRing 14 = .ok (.iconst 1, 1) := by decide +kernel
theorem dX7_markRing_15 : decode cX7_markRing 15 = .ok (.istore_n 2, 1) := by decide +kernel
theorem dX7_markRing_16 : decode cX7_markRing 16 = .ok (.iconst 0, 1) := by decide +kernel
theorem dX7_markRing_17 : decode cX7_markRing 17 = .ok (.istore_n 3, 1) := by decide +kernel
theorem dX7_markRing_18 : decode cX7_markRing 18 = .ok (.iload_n 3, 1) := by decide +kernel
theorem dX7_markRing_19 : decode cX7_markRing 19 = .ok (.iload_n 2, 1) := by decide +kernel
theorem dX7_markRing_20 : decode cX7_markRing 20 = .ok (.if_icmp .ge 86, 3) := by decide +kernel
theorem dX7_markRing_23 : decode cX7_markRing 23 = .ok (.iload_n 3, 1) := by decide +kernel
theorem dX7_markRing_24 : decode cX7_markRing 24 = .ok (.bipush 36, 2) := by decide +kernel
theorem dX7_markRing_26 : decode cX7_markRing 26 = .ok (.if_icmp .ge 80, 3) := by decide +kernel
theorem dX7_markRing_29 : decode cX7_markRing 29 = .ok (.iconst 0, 1) := by decide +kernel
theorem dX7_markRing_30 : decode cX7_markRing 30 = .ok (.istore 4, 2) := by decide +kernel
theorem dX7_markRing_32 : decode cX7_markRing 32 = .ok (.iload 4, 2) := by decide +kernel
theorem dX7_markRing_34 : decode cX7_markRing 34 = .ok (.aload_n 0, 1) := by decide +kernel
theorem dX7_markRing_35 : decode cX7_markRing 35 = .ok (.getfield 33, 3) := by decide +kernel
theorem dX7_markRing_38 : decode cX7_markRing 38 = .ok (.if_icmp .ge 62, 3) := by decide +kernel
theorem dX7_markRing_41 : decode cX7_markRing 41 = .ok (.aload_n 0, 1) := by decide +kernel
theorem dX7_markRing_42 : decode cX7_markRing 42 = .ok (.getfield 25, 3) := by decide +kernel
theorem dX7_markRing_45 : decode cX7_markRing 45 = .ok (.aload_n 0, 1) := by decide +kernel
theorem dX7_markRing_46 : decode cX7_markRing 46 = .ok (.getfield 9, 3) := by decide +kernel
theorem dX7_markRing_49 : decode cX7_markRing 49 = .ok (.iload 4, 2) := by decide +kernel
theorem dX7_markRing_51 : decode cX7_markRing 51 = .ok (.iaload, 1) := by decide +kernel
theorem dX7_markRing_52 : decode cX7_markRing 52 = .ok (.aload_n 0, 1) := by decide +kernel
theorem dX7_markRing_53 : decode cX7_markRing 53 = .ok (.getfield 18, 3) := by decide +kernel
theorem dX7_markRing_56 : decode cX7_markRing 56 = .ok (.iload_n 3, 1) := by decide +kernel
theorem dX7_markRing_57 : decode cX7_markRing 57 = .ok (.iaload, 1) := by decide +kernel
theorem dX7_markRing_58 : decode cX7_markRing 58 = .ok (.invokevirtual 49, 3) := by decide +kernel
theorem dX7_markRing_61 : decode cX7_markRing 61 = .ok (.istore 5, 2) := by decide +kernel
theorem dX7_markRing_63 : decode cX7_markRing 63 = .ok (.aload_n 0, 1) := by decide +kernel
theorem dX7_markRing_64 : decode cX7_markRing 64 = .ok (.getfield 15, 3) := by decide +kernel
theorem dX7_markRing_67 : decode cX7_markRing 67 = .ok (.iload 5, 2) := by decide +kernel
theorem dX7_markRing_69 : decode cX7_markRing 69 = .ok (.iaload, 1) := by decide +kernel
theorem dX7_markRing_70 : decode cX7_markRing 70 = .ok (.bipush (-9), 2) := by decide +kernel
theorem dX7_markRing_72 : decode cX7_markRing 72 = .ok (.if_icmp .ne 22, 3) := by decide +kernel
theorem dX7_markRing_75 : decode cX7_markRing 75 = .ok (.aload_n 0, 1) := by decide +kernel
theorem dX7_markRing_76 : decode cX7_markRing 76 = .ok (.getfield 15, 3) := by decide +kernel
theorem dX7_markRing_79 : decode cX7_markRing 79 = .ok (.iload 5, 2) := by decide +kernel
theorem dX7_markRing_81 : decode cX7_markRing 81 = .ok (.iload_n 1, 1) := by decide +kernel
theorem dX7_markRing_82 : decode cX7_markRing 82 = .ok (.iastore, 1) := by decide +kernel
theorem dX7_markRing_83 : decode cX7_markRing 83 = .ok (.aload_n 0, 1) := by decide +kernel
theorem dX7_markRing_84 : decode cX7_markRing 84 = .ok (.getfield 18, 3) := by decide +kernel
theorem dX7_markRing_87 : decode cX7_markRing 87 = .ok (.iload_n 2, 1) := by decide +kernel
theorem dX7_markRing_88 : decode cX7_markRing 88 = .ok (.iload 5, 2) := by decide +kernel
theorem dX7_markRing_90 : decode cX7_markRing 90 = .ok (.iastore, 1) := by decide +kernel
theorem dX7_markRing_91 : decode cX7_markRing 91 = .ok (.iinc 2 1, 3) := by decide +kernel
theorem dX7_markRing_94 : decode cX7_markRing 94 = .ok (.iinc 4 1, 3) := by decide +kernel
theorem dX7_markRing_97 : decode cX7_markRing 97 = .ok (.goto (-65), 3) := by decide +kernel
theorem dX7_markRing_100 : decode cX7_markRing 100 = .ok (.iinc 3 1, 3) := by decide +kernel
theorem dX7_markRing_103 : decode cX7_markRing 103 = .ok (.goto (-85), 3) := by decide +kernel
theorem dX7_markRing_106 : decode cX7_markRing 106 = .ok (.return_, 1) := by decide +kernel
theorem bX7_markRing_0 (x1 : Int32) (mem : zm_Mem) (post : zm_Post) (kk : (vp_in x1 36 ∧ (vp_in 0 288 ∧ zm_Z gX7_markRing post 18 [(0, .ref 8), (1, .int x1), (2, .int 1), (3, .int 0)] [] (zm_st (zm_st mem 10 (Int32.toNatClampNeg x1) x1) 11 (Int32.toNatClampNeg 0) x1)))) : zm_Call gX7_markRing [.ref 8, .int x1] mem post := by
  refine z_entry (by decide) (Nat.le_of_ble_eq_true rfl) ?_
  show zm_Z gX7_markRing post 0 [(0, .ref 8), (1, .int x1)] [] mem
  refine z_aload_n dX7_markRing_0 rfl 0 rfl ?_
  refine z_getr (ci := 7) (j := 3) (r := 10) (T := TX7) rfl rfl hX7 rfl (by decide) fkX7_15 dX7_markRing_1 ?_
  refine z_iload_n dX7_markRing_4 rfl 1 rfl ?_
  refine z_iload_n dX7_markRing_5 rfl 1 rfl ?_
  refine z_iast (n := 36) rfl kk.1 dX7_markRing_6 ?_
  refine z_aload_n dX7_markRing_7 rfl 0 rfl ?_
  refine z_getr (ci := 7) (j := 4) (r := 11) (T := TX7) rfl rfl hX7 rfl (by decide) fkX7_18 dX7_markRing_8 ?_
  refine z_iconst (v := 0) dX7_markRing_11 zciconst_0 ?_
  refine z_iload_n dX7_markRing_12 rfl 1 rfl ?_
  refine z_iast (n := 288) rfl kk.2.1 dX7_markRing_13 ?_
  refine z_iconst (v := 1) dX7_markRing_14 zciconst_1 ?_
  refine z_istore_n (lv' := [(2, .int 1), (0, .ref 8), (1, .int x1)]) dX7_markRing_15 rfl (by decide) rfl ?_
  refine z_iconst (v := 0) dX7_markRing_16 zciconst_0 ?_
  refine z_istore_n (lv' := [(3, .int 0), (2, .int 1), (0, .ref 8), (1, .int x1)]) dX7_markRing_17 rfl (by decide) rfl ?_
  refine z_sub [2, 3, 1, 0] rfl ?_
  exact kk.2.2
theorem bX7_markRing_18 (x1 : Int32) (x2 : Int32) (x3 : Int32) (mem : zm_Mem) (post : zm_Post) (kk : ((x2 ≤ x3 → post 0 0 mem) ∧ (¬ x2 ≤ x3 → ((36 ≤ x3 → post 0 0 mem) ∧ (¬ 36 ≤ x3 → zm_Z gX7_markRing post 32 [(0, .ref 8), (1, .int x1), (2, .int x2), (3, .int x3), (4, .int 0)] [] mem))))) : zm_Z gX7_markRing post 18 [(0, .ref 8), (1, .int x1), (2, .int x2), (3, .int x3)] [] mem := by
  refine z_iload_n dX7_markRing_18 rfl 3 rfl ?_
  refine z_iload_n dX7_markRing_19 rfl 2 rfl ?_
  refine z_icmp_ge (tgt := 106) dX7_markRing_20 (by decide) (fun h1 => ?_) (fun h1 => ?_)
  ·
    exact z_vret rfl dX7_markRing_106 (kk.1 h1)
  ·
    refine z_iload_n dX7_markRing_23 rfl 3 rfl ?_
    refine z_bipush (v := 36) dX7_markRing_24 zcbipush_36 ?_
    refine z_icmp_ge (tgt := 106) dX7_markRing_26 (by decide) (fun h2 => ?_) (fun h2 => ?_)
    ·
      exact z_vret rfl dX7_markRing_106 ((kk.2 h1).1 h2)
    ·
      refine z_iconst (v := 0) dX7_markRing_29 zciconst_0 ?_
      refine z_istore (lv' := [(4, .int 0), (0, .ref 8), (1, .int x1), (2, .int x2), (3, .int x3)]) dX7_markRing_30 (by decide) rfl ?_
      refine z_sub [1, 2, 3, 4, 0] rfl ?_
      exact ((kk.2 h1).2 h2)
theorem bX7_markRing_32 (x1 : Int32) (x2 : Int32) (x3 : Int32) (x4 : Int32) (mem : zm_Mem) (post : zm_Post) (kk : (((mem 8 6) ≤ x4 → zm_Z gX7_markRing post 18 [(0, .ref 8), (1, .int x1), (2, .int x2), (3, .int (x3 + 1))] [] mem) ∧ (¬ (mem 8 6) ≤ x4 → (vp_in x4 4 ∧ (vp_in x3 288 ∧ zm_Call gX1_target [.ref 1, .int (mem 9 (Int32.toNatClampNeg x4)), .int (mem 11 (Int32.toNatClampNeg x3))] mem (fun r2 w2 u2 => (vp_in r2 36 ∧ ((¬ (u2 10 (Int32.toNatClampNeg r2)) = (-9) → zm_Z gX7_markRing post 32 [(0, .ref 8), (1, .int x1), (2, .int x2), (3, .int x3), (4, .int (x4 + 1))] [] u2) ∧ ((u2 10 (Int32.toNatClampNeg r2)) = (-9) → (vp_in r2 36 ∧ (vp_in x2 288 ∧ zm_Z gX7_markRing post 32 [(0, .ref 8), (1, .int x1), (2, .int (x2 + 1)), (3, .int x3), (4, .int (x4 + 1))] [] (zm_st (zm_st u2 10 (Int32.toNatClampNeg r2) x1) 11 (Int32.toNatClampNeg x2) r2)))))))))))) : zm_Z gX7_markRing post 32 [(0, .ref 8), (1, .int x1), (2, .int x2), (3, .int x3), (4, .int x4)] [] mem := by
  refine z_iload dX7_markRing_32 4 rfl ?_
  refine z_aload_n dX7_markRing_34 rfl 0 rfl ?_
  refine z_geti (ci := 7) (j := 6) (T := TX7) rfl rfl hX7 rfl (by decide) fkX7_33 dX7_markRing_35 ?_
  refine z_icmp_ge (tgt := 100) dX7_markRing_38 (by decide) (fun h1 => ?_) (fun h1 => ?_)
  ·
    refine z_iinc (v := x3 + 1) (lv' := [(3, .int (x3 + 1)), (0, .ref 8), (1, .int x1), (2, .int x2), (4, .int x4)]) dX7_markRing_100 3 rfl (by rw [zciconst_1]) (by decide) rfl ?_
    refine z_goto (tgt := 18) dX7_markRing_103 (by decide) ?_
    refine z_sub [1, 2, 3, 0] rfl ?_
    exact (kk.1 h1)
  ·
    refine z_aload_n dX7_markRing_41 rfl 0 rfl ?_
    refine z_getr (ci := 7) (j := 0) (r := 1) (T := TX7) rfl rfl hX7 rfl (by decide) fkX7_25 dX7_markRing_42 ?_
    refine z_aload_n dX7_markRing_45 rfl 0 rfl ?_
    refine z_getr (ci := 7) (j := 2) (r := 9) (T := TX7) rfl rfl hX7 rfl (by decide) fkX7_9 dX7_markRing_46 ?_
    refine z_iload dX7_markRing_49 4 rfl ?_
    refine z_iald (n := 4) rfl (kk.2 h1).1 dX7_markRing_51 ?_
    refine z_aload_n dX7_markRing_52 rfl 0 rfl ?_
    refine z_getr (ci := 7) (j := 4) (r := 11) (T := TX7) rfl rfl hX7 rfl (by decide) fkX7_18 dX7_markRing_53 ?_
    refine z_iload_n dX7_markRing_56 rfl 3 rfl ?_
    refine z_iald (n := 288) rfl (kk.2 h1).2.1 dX7_markRing_57 ?_
    refine z_callVi (g' := gX1_target) [.int (mem 9 (Int32.toNatClampNeg x4)), .int (mem 11 (Int32.toNatClampNeg x3))] (q := 1) (ci := 1) (T := TX1) rfl rfl ⟨lkX7_49, pdX1_target, by decide, by decide⟩ ⟨_, rfl, by decide⟩ rfl (Nat.le_of_ble_eq_true rfl) dX7_markRing_58 (zm_Call.mono (kk.2 h1).2.2 (fun r2 w2 u2 k2 => ?_))
    refine z_istore (lv' := [(5, .int r2), (0, .ref 8), (1, .int x1), (2, .int x2), (3, .int x3), (4, .int x4)]) dX7_markRing_61 (by decide) rfl ?_
    refine z_aload_n dX7_markRing_63 rfl 1 rfl ?_
    refine z_getr (ci := 7) (j := 3) (r := 10) (T := TX7) rfl rfl hX7 rfl (by decide) fkX7_15 dX7_markRing_64 ?_
    refine z_iload dX7_markRing_67 0 rfl ?_
    refine z_iald (n := 36) rfl k2.1 dX7_markRing_69 ?_
    refine z_bipush (v := (-9)) dX7_markRing_70 zcbipush_m9 ?_
    refine z_icmp_ne (tgt := 94) dX7_markRing_72 (by decide) (fun h3 => ?_) (fun h3 => ?_)
    ·
      refine z_iinc (v := x4 + 1) (lv' := [(4, .int (x4 + 1)), (5, .int r2), (0, .ref 8), (1, .int x1), (2, .int x2), (3, .int x3)]) dX7_markRing_94 5 rfl (by rw [zciconst_1]) (by decide) rfl ?_
      refine z_goto (tgt := 32) dX7_markRing_97 (by decide) ?_
      refine z_sub [2, 3, 4, 5, 0] rfl ?_
      exact (k2.2.1 h3)
    ·
      refine z_aload_n dX7_markRing_75 rfl 1 rfl ?_
      refine z_getr (ci := 7) (j := 3) (r := 10) (T := TX7) rfl rfl hX7 rfl (by decide) fkX7_15 dX7_markRing_76 ?_
      refine z_iload dX7_markRing_79 0 rfl ?_
      refine z_iload_n dX7_markRing_81 rfl 2 rfl ?_
      refine z_iast (n := 36) rfl (k2.2.2 h3).1 dX7_markRing_82 ?_
      refine z_aload_n dX7_markRing_83 rfl 1 rfl ?_
      refine z_getr (ci := 7) (j := 4) (r := 11) (T := TX7) rfl rfl hX7 rfl (by decide) fkX7_18 dX7_markRing_84 ?_
      refine z_iload_n dX7_markRing_87 rfl 3 rfl ?_
      refine z_iload dX7_markRing_88 0 rfl ?_
      refine z_iast (n := 288) rfl (k2.2.2 h3).2.1 dX7_markRing_90 ?_
      refine z_iinc (v := x2 + 1) (lv' := [(2, .int (x2 + 1)), (5, .int r2), (0, .ref 8), (1, .int x1), (3, .int x3), (4, .int x4)]) dX7_markRing_91 3 rfl (by rw [zciconst_1]) (by decide) rfl ?_
      refine z_iinc (v := x4 + 1) (lv' := [(4, .int (x4 + 1)), (2, .int (x2 + 1)), (5, .int r2), (0, .ref 8), (1, .int x1), (3, .int x3)]) dX7_markRing_94 5 rfl (by rw [zciconst_1]) (by decide) rfl ?_
      refine z_goto (tgt := 32) dX7_markRing_97 (by decide) ?_
      refine z_sub [3, 4, 1, 5, 0] rfl ?_
      exact (k2.2.2 h3).2.2
theorem dX7_markRings_0 : decode cX7_markRings 0 = .ok (.iconst 0, 1) := by decide +kernel
theorem dX7_markRings_1 : decode cX7_markRings 1 = .ok (.istore_n 1, 1) := by decide +kernel
theorem dX7_markRings_2 : decode cX7_markRings 2 = .ok (.iload_n 1, 1) := by decide +kernel
theorem dX7_markRings_3 : decode cX7_markRings 3 = .ok (.aload_n 0, 1) := by decide +kernel
theorem dX7_markRings_4 : decode cX7_markRings 4 = .ok (.getfield 25, 3) := by decide +kernel
theorem dX7_markRings_7 : decode cX7_markRings 7 = .ok (.getfield 40, 3) := by decide +kernel
theorem dX7_markRings_10 : decode cX7_markRings 10 = .ok (.if_icmp .ge 17, 3) := by decide +kernel
theorem dX7_markRings_13 : decode cX7_markRings 13 = .ok (.aload_n 0, 1) := by decide +kernel
theorem dX7_markRings_14 : decode cX7_markRings 14 = .ok (.getfield 15, 3) := by decide +kernel
theorem dX7_markRings_17 : decode cX7_markRings 17 = .ok (.iload_n 1, 1) := by decide +kernel
theorem dX7_markRings_18 : decode cX7_markRings 18 = .ok (.bipush (-9), 2) := by decide +kernel
theorem dX7_markRings_20 : decode cX7_markRings 20 = .ok (.iastore, 1) := by decide +kernel
theorem dX7_markRings_21 : decode cX7_markRings 21 = .ok (.iinc 1 1, 3) := by decide +kernel
theorem dX7_markRings_24 : decode cX7_markRings 24 = .ok (.goto (-22), 3) := by decide +kernel
theorem dX7_markRings_27 : decode cX7_markRings 27 = .ok (.iconst 0, 1) := by decide +kernel
theorem dX7_markRings_28 : decode cX7_markRings 28 = .ok (.istore_n 1, 1) := by decide +kernel
theorem dX7_markRings_29 : decode cX7_markRings 29 = .ok (.iload_n 1, 1) := by decide +kernel
theorem dX7_markRings_30 : decode cX7_markRings 30 = .ok (.aload_n 0, 1) := by decide +kernel
theorem dX7_markRings_31 : decode cX7_markRings 31 = .ok (.getfield 25, 3) := by decide +kernel
theorem dX7_markRings_34 : decode cX7_markRings 34 = .ok (.getfield 40, 3) := by decide +kernel
theorem dX7_markRings_37 : decode cX7_markRings 37 = .ok (.if_icmp .ge 25, 3) := by decide +kernel
theorem dX7_markRings_40 : decode cX7_markRings 40 = .ok (.aload_n 0, 1) := by decide +kernel
theorem dX7_markRings_41 : decode cX7_markRings 41 = .ok (.getfield 15, 3) := by decide +kernel
theorem dX7_markRings_44 : decode cX7_markRings 44 = .ok (.iload_n 1, 1) := by decide +kernel
theorem dX7_markRings_45 : decode cX7_markRings 45 = .ok (.iaload, 1) := by decide +kernel
theorem dX7_markRings_46 : decode cX7_markRings 46 = .ok (.bipush (-9), 2) := by decide +kernel
theorem dX7_markRings_48 : decode cX7_markRings 48 = .ok (.if_icmp .ne 8, 3) := by decide +kernel
theorem dX7_markRings_51 : decode cX7_markRings 51 = .ok (.aload_n 0, 1) := by decide +kernel
theorem dX7_markRings_52 : decode cX7_markRings 52 = .ok (.iload_n 1, 1) := by decide +kernel
theorem dX7_markRings_53 : decode cX7_markRings 53 = .ok (.invokevirtual 45, 3) := by decide +kernel
theorem dX7_markRings_56 : decode cX7_markRings 56 = .ok (.iinc 1 1, 3) := by decide +kernel
theorem dX7_markRings_59 : decode cX7_markRings 59 = .ok (.goto (-30), 3) := by decide +kernel
theorem dX7_markRings_62 : decode cX7_markRings 62 = .ok (.return_, 1) := by decide +kernel
theorem bX7_markRings_0 (mem : zm_Mem) (post : zm_Post) (kk : zm_Z gX7_markRings post 2 [(0, .ref 8), (1, .int 0)] [] mem) : zm_Call gX7_markRings [.ref 8] mem post := by
  refine z_entry (by decide) (Nat.le_of_ble_eq_true rfl) ?_
  show zm_Z gX7_markRings post 0 [(0, .ref 8)] [] mem
  refine z_iconst (v := 0) dX7_markRings_0 zciconst_0 ?_
  refine z_istore_n (lv' := [(1, .int 0), (0, .ref 8)]) dX7_markRings_1 rfl (by decide) rfl ?_
  refine z_sub [1, 0] rfl ?_
  exact kk
theorem bX7_markRings_2 (x1 : Int32) (mem : zm_Mem) (post : zm_Post) (kk : (((mem 1 2) ≤ x1 → zm_Z gX7_markRings post 29 [(0, .ref 8), (1, .int 0)] [] mem) ∧ (¬ (mem 1 2) ≤ x1 → (vp_in x1 36 ∧ zm_Z gX7_markRings post 2 [(0, .ref 8), (1, .int (x1 + 1))] [] (zm_st mem 10 (Int32.toNatClampNeg x1) (-9)))))) : zm_Z gX7_markRings post 2 [(0, .ref 8), (1, .int x1)] [] mem := by
  refine z_iload_n dX7_markRings_2 rfl 1 rfl ?_
  refine z_aload_n dX7_markRings_3 rfl 0 rfl ?_
  refine z_getr (ci := 7) (j := 0) (r := 1) (T := TX7) rfl rfl hX7 rfl (by decide) fkX7_25 dX7_markRings_4 ?_
  refine z_getiN (ci := 1) (j := 2) (T := TX1) rfl rfl hX1 rfl (by decide) fkX7_40 dX7_markRings_7 ?_
  refine z_icmp_ge (tgt := 27) dX7_markRings_10 (by decide) (fun h1 => ?_) (fun h1 => ?_)
  ·
    refine z_iconst (v := 0) dX7_markRings_27 zciconst_0 ?_
    refine z_istore_n (lv' := [(1, .int 0), (0, .ref 8)]) dX7_markRings_28 rfl (by decide) rfl ?_
    refine z_sub [1, 0] rfl ?_
    exact (kk.1 h1)
  ·
    refine z_aload_n dX7_markRings_13 rfl 0 rfl ?_
    refine z_getr (ci := 7) (j := 3) (r := 10) (T := TX7) rfl rfl hX7 rfl (by decide) fkX7_15 dX7_markRings_14 ?_
    refine z_iload_n dX7_markRings_17 rfl 1 rfl ?_
    refine z_bipush (v := (-9)) dX7_markRings_18 zcbipush_m9 ?_
    refine z_iast (n := 36) rfl (kk.2 h1).1 dX7_markRings_20 ?_
    refine z_iinc (v := x1 + 1) (lv' := [(1, .int (x1 + 1)), (0, .ref 8)]) dX7_markRings_21 1 rfl (by rw [zciconst_1]) (by decide) rfl ?_
    refine z_goto (tgt := 2) dX7_markRings_24 (by decide) ?_
    refine z_sub [1, 0] rfl ?_
    exact (kk.2 h1).2
theorem bX7_markRings_29 (x1 : Int32) (mem : zm_Mem) (post : zm_Post) (kk : (((mem 1 2) ≤ x1 → post 0 0 mem) ∧ (¬ (mem 1 2) ≤ x1 → (vp_in x1 36 ∧ ((¬ (mem 10 (Int32.toNatClampNeg x1)) = (-9) → zm_Z gX7_markRings post 29 [(0, .ref 8), (1, .int (x1 + 1))] [] mem) ∧ ((mem 10 (Int32.toNatClampNeg x1)) = (-9) → zm_Call gX7_markRing [.ref 8, .int x1] mem (fun r3 w3 u3 => zm_Z gX7_markRings post 29 [(0, .ref 8), (1, .int (x1 + 1))] [] u3))))))) : zm_Z gX7_markRings post 29 [(0, .ref 8), (1, .int x1)] [] mem := by
  refine z_iload_n dX7_markRings_29 rfl 1 rfl ?_
  refine z_aload_n dX7_markRings_30 rfl 0 rfl ?_
  refine z_getr (ci := 7) (j := 0) (r := 1) (T := TX7) rfl rfl hX7 rfl (by decide) fkX7_25 dX7_markRings_31 ?_
  refine z_getiN (ci := 1) (j := 2) (T := TX1) rfl rfl hX1 rfl (by decide) fkX7_40 dX7_markRings_34 ?_
  refine z_icmp_ge (tgt := 62) dX7_markRings_37 (by decide) (fun h1 => ?_) (fun h1 => ?_)
  ·
    exact z_vret rfl dX7_markRings_62 (kk.1 h1)
  ·
    refine z_aload_n dX7_markRings_40 rfl 0 rfl ?_
    refine z_getr (ci := 7) (j := 3) (r := 10) (T := TX7) rfl rfl hX7 rfl (by decide) fkX7_15 dX7_markRings_41 ?_
    refine z_iload_n dX7_markRings_44 rfl 1 rfl ?_
    refine z_iald (n := 36) rfl (kk.2 h1).1 dX7_markRings_45 ?_
    refine z_bipush (v := (-9)) dX7_markRings_46 zcbipush_m9 ?_
    refine z_icmp_ne (tgt := 56) dX7_markRings_48 (by decide) (fun h2 => ?_) (fun h2 => ?_)
    ·
      refine z_iinc (v := x1 + 1) (lv' := [(1, .int (x1 + 1)), (0, .ref 8)]) dX7_markRings_56 1 rfl (by rw [zciconst_1]) (by decide) rfl ?_
      refine z_goto (tgt := 29) dX7_markRings_59 (by decide) ?_
      refine z_sub [1, 0] rfl ?_
      exact ((kk.2 h1).2.1 h2)
    ·
      refine z_aload_n dX7_markRings_51 rfl 0 rfl ?_
      refine z_iload_n dX7_markRings_52 rfl 1 rfl ?_
      refine z_callVv (g' := gX7_markRing) [.int x1] (q := 8) (ci := 7) (T := TX7) rfl rfl ⟨lkX7_45, pdX7_markRing, by decide, by decide⟩ rfl rfl (Nat.le_of_ble_eq_true rfl) dX7_markRings_53 (zm_Call.mono ((kk.2 h1).2.2 h2) (fun r3 w3 u3 k3 => ?_))
      refine z_iinc (v := x1 + 1) (lv' := [(1, .int (x1 + 1)), (0, .ref 8)]) dX7_markRings_56 1 rfl (by rw [zciconst_1]) (by decide) rfl ?_
      refine z_goto (tgt := 29) dX7_markRings_59 (by decide) ?_
      refine z_sub [1, 0] rfl ?_
      exact k3
theorem dX7_forget_0 : decode cX7_forget 0 = .ok (.aload_n 0, 1) := by decide +kernel
theorem dX7_forget_1 : decode cX7_forget 1 = .ok (.iconst 0, 1) := by decide +kernel
theorem dX7_forget_2 : decode cX7_forget 2 = .ok (.putfield 33, 3) := by decide +kernel
theorem dX7_forget_5 : decode cX7_forget 5 = .ok (.aload_n 0, 1) := by decide +kernel
theorem dX7_forget_6 : decode cX7_forget 6 = .ok (.invokevirtual 37, 3) := by decide +kernel
theorem dX7_forget_9 : decode cX7_forget 9 = .ok (.return_, 1) := by decide +kernel
theorem bX7_forget_0 (mem : zm_Mem) (post : zm_Post) (kk : zm_Call gX7_markRings [.ref 8] (zm_st mem 8 6 0) (fun r1 w1 u1 => post 0 0 u1)) : zm_Call gX7_forget [.ref 8] mem post := by
  refine z_entry (by decide) (Nat.le_of_ble_eq_true rfl) ?_
  show zm_Z gX7_forget post 0 [(0, .ref 8)] [] mem
  refine z_aload_n dX7_forget_0 rfl 0 rfl ?_
  refine z_iconst (v := 0) dX7_forget_1 zciconst_0 ?_
  refine z_put (ci := 7) (j := 6) (T := TX7) (ty0 := tyX7) rfl rfl hX7 tyX7_ok nmX7 rfl (by decide) fkX7_33 rfl rfl rfl dX7_forget_2 ?_
  refine z_aload_n dX7_forget_5 rfl 0 rfl ?_
  refine z_callVv (g' := gX7_markRings) [] (q := 8) (ci := 7) (T := TX7) rfl rfl ⟨lkX7_37, pdX7_markRings, by decide, by decide⟩ rfl rfl (Nat.le_of_ble_eq_true rfl) dX7_forget_6 (zm_Call.mono kk (fun r1 w1 u1 k1 => ?_))
  exact z_vret rfl dX7_forget_9 k1
theorem dX7_add_0 : decode cX7_add 0 = .ok (.aload_n 0, 1) := by decide +kernel
theorem dX7_add_1 : decode cX7_add 1 = .ok (.getfield 9, 3) := by decide +kernel
theorem dX7_add_4 : decode cX7_add 4 = .ok (.aload_n 0, 1) := by decide +kernel
theorem dX7_add_5 : decode cX7_add 5 = .ok (.getfield 33, 3) := by decide +kernel
theorem dX7_add_8 : decode cX7_add 8 = .ok (.iload_n 1, 1) := by decide +kernel
theorem dX7_add_9 : decode cX7_add 9 = .ok (.iastore, 1) := by decide +kernel
theorem dX7_add_10 : decode cX7_add 10 = .ok (.aload_n 0, 1) := by decide +kernel
theorem dX7_add_11 : decode cX7_add 11 = .ok (.dup, 1) := by decide +kernel
theorem dX7_add_12 : decode cX7_add 12 = .ok (.getfield 33, 3) := by decide +kernel
theorem dX7_add_15 : decode cX7_add 15 = .ok (.iconst 1, 1) := by decide +kernel
theorem dX7_add_16 : decode cX7_add 16 = .ok (.iadd, 1) := by decide +kernel
theorem dX7_add_17 : decode cX7_add 17 = .ok (.putfield 33, 3) := by decide +kernel
theorem dX7_add_20 : decode cX7_add 20 = .ok (.aload_n 0, 1) := by decide +kernel
theorem dX7_add_21 : decode cX7_add 21 = .ok (.invokevirtual 37, 3) := by decide +kernel
theorem dX7_add_24 : decode cX7_add 24 = .ok (.return_, 1) := by decide +kernel
theorem bX7_add_0 (x1 : Int32) (mem : zm_Mem) (post : zm_Post) (kk : (vp_in (mem 8 6) 4 ∧ zm_Call gX7_markRings [.ref 8] (zm_st (zm_st mem 9 (Int32.toNatClampNeg (mem 8 6)) x1) 8 6 (((zm_st mem 9 (Int32.toNatClampNeg (mem 8 6)) x1) 8 6) + 1)) (fun r1 w1 u1 => post 0 0 u1))) : zm_Call gX7_add [.ref 8, .int x1] mem post := by
  refine z_entry (by decide) (Nat.le_of_ble_eq_true rfl) ?_
  show zm_Z gX7_add post 0 [(0, .ref 8), (1, .int x1)] [] mem
  refine z_aload_n dX7_add_0 rfl 0 rfl ?_
  refine z_getr (ci := 7) (j := 2) (r := 9) (T := TX7) rfl rfl hX7 rfl (by decide) fkX7_9 dX7_add_1 ?_
  refine z_aload_n dX7_add_4 rfl 0 rfl ?_
  refine z_geti (ci := 7) (j := 6) (T := TX7) rfl rfl hX7 rfl (by decide) fkX7_33 dX7_add_5 ?_
  refine z_iload_n dX7_add_8 rfl 1 rfl ?_
  refine z_iast (n := 4) rfl kk.1 dX7_add_9 ?_
  refine z_aload_n dX7_add_10 rfl 0 rfl ?_
  refine z_dupr dX7_add_11 ?_
  refine z_geti (ci := 7) (j := 6) (T := TX7) rfl rfl hX7 rfl (by decide) fkX7_33 dX7_add_12 ?_
  refine z_iconst (v := 1) dX7_add_15 zciconst_1 ?_
  refine z_iadd dX7_add_16 ?_
  refine z_put (ci := 7) (j := 6) (T := TX7) (ty0 := tyX7) rfl rfl hX7 tyX7_ok nmX7 rfl (by decide) fkX7_33 rfl rfl rfl dX7_add_17 ?_
  refine z_aload_n dX7_add_20 rfl 0 rfl ?_
  refine z_callVv (g' := gX7_markRings) [] (q := 8) (ci := 7) (T := TX7) rfl rfl ⟨lkX7_37, pdX7_markRings, by decide, by decide⟩ rfl rfl (Nat.le_of_ble_eq_true rfl) dX7_add_21 (zm_Call.mono kk.2 (fun r1 w1 u1 k1 => ?_))
  exact z_vret rfl dX7_add_24 k1
theorem dX7_movesMade_0 : decode cX7_movesMade 0 = .ok (.iconst 0, 1) := by decide +kernel
theorem dX7_movesMade_1 : decode cX7_movesMade 1 = .ok (.istore_n 1, 1) := by decide +kernel
theorem dX7_movesMade_2 : decode cX7_movesMade 2 = .ok (.iload_n 1, 1) := by decide +kernel
theorem dX7_movesMade_3 : decode cX7_movesMade 3 = .ok (.sipush 288, 3) := by decide +kernel
theorem dX7_movesMade_6 : decode cX7_movesMade 6 = .ok (.if_icmp .ge 16, 3) := by decide +kernel
theorem dX7_movesMade_9 : decode cX7_movesMade 9 = .ok (.aload_n 0, 1) := by decide +kernel
theorem dX7_movesMade_10 : decode cX7_movesMade 10 = .ok (.getfield 21, 3) := by decide +kernel
theorem dX7_movesMade_13 : decode cX7_movesMade 13 = .ok (.iload_n 1, 1) := by decide +kernel
theorem dX7_movesMade_14 : decode cX7_movesMade 14 = .ok (.iconst 0, 1) := by decide +kernel
theorem dX7_movesMade_15 : decode cX7_movesMade 15 = .ok (.bastore, 1) := by decide +kernel
theorem dX7_movesMade_16 : decode cX7_movesMade 16 = .ok (.iinc 1 1, 3) := by decide +kernel
theorem dX7_movesMade_19 : decode cX7_movesMade 19 = .ok (.goto (-17), 3) := by decide +kernel
theorem dX7_movesMade_22 : decode cX7_movesMade 22 = .ok (.aload_n 0, 1) := by decide +kernel
theorem dX7_movesMade_23 : decode cX7_movesMade 23 = .ok (.getfield 21, 3) := by decide +kernel
theorem dX7_movesMade_26 : decode cX7_movesMade 26 = .ok (.iconst 0, 1) := by decide +kernel
theorem dX7_movesMade_27 : decode cX7_movesMade 27 = .ok (.iconst 1, 1) := by decide +kernel
theorem dX7_movesMade_28 : decode cX7_movesMade 28 = .ok (.bastore, 1) := by decide +kernel
theorem dX7_movesMade_29 : decode cX7_movesMade 29 = .ok (.aload_n 0, 1) := by decide +kernel
theorem dX7_movesMade_30 : decode cX7_movesMade 30 = .ok (.getfield 18, 3) := by decide +kernel
theorem dX7_movesMade_33 : decode cX7_movesMade 33 = .ok (.iconst 0, 1) := by decide +kernel
theorem dX7_movesMade_34 : decode cX7_movesMade 34 = .ok (.iconst 0, 1) := by decide +kernel
theorem dX7_movesMade_35 : decode cX7_movesMade 35 = .ok (.iastore, 1) := by decide +kernel
theorem dX7_movesMade_36 : decode cX7_movesMade 36 = .ok (.iconst 1, 1) := by decide +kernel
theorem dX7_movesMade_37 : decode cX7_movesMade 37 = .ok (.istore_n 1, 1) := by decide +kernel
theorem dX7_movesMade_38 : decode cX7_movesMade 38 = .ok (.iconst 0, 1) := by decide +kernel
theorem dX7_movesMade_39 : decode cX7_movesMade 39 = .ok (.istore_n 2, 1) := by decide +kernel
theorem dX7_movesMade_40 : decode cX7_movesMade 40 = .ok (.iload_n 2, 1) := by decide +kernel
theorem dX7_movesMade_41 : decode cX7_movesMade 41 = .ok (.iload_n 1, 1) := by decide +kernel
theorem dX7_movesMade_42 : decode cX7_movesMade 42 = .ok (.if_icmp .ge 82, 3) := by decide +kernel
theorem dX7_movesMade_45 : decode cX7_movesMade 45 = .ok (.iload_n 2, 1) := by decide +kernel
theorem dX7_movesMade_46 : decode cX7_movesMade 46 = .ok (.sipush 288, 3) := by decide +kernel
theorem dX7_movesMade_49 : decode cX7_movesMade 49 = .ok (.if_icmp .ge 75, 3) := by decide +kernel
theorem dX7_movesMade_52 : decode cX7_movesMade 52 = .ok (.iconst 0, 1) := by decide +kernel
theorem dX7_movesMade_53 : decode cX7_movesMade 53 = .ok (.istore_n 3, 1) := by decide +kernel
theorem dX7_movesMade_54 : decode cX7_movesMade 54 = .ok (.iload_n 3, 1) := by decide +kernel
theorem dX7_movesMade_55 : decode cX7_movesMade 55 = .ok (.aload_n 0, 1) := by decide +kernel
theorem dX7_movesMade_56 : decode cX7_movesMade 56 = .ok (.getfield 33, 3) := by decide +kernel
theorem dX7_movesMade_59 : decode cX7_movesMade 59 = .ok (.if_icmp .ge 59, 3) := by decide +kernel
theorem dX7_movesMade_62 : decode cX7_movesMade 62 = .ok (.aload_n 0, 1) := by decide +kernel
theorem dX7_movesMade_63 : decode cX7_movesMade 63 = .ok (.getfield 25, 3) := by decide +kernel
theorem dX7_movesMade_66 : decode cX7_movesMade 66 = .ok (.aload_n 0, 1) := by decide +kernel
theorem dX7_movesMade_67 : decode cX7_movesMade 67 = .ok (.getfield 18, 3) := by decide +kernel
theorem dX7_movesMade_70 : decode cX7_movesMade 70 = .ok (.iload_n 2, 1) := by decide +kernel
theorem dX7_movesMade_71 : decode cX7_movesMade 71 = .ok (.iaload, 1) := by decide +kernel
theorem dX7_movesMade_72 : decode cX7_movesMade 72 = .ok (.aload_n 0, 1) := by decide +kernel
theorem dX7_movesMade_73 : decode cX7_movesMade 73 = .ok (.getfield 9, 3) := by decide +kernel
theorem dX7_movesMade_76 : decode cX7_movesMade 76 = .ok (.iload_n 3, 1) := by decide +kernel
theorem dX7_movesMade_77 : decode cX7_movesMade 77 = .ok (.iaload, 1) := by decide +kernel
theorem dX7_movesMade_78 : decode cX7_movesMade 78 = .ok (.invokevirtual 53, 3) := by decide +kernel
theorem dX7_movesMade_81 : decode cX7_movesMade 81 = .ok (.istore 4, 2) := by decide +kernel
theorem dX7_movesMade_83 : decode cX7_movesMade 83 = .ok (.aload_n 0, 1) := by decide +kernel
theorem dX7_movesMade_84 : decode cX7_movesMade 84 = .ok (.getfield 21, 3) := by decide +kernel
theorem dX7_movesMade_87 : decode cX7_movesMade 87 = .ok (.iload 4, 2) := by decide +kernel
theorem dX7_movesMade_89 : decode cX7_movesMade 89 = .ok (.baload, 1) := by decide +kernel
theorem dX7_movesMade_90 : decode cX7_movesMade 90 = .ok (.ifCond .ne 22, 3) := by decide +kernel
theorem dX7_movesMade_93 : decode cX7_movesMade 93 = .ok (.aload_n 0, 1) := by decide +kernel
theorem dX7_movesMade_94 : decode cX7_movesMade 94 = .ok (.getfield 21, 3) := by decide +kernel
theorem dX7_movesMade_97 : decode cX7_movesMade 97 = .ok (.iload 4, 2) := by decide +kernel
theorem dX7_movesMade_99 : decode cX7_movesMade 99 = .ok (.iconst 1, 1) := by decide +kernel
theorem dX7_movesMade_100 : decode cX7_movesMade 100 = .ok (.bastore, 1) := by decide +kernel
theorem dX7_movesMade_101 : decode cX7_movesMade 101 = .ok (.aload_n 0, 1) := by decide +kernel
theorem dX7_movesMade_102 : decode cX7_movesMade 102 = .ok (.getfield 18, 3) := by decide +kernel
theorem dX7_movesMade_105 : decode cX7_movesMade 105 = .ok (.iload_n 1, 1) := by decide +kernel
theorem dX7_movesMade_106 : decode cX7_movesMade 106 = .ok (.iload 4, 2) := by decide +kernel
theorem dX7_movesMade_108 : decode cX7_movesMade 108 = .ok (.iastore, 1) := by decide +kernel
theorem dX7_movesMade_109 : decode cX7_movesMade 109 = .ok (.iinc 1 1, 3) := by decide +kernel
theorem dX7_movesMade_112 : decode cX7_movesMade 112 = .ok (.iinc 3 1, 3) := by decide +kernel
theorem dX7_movesMade_115 : decode cX7_movesMade 115 = .ok (.goto (-61), 3) := by decide +kernel
theorem dX7_movesMade_118 : decode cX7_movesMade 118 = .ok (.iinc 2 1, 3) := by decide +kernel
theorem dX7_movesMade_121 : decode cX7_movesMade 121 = .ok (.goto (-81), 3) := by decide +kernel
theorem dX7_movesMade_124 : decode cX7_movesMade 124 = .ok (.iload_n 1, 1) := by decide +kernel
theorem dX7_movesMade_125 : decode cX7_movesMade 125 = .ok (.ireturn, 1) := by decide +kernel
theorem bX7_movesMade_0 (mem : zm_Mem) (post : zm_Post) (kk : zm_Z gX7_movesMade post 2 [(0, .ref 8), (1, .int 0)] [] mem) : zm_Call gX7_movesMade [.ref 8] mem post := by
  refine z_entry (by decide) (Nat.le_of_ble_eq_true rfl) ?_
  show zm_Z gX7_movesMade post 0 [(0, .ref 8)] [] mem
  refine z_iconst (v := 0) dX7_movesMade_0 zciconst_0 ?_
  refine z_istore_n (lv' := [(1, .int 0), (0, .ref 8)]) dX7_movesMade_1 rfl (by decide) rfl ?_
  refine z_sub [1, 0] rfl ?_
  exact kk
theorem bX7_movesMade_2 (x1 : Int32) (mem : zm_Mem) (post : zm_Post) (kk : ((288 ≤ x1 → (vp_in 0 288 ∧ (vp_in 0 288 ∧ zm_Z gX7_movesMade post 40 [(0, .ref 8), (1, .int 1), (2, .int 0)] [] (zm_st (zm_st mem 12 (Int32.toNatClampNeg 0) 1) 11 (Int32.toNatClampNeg 0) 0)))) ∧ (¬ 288 ≤ x1 → (vp_in x1 288 ∧ zm_Z gX7_movesMade post 2 [(0, .ref 8), (1, .int (x1 + 1))] [] (zm_st mem 12 (Int32.toNatClampNeg x1) 0))))) : zm_Z gX7_movesMade post 2 [(0, .ref 8), (1, .int x1)] [] mem := by
  refine z_iload_n dX7_movesMade_2 rfl 1 rfl ?_
  refine z_sipush (v := 288) dX7_movesMade_3 zcsipush_288 ?_
  refine z_icmp_ge (tgt := 22) dX7_movesMade_6 (by decide) (fun h1 => ?_) (fun h1 => ?_)
  ·
    refine z_aload_n dX7_movesMade_22 rfl 0 rfl ?_
    refine z_getr (ci := 7) (j := 5) (r := 12) (T := TX7) rfl rfl hX7 rfl (by decide) fkX7_21 dX7_movesMade_23 ?_
    refine z_iconst (v := 0) dX7_movesMade_26 zciconst_0 ?_
    refine z_iconst (v := 1) dX7_movesMade_27 zciconst_1 ?_
    refine z_bast (n := 288) rfl (kk.1 h1).1 (by decide) dX7_movesMade_28 ?_
    refine z_aload_n dX7_movesMade_29 rfl 0 rfl ?_
    refine z_getr (ci := 7) (j := 4) (r := 11) (T := TX7) rfl rfl hX7 rfl (by decide) fkX7_18 dX7_movesMade_30 ?_
    refine z_iconst (v := 0) dX7_movesMade_33 zciconst_0 ?_
    refine z_iconst (v := 0) dX7_movesMade_34 zciconst_0 ?_
    refine z_iast (n := 288) rfl (kk.1 h1).2.1 dX7_movesMade_35 ?_
    refine z_iconst (v := 1) dX7_movesMade_36 zciconst_1 ?_
    refine z_istore_n (lv' := [(1, .int 1), (0, .ref 8)]) dX7_movesMade_37 rfl (by decide) rfl ?_
    refine z_iconst (v := 0) dX7_movesMade_38 zciconst_0 ?_
    refine z_istore_n (lv' := [(2, .int 0), (1, .int 1), (0, .ref 8)]) dX7_movesMade_39 rfl (by decide) rfl ?_
    refine z_sub [2, 1, 0] rfl ?_
    exact (kk.1 h1).2.2
  ·
    refine z_aload_n dX7_movesMade_9 rfl 0 rfl ?_
    refine z_getr (ci := 7) (j := 5) (r := 12) (T := TX7) rfl rfl hX7 rfl (by decide) fkX7_21 dX7_movesMade_10 ?_
    refine z_iload_n dX7_movesMade_13 rfl 1 rfl ?_
    refine z_iconst (v := 0) dX7_movesMade_14 zciconst_0 ?_
    refine z_bast (n := 288) rfl (kk.2 h1).1 (by decide) dX7_movesMade_15 ?_
    refine z_iinc (v := x1 + 1) (lv' := [(1, .int (x1 + 1)), (0, .ref 8)]) dX7_movesMade_16 1 rfl (by rw [zciconst_1]) (by decide) rfl ?_
    refine z_goto (tgt := 2) dX7_movesMade_19 (by decide) ?_
    refine z_sub [1, 0] rfl ?_
    exact (kk.2 h1).2
theorem bX7_movesMade_40 (x1 : Int32) (x2 : Int32) (mem : zm_Mem) (post : zm_Post) (kk : ((x1 ≤ x2 → post x1 0 mem) ∧ (¬ x1 ≤ x2 → ((288 ≤ x2 → post x1 0 mem) ∧ (¬ 288 ≤ x2 → zm_Z gX7_movesMade post 54 [(0, .ref 8), (1, .int x1), (2, .int x2), (3, .int 0)] [] mem))))) : zm_Z gX7_movesMade post 40 [(0, .ref 8), (1, .int x1), (2, .int x2)] [] mem := by
  refine z_iload_n dX7_movesMade_40 rfl 2 rfl ?_
  refine z_iload_n dX7_movesMade_41 rfl 1 rfl ?_
  refine z_icmp_ge (tgt := 124) dX7_movesMade_42 (by decide) (fun h1 => ?_) (fun h1 => ?_)
  ·
    refine z_iload_n dX7_movesMade_124 rfl 1 rfl ?_
    exact z_iret rfl dX7_movesMade_125 (kk.1 h1)
  ·
    refine z_iload_n dX7_movesMade_45 rfl 2 rfl ?_
    refine z_sipush (v := 288) dX7_movesMade_46 zcsipush_288 ?_
    refine z_icmp_ge (tgt := 124) dX7_movesMade_49 (by decide) (fun h2 => ?_) (fun h2 => ?_)
    ·
      refine z_iload_n dX7_movesMade_124 rfl 1 rfl ?_
      exact z_iret rfl dX7_movesMade_125 ((kk.2 h1).1 h2)
    ·
      refine z_iconst (v := 0) dX7_movesMade_52 zciconst_0 ?_
      refine z_istore_n (lv' := [(3, .int 0), (0, .ref 8), (1, .int x1), (2, .int x2)]) dX7_movesMade_53 rfl (by decide) rfl ?_
      refine z_sub [1, 2, 3, 0] rfl ?_
      exact ((kk.2 h1).2 h2)
theorem bX7_movesMade_54 (x1 : Int32) (x2 : Int32) (x3 : Int32) (mem : zm_Mem) (post : zm_Post) (kk : (((mem 8 6) ≤ x3 → zm_Z gX7_movesMade post 40 [(0, .ref 8), (1, .int x1), (2, .int (x2 + 1))] [] mem) ∧ (¬ (mem 8 6) ≤ x3 → (vp_in x2 288 ∧ (vp_in x3 4 ∧ zm_Call gX1_join [.ref 1, .int (mem 11 (Int32.toNatClampNeg x2)), .int (mem 9 (Int32.toNatClampNeg x3))] mem (fun r2 w2 u2 => (vp_in r2 288 ∧ ((¬ (u2 12 (Int32.toNatClampNeg r2)) = 0 → zm_Z gX7_movesMade post 54 [(0, .ref 8), (1, .int x1), (2, .int x2), (3, .int (x3 + 1))] [] u2) ∧ ((u2 12 (Int32.toNatClampNeg r2)) = 0 → (vp_in r2 288 ∧ (vp_in x1 288 ∧ zm_Z gX7_movesMade post 54 [(0, .ref 8), (1, .int (x1 + 1)), (2, .int x2), (3, .int (x3 + 1))] [] (zm_st (zm_st u2 12 (Int32.toNatClampNeg r2) 1) 11 (Int32.toNatClampNeg x1) r2)))))))))))) : zm_Z gX7_movesMade post 54 [(0, .ref 8), (1, .int x1), (2, .int x2), (3, .int x3)] [] mem := by
  refine z_iload_n dX7_movesMade_54 rfl 3 rfl ?_
  refine z_aload_n dX7_movesMade_55 rfl 0 rfl ?_
  refine z_geti (ci := 7) (j := 6) (T := TX7) rfl rfl hX7 rfl (by decide) fkX7_33 dX7_movesMade_56 ?_
  refine z_icmp_ge (tgt := 118) dX7_movesMade_59 (by decide) (fun h1 => ?_) (fun h1 => ?_)
  ·
    refine z_iinc (v := x2 + 1) (lv' := [(2, .int (x2 + 1)), (0, .ref 8), (1, .int x1), (3, .int x3)]) dX7_movesMade_118 2 rfl (by rw [zciconst_1]) (by decide) rfl ?_
    refine z_goto (tgt := 40) dX7_movesMade_121 (by decide) ?_
    refine z_sub [1, 2, 0] rfl ?_
    exact (kk.1 h1)
  ·
    refine z_aload_n dX7_movesMade_62 rfl 0 rfl ?_
    refine z_getr (ci := 7) (j := 0) (r := 1) (T := TX7) rfl rfl hX7 rfl (by decide) fkX7_25 dX7_movesMade_63 ?_
    refine z_aload_n dX7_movesMade_66 rfl 0 rfl ?_
    refine z_getr (ci := 7) (j := 4) (r := 11) (T := TX7) rfl rfl hX7 rfl (by decide) fkX7_18 dX7_movesMade_67 ?_
    refine z_iload_n dX7_movesMade_70 rfl 2 rfl ?_
    refine z_iald (n := 288) rfl (kk.2 h1).1 dX7_movesMade_71 ?_
    refine z_aload_n dX7_movesMade_72 rfl 0 rfl ?_
    refine z_getr (ci := 7) (j := 2) (r := 9) (T := TX7) rfl rfl hX7 rfl (by decide) fkX7_9 dX7_movesMade_73 ?_
    refine z_iload_n dX7_movesMade_76 rfl 3 rfl ?_
    refine z_iald (n := 4) rfl (kk.2 h1).2.1 dX7_movesMade_77 ?_
    refine z_callVi (g' := gX1_join) [.int (mem 11 (Int32.toNatClampNeg x2)), .int (mem 9 (Int32.toNatClampNeg x3))] (q := 1) (ci := 1) (T := TX1) rfl rfl ⟨lkX7_53, pdX1_join, by decide, by decide⟩ ⟨_, rfl, by decide⟩ rfl (Nat.le_of_ble_eq_true rfl) dX7_movesMade_78 (zm_Call.mono (kk.2 h1).2.2 (fun r2 w2 u2 k2 => ?_))
    refine z_istore (lv' := [(4, .int r2), (0, .ref 8), (1, .int x1), (2, .int x2), (3, .int x3)]) dX7_movesMade_81 (by decide) rfl ?_
    refine z_aload_n dX7_movesMade_83 rfl 1 rfl ?_
    refine z_getr (ci := 7) (j := 5) (r := 12) (T := TX7) rfl rfl hX7 rfl (by decide) fkX7_21 dX7_movesMade_84 ?_
    refine z_iload dX7_movesMade_87 0 rfl ?_
    refine z_bald (n := 288) rfl k2.1 dX7_movesMade_89 ?_
    refine z_if_ne (tgt := 112) dX7_movesMade_90 (by decide) (fun h3 => ?_) (fun h3 => ?_)
    ·
      refine z_iinc (v := x3 + 1) (lv' := [(3, .int (x3 + 1)), (4, .int r2), (0, .ref 8), (1, .int x1), (2, .int x2)]) dX7_movesMade_112 4 rfl (by rw [zciconst_1]) (by decide) rfl ?_
      refine z_goto (tgt := 54) dX7_movesMade_115 (by decide) ?_
      refine z_sub [2, 3, 4, 0] rfl ?_
      exact (k2.2.1 h3)
    ·
      refine z_aload_n dX7_movesMade_93 rfl 1 rfl ?_
      refine z_getr (ci := 7) (j := 5) (r := 12) (T := TX7) rfl rfl hX7 rfl (by decide) fkX7_21 dX7_movesMade_94 ?_
      refine z_iload dX7_movesMade_97 0 rfl ?_
      refine z_iconst (v := 1) dX7_movesMade_99 zciconst_1 ?_
      refine z_bast (n := 288) rfl (k2.2.2 h3).1 (by decide) dX7_movesMade_100 ?_
      refine z_aload_n dX7_movesMade_101 rfl 1 rfl ?_
      refine z_getr (ci := 7) (j := 4) (r := 11) (T := TX7) rfl rfl hX7 rfl (by decide) fkX7_18 dX7_movesMade_102 ?_
      refine z_iload_n dX7_movesMade_105 rfl 2 rfl ?_
      refine z_iload dX7_movesMade_106 0 rfl ?_
      refine z_iast (n := 288) rfl (k2.2.2 h3).2.1 dX7_movesMade_108 ?_
      refine z_iinc (v := x1 + 1) (lv' := [(1, .int (x1 + 1)), (4, .int r2), (0, .ref 8), (2, .int x2), (3, .int x3)]) dX7_movesMade_109 2 rfl (by rw [zciconst_1]) (by decide) rfl ?_
      refine z_iinc (v := x3 + 1) (lv' := [(3, .int (x3 + 1)), (1, .int (x1 + 1)), (4, .int r2), (0, .ref 8), (2, .int x2)]) dX7_movesMade_112 4 rfl (by rw [zciconst_1]) (by decide) rfl ?_
      refine z_goto (tgt := 54) dX7_movesMade_115 (by decide) ?_
      refine z_sub [3, 1, 4, 0] rfl ?_
      exact (k2.2.2 h3).2.2
theorem dX7_ringCount_0 : decode cX7_ringCount 0 = .ok (.iconst 0, 1) := by decide +kernel
theorem dX7_ringCount_1 : decode cX7_ringCount 1 = .ok (.istore_n 1, 1) := by decide +kernel
theorem dX7_ringCount_2 : decode cX7_ringCount 2 = .ok (.iconst 0, 1) := by decide +kernel
theorem dX7_ringCount_3 : decode cX7_ringCount 3 = .ok (.istore_n 2, 1) := by decide +kernel
theorem dX7_ringCount_4 : decode cX7_ringCount 4 = .ok (.iload_n 2, 1) := by decide +kernel
theorem dX7_ringCount_5 : decode cX7_ringCount 5 = .ok (.aload_n 0, 1) := by decide +kernel
theorem dX7_ringCount_6 : decode cX7_ringCount 6 = .ok (.getfield 25, 3) := by decide +kernel
theorem dX7_ringCount_9 : decode cX7_ringCount 9 = .ok (.getfield 40, 3) := by decide +kernel
theorem dX7_ringCount_12 : decode cX7_ringCount 12 = .ok (.if_icmp .ge 22, 3) := by decide +kernel
theorem dX7_ringCount_15 : decode cX7_ringCount 15 = .ok (.aload_n 0, 1) := by decide +kernel
theorem dX7_ringCount_16 : decode cX7_ringCount 16 = .ok (.getfield 15, 3) := by decide +kernel
theorem dX7_ringCount_19 : decode cX7_ringCount 19 = .ok (.iload_n 2, 1) := by decide +kernel
theorem dX7_ringCount_20 : decode cX7_ringCount 20 = .ok (.iaload, 1) := by decide +kernel
theorem dX7_ringCount_21 : decode cX7_ringCount 21 = .ok (.iload_n 2, 1) := by decide +kernel
theorem dX7_ringCount_22 : decode cX7_ringCount 22 = .ok (.if_icmp .ne 6, 3) := by decide +kernel
theorem dX7_ringCount_25 : decode cX7_ringCount 25 = .ok (.iinc 1 1, 3) := by decide +kernel
theorem dX7_ringCount_28 : decode cX7_ringCount 28 = .ok (.iinc 2 1, 3) := by decide +kernel
theorem dX7_ringCount_31 : decode cX7_ringCount 31 = .ok (.goto (-27), 3) := by decide +kernel
theorem dX7_ringCount_34 : decode cX7_ringCount 34 = .ok (.iload_n 1, 1) := by decide +kernel
theorem dX7_ringCount_35 : decode cX7_ringCount 35 = .ok (.ireturn, 1) := by decide +kernel
theorem bX7_ringCount_0 (mem : zm_Mem) (post : zm_Post) (kk : zm_Z gX7_ringCount post 4 [(0, .ref 8), (1, .int 0), (2, .int 0)] [] mem) : zm_Call gX7_ringCount [.ref 8] mem post := by
  refine z_entry (by decide) (Nat.le_of_ble_eq_true rfl) ?_
  show zm_Z gX7_ringCount post 0 [(0, .ref 8)] [] mem
  refine z_iconst (v := 0) dX7_ringCount_0 zciconst_0 ?_
  refine z_istore_n (lv' := [(1, .int 0), (0, .ref 8)]) dX7_ringCount_1 rfl (by decide) rfl ?_
  refine z_iconst (v := 0) dX7_ringCount_2 zciconst_0 ?_
  refine z_istore_n (lv' := [(2, .int 0), (1, .int 0), (0, .ref 8)]) dX7_ringCount_3 rfl (by decide) rfl ?_
  refine z_sub [2, 1, 0] rfl ?_
  exact kk
theorem bX7_ringCount_4 (x1 : Int32) (x2 : Int32) (mem : zm_Mem) (post : zm_Post) (kk : (((mem 1 2) ≤ x2 → post x1 0 mem) ∧ (¬ (mem 1 2) ≤ x2 → (vp_in x2 36 ∧ ((¬ (mem 10 (Int32.toNatClampNeg x2)) = x2 → zm_Z gX7_ringCount post 4 [(0, .ref 8), (1, .int x1), (2, .int (x2 + 1))] [] mem) ∧ ((mem 10 (Int32.toNatClampNeg x2)) = x2 → zm_Z gX7_ringCount post 4 [(0, .ref 8), (1, .int (x1 + 1)), (2, .int (x2 + 1))] [] mem)))))) : zm_Z gX7_ringCount post 4 [(0, .ref 8), (1, .int x1), (2, .int x2)] [] mem := by
  refine z_iload_n dX7_ringCount_4 rfl 2 rfl ?_
  refine z_aload_n dX7_ringCount_5 rfl 0 rfl ?_
  refine z_getr (ci := 7) (j := 0) (r := 1) (T := TX7) rfl rfl hX7 rfl (by decide) fkX7_25 dX7_ringCount_6 ?_
  refine z_getiN (ci := 1) (j := 2) (T := TX1) rfl rfl hX1 rfl (by decide) fkX7_40 dX7_ringCount_9 ?_
  refine z_icmp_ge (tgt := 34) dX7_ringCount_12 (by decide) (fun h1 => ?_) (fun h1 => ?_)
  ·
    refine z_iload_n dX7_ringCount_34 rfl 1 rfl ?_
    exact z_iret rfl dX7_ringCount_35 (kk.1 h1)
  ·
    refine z_aload_n dX7_ringCount_15 rfl 0 rfl ?_
    refine z_getr (ci := 7) (j := 3) (r := 10) (T := TX7) rfl rfl hX7 rfl (by decide) fkX7_15 dX7_ringCount_16 ?_
    refine z_iload_n dX7_ringCount_19 rfl 2 rfl ?_
    refine z_iald (n := 36) rfl (kk.2 h1).1 dX7_ringCount_20 ?_
    refine z_iload_n dX7_ringCount_21 rfl 2 rfl ?_
    refine z_icmp_ne (tgt := 28) dX7_ringCount_22 (by decide) (fun h2 => ?_) (fun h2 => ?_)
    ·
      refine z_iinc (v := x2 + 1) (lv' := [(2, .int (x2 + 1)), (0, .ref 8), (1, .int x1)]) dX7_ringCount_28 2 rfl (by rw [zciconst_1]) (by decide) rfl ?_
      refine z_goto (tgt := 4) dX7_ringCount_31 (by decide) ?_
      refine z_sub [1, 2, 0] rfl ?_
      exact ((kk.2 h1).2.1 h2)
    ·
      refine z_iinc (v := x1 + 1) (lv' := [(1, .int (x1 + 1)), (0, .ref 8), (2, .int x2)]) dX7_ringCount_25 1 rfl (by rw [zciconst_1]) (by decide) rfl ?_
      refine z_iinc (v := x2 + 1) (lv' := [(2, .int (x2 + 1)), (1, .int (x1 + 1)), (0, .ref 8)]) dX7_ringCount_28 2 rfl (by rw [zciconst_1]) (by decide) rfl ?_
      refine z_goto (tgt := 4) dX7_ringCount_31 (by decide) ?_
      refine z_sub [2, 1, 0] rfl ?_
      exact ((kk.2 h1).2.2 h2)
theorem dX7_cellsOf_0 : decode cX7_cellsOf 0 = .ok (.iconst 0, 1) := by decide +kernel
theorem dX7_cellsOf_1 : decode cX7_cellsOf 1 = .ok (.istore_n 3, 1) := by decide +kernel
theorem dX7_cellsOf_2 : decode cX7_cellsOf 2 = .ok (.iconst 0, 1) := by decide +kernel
theorem dX7_cellsOf_3 : decode cX7_cellsOf 3 = .ok (.istore 4, 2) := by decide +kernel
theorem dX7_cellsOf_5 : decode cX7_cellsOf 5 = .ok (.iload 4, 2) := by decide +kernel
theorem dX7_cellsOf_7 : decode cX7_cellsOf 7 = .ok (.aload_n 0, 1) := by decide +kernel
theorem dX7_cellsOf_8 : decode cX7_cellsOf 8 = .ok (.getfield 25, 3) := by decide +kernel
theorem dX7_cellsOf_11 : decode cX7_cellsOf 11 = .ok (.getfield 40, 3) := by decide +kernel
theorem dX7_cellsOf_14 : decode cX7_cellsOf 14 = .ok (.if_icmp .ge 37, 3) := by decide +kernel
theorem dX7_cellsOf_17 : decode cX7_cellsOf 17 = .ok (.aload_n 0, 1) := by decide +kernel
theorem dX7_cellsOf_18 : decode cX7_cellsOf 18 = .ok (.getfield 15, 3) := by decide +kernel
theorem dX7_cellsOf_21 : decode cX7_cellsOf 21 = .ok (.iload 4, 2) := by decide +kernel
theorem dX7_cellsOf_23 : decode cX7_cellsOf 23 = .ok (.iaload, 1) := by decide +kernel
theorem dX7_cellsOf_24 : decode cX7_cellsOf 24 = .ok (.iload_n 1, 1) := by decide +kernel
theorem dX7_cellsOf_25 : decode cX7_cellsOf 25 = .ok (.if_icmp .ne 20, 3) := by decide +kernel
theorem dX7_cellsOf_28 : decode cX7_cellsOf 28 = .ok (.aload_n 0, 1) := by decide +kernel
theorem dX7_cellsOf_29 : decode cX7_cellsOf 29 = .ok (.getfield 29, 3) := by decide +kernel
theorem dX7_cellsOf_32 : decode cX7_cellsOf 32 = .ok (.getfield 56, 3) := by decide +kernel
theorem dX7_cellsOf_35 : decode cX7_cellsOf 35 = .ok (.iload 4, 2) := by decide +kernel
theorem dX7_cellsOf_37 : decode cX7_cellsOf 37 = .ok (.iaload, 1) := by decide +kernel
theorem dX7_cellsOf_38 : decode cX7_cellsOf 38 = .ok (.iload_n 2, 1) := by decide +kernel
theorem dX7_cellsOf_39 : decode cX7_cellsOf 39 = .ok (.if_icmp .ne 6, 3) := by decide +kernel
theorem dX7_cellsOf_42 : decode cX7_cellsOf 42 = .ok (.iinc 3 1, 3) := by decide +kernel
theorem dX7_cellsOf_45 : decode cX7_cellsOf 45 = .ok (.iinc 4 1, 3) := by decide +kernel
theorem dX7_cellsOf_48 : decode cX7_cellsOf 48 = .ok (.goto (-43), 3) := by decide +kernel
theorem dX7_cellsOf_51 : decode cX7_cellsOf 51 = .ok (.iload_n 3, 1) := by decide +kernel
theorem dX7_cellsOf_52 : decode cX7_cellsOf 52 = .ok (.ireturn, 1) := by decide +kernel
theorem bX7_cellsOf_0 (x1 : Int32) (x2 : Int32) (mem : zm_Mem) (post : zm_Post) (kk : zm_Z gX7_cellsOf post 5 [(0, .ref 8), (1, .int x1), (2, .int x2), (3, .int 0), (4, .int 0)] [] mem) : zm_Call gX7_cellsOf [.ref 8, .int x1, .int x2] mem post := by
  refine z_entry (by decide) (Nat.le_of_ble_eq_true rfl) ?_
  show zm_Z gX7_cellsOf post 0 [(0, .ref 8), (1, .int x1), (2, .int x2)] [] mem
  refine z_iconst (v := 0) dX7_cellsOf_0 zciconst_0 ?_
  refine z_istore_n (lv' := [(3, .int 0), (0, .ref 8), (1, .int x1), (2, .int x2)]) dX7_cellsOf_1 rfl (by decide) rfl ?_
  refine z_iconst (v := 0) dX7_cellsOf_2 zciconst_0 ?_
  refine z_istore (lv' := [(4, .int 0), (3, .int 0), (0, .ref 8), (1, .int x1), (2, .int x2)]) dX7_cellsOf_3 (by decide) rfl ?_
  refine z_sub [2, 3, 4, 1, 0] rfl ?_
  exact kk
theorem bX7_cellsOf_5 (x1 : Int32) (x2 : Int32) (x3 : Int32) (x4 : Int32) (mem : zm_Mem) (post : zm_Post) (kk : (((mem 1 2) ≤ x4 → post x3 0 mem) ∧ (¬ (mem 1 2) ≤ x4 → (vp_in x4 36 ∧ ((¬ (mem 10 (Int32.toNatClampNeg x4)) = x1 → zm_Z gX7_cellsOf post 5 [(0, .ref 8), (1, .int x1), (2, .int x2), (3, .int x3), (4, .int (x4 + 1))] [] mem) ∧ ((mem 10 (Int32.toNatClampNeg x4)) = x1 → (vp_in x4 36 ∧ ((¬ (mem 3 (Int32.toNatClampNeg x4)) = x2 → zm_Z gX7_cellsOf post 5 [(0, .ref 8), (1, .int x1), (2, .int x2), (3, .int x3), (4, .int (x4 + 1))] [] mem) ∧ ((mem 3 (Int32.toNatClampNeg x4)) = x2 → zm_Z gX7_cellsOf post 5 [(0, .ref 8), (1, .int x1), (2, .int x2), (3, .int (x3 + 1)), (4, .int (x4 + 1))] [] mem))))))))) : zm_Z gX7_cellsOf post 5 [(0, .ref 8), (1, .int x1), (2, .int x2), (3, .int x3), (4, .int x4)] [] mem := by
  refine z_iload dX7_cellsOf_5 4 rfl ?_
  refine z_aload_n dX7_cellsOf_7 rfl 0 rfl ?_
  refine z_getr (ci := 7) (j := 0) (r := 1) (T := TX7) rfl rfl hX7 rfl (by decide) fkX7_25 dX7_cellsOf_8 ?_
  refine z_getiN (ci := 1) (j := 2) (T := TX1) rfl rfl hX1 rfl (by decide) fkX7_40 dX7_cellsOf_11 ?_
  refine z_icmp_ge (tgt := 51) dX7_cellsOf_14 (by decide) (fun h1 => ?_) (fun h1 => ?_)
  ·
    refine z_iload_n dX7_cellsOf_51 rfl 3 rfl ?_
    exact z_iret rfl dX7_cellsOf_52 (kk.1 h1)
  ·
    refine z_aload_n dX7_cellsOf_17 rfl 0 rfl ?_
    refine z_getr (ci := 7) (j := 3) (r := 10) (T := TX7) rfl rfl hX7 rfl (by decide) fkX7_15 dX7_cellsOf_18 ?_
    refine z_iload dX7_cellsOf_21 4 rfl ?_
    refine z_iald (n := 36) rfl (kk.2 h1).1 dX7_cellsOf_23 ?_
    refine z_iload_n dX7_cellsOf_24 rfl 1 rfl ?_
    refine z_icmp_ne (tgt := 45) dX7_cellsOf_25 (by decide) (fun h2 => ?_) (fun h2 => ?_)
    ·
      refine z_iinc (v := x4 + 1) (lv' := [(4, .int (x4 + 1)), (0, .ref 8), (1, .int x1), (2, .int x2), (3, .int x3)]) dX7_cellsOf_45 4 rfl (by rw [zciconst_1]) (by decide) rfl ?_
      refine z_goto (tgt := 5) dX7_cellsOf_48 (by decide) ?_
      refine z_sub [1, 2, 3, 4, 0] rfl ?_
      exact ((kk.2 h1).2.1 h2)
    ·
      refine z_aload_n dX7_cellsOf_28 rfl 0 rfl ?_
      refine z_getr (ci := 7) (j := 1) (r := 2) (T := TX7) rfl rfl hX7 rfl (by decide) fkX7_29 dX7_cellsOf_29 ?_
      refine z_getrN (ci := 5) (j := 1) (r := 3) (T := TX5) rfl rfl hX5 rfl (by decide) fkX7_56 dX7_cellsOf_32 ?_
      refine z_iload dX7_cellsOf_35 4 rfl ?_
      refine z_iald (n := 36) rfl ((kk.2 h1).2.2 h2).1 dX7_cellsOf_37 ?_
      refine z_iload_n dX7_cellsOf_38 rfl 2 rfl ?_
      refine z_icmp_ne (tgt := 45) dX7_cellsOf_39 (by decide) (fun h3 => ?_) (fun h3 => ?_)
      ·
        refine z_iinc (v := x4 + 1) (lv' := [(4, .int (x4 + 1)), (0, .ref 8), (1, .int x1), (2, .int x2), (3, .int x3)]) dX7_cellsOf_45 4 rfl (by rw [zciconst_1]) (by decide) rfl ?_
        refine z_goto (tgt := 5) dX7_cellsOf_48 (by decide) ?_
        refine z_sub [1, 2, 3, 4, 0] rfl ?_
        exact (((kk.2 h1).2.2 h2).2.1 h3)
      ·
        refine z_iinc (v := x3 + 1) (lv' := [(3, .int (x3 + 1)), (0, .ref 8), (1, .int x1), (2, .int x2), (4, .int x4)]) dX7_cellsOf_42 3 rfl (by rw [zciconst_1]) (by decide) rfl ?_
        refine z_iinc (v := x4 + 1) (lv' := [(4, .int (x4 + 1)), (3, .int (x3 + 1)), (0, .ref 8), (1, .int x1), (2, .int x2)]) dX7_cellsOf_45 4 rfl (by rw [zciconst_1]) (by decide) rfl ?_
        refine z_goto (tgt := 5) dX7_cellsOf_48 (by decide) ?_
        refine z_sub [2, 3, 4, 1, 0] rfl ?_
        exact (((kk.2 h1).2.2 h2).2.2 h3)
theorem dX7_commonHue_0 : decode cX7_commonHue 0 = .ok (.bipush 9, 2) := by decide +kernel
theorem dX7_commonHue_2 : decode cX7_commonHue 2 = .ok (.istore_n 2, 1) := by decide +kernel
theorem dX7_commonHue_3 : decode cX7_commonHue 3 = .ok (.iconst 0, 1) := by decide +kernel
theorem dX7_commonHue_4 : decode cX7_commonHue 4 = .ok (.istore_n 3, 1) := by decide +kernel
theorem dX7_commonHue_5 : decode cX7_commonHue 5 = .ok (.iconst 0, 1) := by decide +kernel
theorem dX7_commonHue_6 : decode cX7_commonHue 6 = .ok (.istore 4, 2) := by decide +kernel
theorem dX7_commonHue_8 : decode cX7_commonHue 8 = .ok (.iload 4, 2) := by decide +kernel
theorem dX7_commonHue_10 : decode cX7_commonHue 10 = .ok (.aload_n 0, 1) := by decide +kernel
theorem dX7_commonHue_11 : decode cX7_commonHue 11 = .ok (.getfield 29, 3) := by decide +kernel
theorem dX7_commonHue_14 : decode cX7_commonHue 14 = .ok (.getfield 61, 3) := by decide +kernel
theorem dX7_commonHue_17 : decode cX7_commonHue 17 = .ok (.if_icmp .ge 30, 3) := by decide +kernel
theorem dX7_commonHue_20 : decode cX7_commonHue 20 = .ok (.aload_n 0, 1) := by decide +kernel
theorem dX7_commonHue_21 : decode cX7_commonHue 21 = .ok (.iload_n 1, 1) := by decide +kernel
theorem dX7_commonHue_22 : decode cX7_commonHue 22 = .ok (.iload 4, 2) := by decide +kernel
theorem dX7_commonHue_24 : decode cX7_commonHue 24 = .ok (.invokevirtual 64, 3) := by decide +kernel
theorem dX7_commonHue_27 : decode cX7_commonHue 27 = .ok (.istore 5, 2) := by decide +kernel
theorem dX7_commonHue_29 : decode cX7_commonHue 29 = .ok (.iload 5, 2) := by decide +kernel
theorem dX7_commonHue_31 : decode cX7_commonHue 31 = .ok (.iload_n 3, 1) := by decide +kernel
theorem dX7_commonHue_32 : decode cX7_commonHue 32 = .ok (.if_icmp .le 9, 3) := by decide +kernel
theorem dX7_commonHue_35 : decode cX7_commonHue 35 = .ok (.iload 4, 2) := by decide +kernel
theorem dX7_commonHue_37 : decode cX7_commonHue 37 = .ok (.istore_n 2, 1) := by decide +kernel
theorem dX7_commonHue_38 : decode cX7_commonHue 38 = .ok (.iload 5, 2) := by decide +kernel
theorem dX7_commonHue_40 : decode cX7_commonHue 40 = .ok (.istore_n 3, 1) := by decide +kernel
theorem dX7_commonHue_41 : decode cX7_commonHue 41 = .ok (.iinc 4 1, 3) := by decide +kernel
theorem dX7_commonHue_44 : decode cX7_commonHue 44 = .ok (.goto (-36), 3) := by decide +kernel
theorem dX7_commonHue_47 : decode cX7_commonHue 47 = .ok (.iload_n 2, 1) := by decide +kernel
theorem dX7_commonHue_48 : decode cX7_commonHue 48 = .ok (.ireturn, 1) := by decide +kernel
theorem bX7_commonHue_0 (x1 : Int32) (mem : zm_Mem) (post : zm_Post) (kk : zm_Z gX7_commonHue post 8 [(0, .ref 8), (1, .int x1), (2, .int 9), (3, .int 0), (4, .int 0)] [] mem) : zm_Call gX7_commonHue [.ref 8, .int x1] mem post := by
  refine z_entry (by decide) (Nat.le_of_ble_eq_true rfl) ?_
  show zm_Z gX7_commonHue post 0 [(0, .ref 8), (1, .int x1)] [] mem
  refine z_bipush (v := 9) dX7_commonHue_0 zcbipush_9 ?_
  refine z_istore_n (lv' := [(2, .int 9), (0, .ref 8), (1, .int x1)]) dX7_commonHue_2 rfl (by decide) rfl ?_
  refine z_iconst (v := 0) dX7_commonHue_3 zciconst_0 ?_
  refine z_istore_n (lv' := [(3, .int 0), (2, .int 9), (0, .ref 8), (1, .int x1)]) dX7_commonHue_4 rfl (by decide) rfl ?_
  refine z_iconst (v := 0) dX7_commonHue_5 zciconst_0 ?_
  refine z_istore (lv' := [(4, .int 0), (3, .int 0), (2, .int 9), (0, .ref 8), (1, .int x1)]) dX7_commonHue_6 (by decide) rfl ?_
  refine z_sub [3, 4, 2, 1, 0] rfl ?_
  exact kk
theorem bX7_commonHue_8 (x1 : Int32) (x2 : Int32) (x3 : Int32) (x4 : Int32) (mem : zm_Mem) (post : zm_Post) (kk : (((mem 2 3) ≤ x4 → post x2 0 mem) ∧ (¬ (mem 2 3) ≤ x4 → zm_Call gX7_cellsOf [.ref 8, .int x1, .int x4] mem (fun r2 w2 u2 => ((r2 ≤ x3 → zm_Z gX7_commonHue post 8 [(0, .ref 8), (1, .int x1), (2, .int x2), (3, .int x3), (4, .int (x4 + 1))] [] u2) ∧ (¬ r2 ≤ x3 → zm_Z gX7_commonHue post 8 [(0, .ref 8), (1, .int x1), (2, .int x4), (3, .int r2), (4, .int (x4 + 1))] [] u2)))))) : zm_Z gX7_commonHue post 8 [(0, .ref 8), (1, .int x1), (2, .int x2), (3, .int x3), (4, .int x4)] [] mem := by
  refine z_iload dX7_commonHue_8 4 rfl ?_
  refine z_aload_n dX7_commonHue_10 rfl 0 rfl ?_
  refine z_getr (ci := 7) (j := 1) (r := 2) (T := TX7) rfl rfl hX7 rfl (by decide) fkX7_29 dX7_commonHue_11 ?_
  refine z_getiN (ci := 5) (j := 3) (T := TX5) rfl rfl hX5 rfl (by decide) fkX7_61 dX7_commonHue_14 ?_
  refine z_icmp_ge (tgt := 47) dX7_commonHue_17 (by decide) (fun h1 => ?_) (fun h1 => ?_)
  ·
    refine z_iload_n dX7_commonHue_47 rfl 2 rfl ?_
    exact z_iret rfl dX7_commonHue_48 (kk.1 h1)
  ·
    refine z_aload_n dX7_commonHue_20 rfl 0 rfl ?_
    refine z_iload_n dX7_commonHue_21 rfl 1 rfl ?_
    refine z_iload dX7_commonHue_22 4 rfl ?_
    refine z_callVi (g' := gX7_cellsOf) [.int x1, .int x4] (q := 8) (ci := 7) (T := TX7) rfl rfl ⟨lkX7_64, pdX7_cellsOf, by decide, by decide⟩ ⟨_, rfl, by decide⟩ rfl (Nat.le_of_ble_eq_true rfl) dX7_commonHue_24 (zm_Call.mono (kk.2 h1) (fun r2 w2 u2 k2 => ?_))
    refine z_istore (lv' := [(5, .int r2), (0, .ref 8), (1, .int x1), (2, .int x2), (3, .int x3), (4, .int x4)]) dX7_commonHue_27 (by decide) rfl ?_
    refine z_iload dX7_commonHue_29 0 rfl ?_
    refine z_iload_n dX7_commonHue_31 rfl 4 rfl ?_
    refine z_icmp_le (tgt := 41) dX7_commonHue_32 (by decide) (fun h3 => ?_) (fun h3 => ?_)
    ·
      refine z_iinc (v := x4 + 1) (lv' := [(4, .int (x4 + 1)), (5, .int r2), (0, .ref 8), (1, .int x1), (2, .int x2), (3, .int x3)]) dX7_commonHue_41 5 rfl (by rw [zciconst_1]) (by decide) rfl ?_
      refine z_goto (tgt := 8) dX7_commonHue_44 (by decide) ?_
      refine z_sub [2, 3, 4, 5, 0] rfl ?_
      exact (k2.1 h3)
    ·
      refine z_iload dX7_commonHue_35 5 rfl ?_
      refine z_istore_n (lv' := [(2, .int x4), (5, .int r2), (0, .ref 8), (1, .int x1), (3, .int x3), (4, .int x4)]) dX7_commonHue_37 rfl (by decide) rfl ?_
      refine z_iload dX7_commonHue_38 1 rfl ?_
      refine z_istore_n (lv' := [(3, .int r2), (2, .int x4), (5, .int r2), (0, .ref 8), (1, .int x1), (4, .int x4)]) dX7_commonHue_40 rfl (by decide) rfl ?_
      refine z_iinc (v := x4 + 1) (lv' := [(4, .int (x4 + 1)), (3, .int r2), (2, .int x4), (5, .int r2), (0, .ref 8), (1, .int x1)]) dX7_commonHue_41 5 rfl (by rw [zciconst_1]) (by decide) rfl ?_
      refine z_goto (tgt := 8) dX7_commonHue_44 (by decide) ?_
      refine z_sub [4, 5, 2, 1, 0] rfl ?_
      exact (k2.2 h3)
theorem dX7_hueCount_0 : decode cX7_hueCount 0 = .ok (.iconst 0, 1) := by decide +kernel
theorem dX7_hueCount_1 : decode cX7_hueCount 1 = .ok (.istore_n 2, 1) := by decide +kernel
theorem dX7_hueCount_2 : decode cX7_hueCount 2 = .ok (.iconst 0, 1) := by decide +kernel
theorem dX7_hueCount_3 : decode cX7_hueCount 3 = .ok (.istore_n 3, 1) := by decide +kernel
theorem dX7_hueCount_4 : decode cX7_hueCount 4 = .ok (.iload_n 3, 1) := by decide +kernel
theorem dX7_hueCount_5 : decode cX7_hueCount 5 = .ok (.aload_n 0, 1) := by decide +kernel
theorem dX7_hueCount_6 : decode cX7_hueCount 6 = .ok (.getfield 29, 3) := by decide +kernel
theorem dX7_hueCount_9 : decode cX7_hueCount 9 = .ok (.getfield 61, 3) := by decide +kernel
theorem dX7_hueCount_12 : decode cX7_hueCount 12 = .ok (.if_icmp .ge 21, 3) := by decide +kernel
theorem dX7_hueCount_15 : decode cX7_hueCount 15 = .ok (.aload_n 0, 1) := by decide +kernel
theorem dX7_hueCount_16 : decode cX7_hueCount 16 = .ok (.iload_n 1, 1) := by decide +kernel
theorem dX7_hueCount_17 : decode cX7_hueCount 17 = .ok (.iload_n 3, 1) := by decide +kernel
theorem dX7_hueCount_18 : decode cX7_hueCount 18 = .ok (.invokevirtual 64, 3) := by decide +kernel
theorem dX7_hueCount_21 : decode cX7_hueCount 21 = .ok (.ifCond .le 6, 3) := by decide +kernel
theorem dX7_hueCount_24 : decode cX7_hueCount 24 = .ok (.iinc 2 1, 3) := by decide +kernel
theorem dX7_hueCount_27 : decode cX7_hueCount 27 = .ok (.iinc 3 1, 3) := by decide +kernel
theorem dX7_hueCount_30 : decode cX7_hueCount 30 = .ok (.goto (-26), 3) := by decide +kernel
theorem dX7_hueCount_33 : decode cX7_hueCount 33 = .ok (.iload_n 2, 1) := by decide +kernel
theorem dX7_hueCount_34 : decode cX7_hueCount 34 = .ok (.ireturn, 1) := by decide +kernel
theorem bX7_hueCount_0 (x1 : Int32) (mem : zm_Mem) (post : zm_Post) (kk : zm_Z gX7_hueCount post 4 [(0, .ref 8), (1, .int x1), (2, .int 0), (3, .int 0)] [] mem) : zm_Call gX7_hueCount [.ref 8, .int x1] mem post := by
  refine z_entry (by decide) (Nat.le_of_ble_eq_true rfl) ?_
  show zm_Z gX7_hueCount post 0 [(0, .ref 8), (1, .int x1)] [] mem
  refine z_iconst (v := 0) dX7_hueCount_0 zciconst_0 ?_
  refine z_istore_n (lv' := [(2, .int 0), (0, .ref 8), (1, .int x1)]) dX7_hueCount_1 rfl (by decide) rfl ?_
  refine z_iconst (v := 0) dX7_hueCount_2 zciconst_0 ?_
  refine z_istore_n (lv' := [(3, .int 0), (2, .int 0), (0, .ref 8), (1, .int x1)]) dX7_hueCount_3 rfl (by decide) rfl ?_
  refine z_sub [2, 3, 1, 0] rfl ?_
  exact kk
theorem bX7_hueCount_4 (x1 : Int32) (x2 : Int32) (x3 : Int32) (mem : zm_Mem) (post : zm_Post) (kk : (((mem 2 3) ≤ x3 → post x2 0 mem) ∧ (¬ (mem 2 3) ≤ x3 → zm_Call gX7_cellsOf [.ref 8, .int x1, .int x3] mem (fun r2 w2 u2 => ((r2 ≤ 0 → zm_Z gX7_hueCount post 4 [(0, .ref 8), (1, .int x1), (2, .int x2), (3, .int (x3 + 1))] [] u2) ∧ (¬ r2 ≤ 0 → zm_Z gX7_hueCount post 4 [(0, .ref 8), (1, .int x1), (2, .int (x2 + 1)), (3, .int (x3 + 1))] [] u2)))))) : zm_Z gX7_hueCount post 4 [(0, .ref 8), (1, .int x1), (2, .int x2), (3, .int x3)] [] mem := by
  refine z_iload_n dX7_hueCount_4 rfl 3 rfl ?_
  refine z_aload_n dX7_hueCount_5 rfl 0 rfl ?_
  refine z_getr (ci := 7) (j := 1) (r := 2) (T := TX7) rfl rfl hX7 rfl (by decide) fkX7_29 dX7_hueCount_6 ?_
  refine z_getiN (ci := 5) (j := 3) (T := TX5) rfl rfl hX5 rfl (by decide) fkX7_61 dX7_hueCount_9 ?_
  refine z_icmp_ge (tgt := 33) dX7_hueCount_12 (by decide) (fun h1 => ?_) (fun h1 => ?_)
  ·
    refine z_iload_n dX7_hueCount_33 rfl 2 rfl ?_
    exact z_iret rfl dX7_hueCount_34 (kk.1 h1)
  ·
    refine z_aload_n dX7_hueCount_15 rfl 0 rfl ?_
    refine z_iload_n dX7_hueCount_16 rfl 1 rfl ?_
    refine z_iload_n dX7_hueCount_17 rfl 3 rfl ?_
    refine z_callVi (g' := gX7_cellsOf) [.int x1, .int x3] (q := 8) (ci := 7) (T := TX7) rfl rfl ⟨lkX7_64, pdX7_cellsOf, by decide, by decide⟩ ⟨_, rfl, by decide⟩ rfl (Nat.le_of_ble_eq_true rfl) dX7_hueCount_18 (zm_Call.mono (kk.2 h1) (fun r2 w2 u2 k2 => ?_))
    refine z_if_le (tgt := 27) dX7_hueCount_21 (by decide) (fun h3 => ?_) (fun h3 => ?_)
    ·
      refine z_iinc (v := x3 + 1) (lv' := [(3, .int (x3 + 1)), (0, .ref 8), (1, .int x1), (2, .int x2)]) dX7_hueCount_27 3 rfl (by rw [zciconst_1]) (by decide) rfl ?_
      refine z_goto (tgt := 4) dX7_hueCount_30 (by decide) ?_
      refine z_sub [1, 2, 3, 0] rfl ?_
      exact (k2.1 h3)
    ·
      refine z_iinc (v := x2 + 1) (lv' := [(2, .int (x2 + 1)), (0, .ref 8), (1, .int x1), (3, .int x3)]) dX7_hueCount_24 2 rfl (by rw [zciconst_1]) (by decide) rfl ?_
      refine z_iinc (v := x3 + 1) (lv' := [(3, .int (x3 + 1)), (2, .int (x2 + 1)), (0, .ref 8), (1, .int x1)]) dX7_hueCount_27 3 rfl (by rw [zciconst_1]) (by decide) rfl ?_
      refine z_goto (tgt := 4) dX7_hueCount_30 (by decide) ?_
      refine z_sub [2, 3, 1, 0] rfl ?_
      exact (k2.2 h3)
theorem dX7_onlyHue_0 : decode cX7_onlyHue 0 = .ok (.aload_n 0, 1) := by decide +kernel
theorem dX7_onlyHue_1 : decode cX7_onlyHue 1 = .ok (.iload_n 1, 1) := by decide +kernel
theorem dX7_onlyHue_2 : decode cX7_onlyHue 2 = .ok (.invokevirtual 67, 3) := by decide +kernel
theorem dX7_onlyHue_5 : decode cX7_onlyHue 5 = .ok (.iconst 1, 1) := by decide +kernel
theorem dX7_onlyHue_6 : decode cX7_onlyHue 6 = .ok (.if_icmp .ne 11, 3) := by decide +kernel
theorem dX7_onlyHue_9 : decode cX7_onlyHue 9 = .ok (.aload_n 0, 1) := by decide +kernel
theorem dX7_onlyHue_10 : decode cX7_onlyHue 10 = .ok (.iload_n 1, 1) := by decide +kernel
theorem dX7_onlyHue_11 : decode cX7_onlyHue 11 = .ok (.invokevirtual 71, 3) := by decide +kernel
theorem dX7_onlyHue_14 : decode cX7_onlyHue 14 = .ok (.goto 5, 3) := by decide +kernel
theorem dX7_onlyHue_17 : decode cX7_onlyHue 17 = .ok (.bipush (-9), 2) := by decide +kernel
theorem dX7_onlyHue_19 : decode cX7_onlyHue 19 = .ok (.ireturn, 1) := by decide +kernel
theorem bX7_onlyHue_0 (x1 : Int32) (mem : zm_Mem) (post : zm_Post) (kk : zm_Call gX7_hueCount [.ref 8, .int x1] mem (fun r1 w1 u1 => ((¬ r1 = 1 → post (-9) 0 u1) ∧ (r1 = 1 → zm_Call gX7_commonHue [.ref 8, .int x1] u1 (fun r3 w3 u3 => post r3 0 u3))))) : zm_Call gX7_onlyHue [.ref 8, .int x1] mem post := by
  refine z_entry (by decide) (Nat.le_of_ble_eq_true rfl) ?_
  show zm_Z gX7_onlyHue post 0 [(0, .ref 8), (1, .int x1)] [] mem
  refine z_aload_n dX7_onlyHue_0 rfl 0 rfl ?_
  refine z_iload_n dX7_onlyHue_1 rfl 1 rfl ?_
  refine z_callVi (g' := gX7_hueCount) [.int x1] (q := 8) (ci := 7) (T := TX7) rfl rfl ⟨lkX7_67, pdX7_hueCount, by decide, by decide⟩ ⟨_, rfl, by decide⟩ rfl (Nat.le_of_ble_eq_true rfl) dX7_onlyHue_2 (zm_Call.mono kk (fun r1 w1 u1 k1 => ?_))
  refine z_iconst (v := 1) dX7_onlyHue_5 zciconst_1 ?_
  refine z_icmp_ne (tgt := 17) dX7_onlyHue_6 (by decide) (fun h2 => ?_) (fun h2 => ?_)
  ·
    refine z_bipush (v := (-9)) dX7_onlyHue_17 zcbipush_m9 ?_
    exact z_iret rfl dX7_onlyHue_19 (k1.1 h2)
  ·
    refine z_aload_n dX7_onlyHue_9 rfl 0 rfl ?_
    refine z_iload_n dX7_onlyHue_10 rfl 1 rfl ?_
    refine z_callVi (g' := gX7_commonHue) [.int x1] (q := 8) (ci := 7) (T := TX7) rfl rfl ⟨lkX7_71, pdX7_commonHue, by decide, by decide⟩ ⟨_, rfl, by decide⟩ rfl (Nat.le_of_ble_eq_true rfl) dX7_onlyHue_11 (zm_Call.mono (k1.2 h2) (fun r3 w3 u3 k3 => ?_))
    refine z_goto (tgt := 19) dX7_onlyHue_14 (by decide) ?_
    exact z_iret rfl dX7_onlyHue_19 k3
theorem dX7_tornCount_0 : decode cX7_tornCount 0 = .ok (.iconst 0, 1) := by decide +kernel
theorem dX7_tornCount_1 : decode cX7_tornCount 1 = .ok (.istore_n 1, 1) := by decide +kernel
theorem dX7_tornCount_2 : decode cX7_tornCount 2 = .ok (.iconst 0, 1) := by decide +kernel
theorem dX7_tornCount_3 : decode cX7_tornCount 3 = .ok (.istore_n 2, 1) := by decide +kernel
theorem dX7_tornCount_4 : decode cX7_tornCount 4 = .ok (.iload_n 2, 1) := by decide +kernel
theorem dX7_tornCount_5 : decode cX7_tornCount 5 = .ok (.aload_n 0, 1) := by decide +kernel
theorem dX7_tornCount_6 : decode cX7_tornCount 6 = .ok (.getfield 25, 3) := by decide +kernel
theorem dX7_tornCount_9 : decode cX7_tornCount 9 = .ok (.getfield 40, 3) := by decide +kernel
theorem dX7_tornCount_12 : decode cX7_tornCount 12 = .ok (.if_icmp .ge 21, 3) := by decide +kernel
theorem dX7_tornCount_15 : decode cX7_tornCount 15 = .ok (.aload_n 0, 1) := by decide +kernel
theorem dX7_tornCount_16 : decode cX7_tornCount 16 = .ok (.iload_n 2, 1) := by decide +kernel
theorem dX7_tornCount_17 : decode cX7_tornCount 17 = .ok (.invokevirtual 67, 3) := by decide +kernel
theorem dX7_tornCount_20 : decode cX7_tornCount 20 = .ok (.iconst 1, 1) := by decide +kernel
theorem dX7_tornCount_21 : decode cX7_tornCount 21 = .ok (.if_icmp .le 6, 3) := by decide +kernel
theorem dX7_tornCount_24 : decode cX7_tornCount 24 = .ok (.iinc 1 1, 3) := by decide +kernel
theorem dX7_tornCount_27 : decode cX7_tornCount 27 = .ok (.iinc 2 1, 3) := by decide +kernel
theorem dX7_tornCount_30 : decode cX7_tornCount 30 = .ok (.goto (-26), 3) := by decide +kernel
theorem dX7_tornCount_33 : decode cX7_tornCount 33 = .ok (.iload_n 1, 1) := by decide +kernel
theorem dX7_tornCount_34 : decode cX7_tornCount 34 = .ok (.ireturn, 1) := by decide +kernel
theorem bX7_tornCount_0 (mem : zm_Mem) (post : zm_Post) (kk : zm_Z gX7_tornCount post 4 [(0, .ref 8), (1, .int 0), (2, .int 0)] [] mem) : zm_Call gX7_tornCount [.ref 8] mem post := by
  refine z_entry (by decide) (Nat.le_of_ble_eq_true rfl) ?_
  show zm_Z gX7_tornCount post 0 [(0, .ref 8)] [] mem
  refine z_iconst (v := 0) dX7_tornCount_0 zciconst_0 ?_
  refine z_istore_n (lv' := [(1, .int 0), (0, .ref 8)]) dX7_tornCount_1 rfl (by decide) rfl ?_
  refine z_iconst (v := 0) dX7_tornCount_2 zciconst_0 ?_
  refine z_istore_n (lv' := [(2, .int 0), (1, .int 0), (0, .ref 8)]) dX7_tornCount_3 rfl (by decide) rfl ?_
  refine z_sub [2, 1, 0] rfl ?_
  exact kk
theorem bX7_tornCount_4 (x1 : Int32) (x2 : Int32) (mem : zm_Mem) (post : zm_Post) (kk : (((mem 1 2) ≤ x2 → post x1 0 mem) ∧ (¬ (mem 1 2) ≤ x2 → zm_Call gX7_hueCount [.ref 8, .int x2] mem (fun r2 w2 u2 => ((r2 ≤ 1 → zm_Z gX7_tornCount post 4 [(0, .ref 8), (1, .int x1), (2, .int (x2 + 1))] [] u2) ∧ (¬ r2 ≤ 1 → zm_Z gX7_tornCount post 4 [(0, .ref 8), (1, .int (x1 + 1)), (2, .int (x2 + 1))] [] u2)))))) : zm_Z gX7_tornCount post 4 [(0, .ref 8), (1, .int x1), (2, .int x2)] [] mem := by
  refine z_iload_n dX7_tornCount_4 rfl 2 rfl ?_
  refine z_aload_n dX7_tornCount_5 rfl 0 rfl ?_
  refine z_getr (ci := 7) (j := 0) (r := 1) (T := TX7) rfl rfl hX7 rfl (by decide) fkX7_25 dX7_tornCount_6 ?_
  refine z_getiN (ci := 1) (j := 2) (T := TX1) rfl rfl hX1 rfl (by decide) fkX7_40 dX7_tornCount_9 ?_
  refine z_icmp_ge (tgt := 33) dX7_tornCount_12 (by decide) (fun h1 => ?_) (fun h1 => ?_)
  ·
    refine z_iload_n dX7_tornCount_33 rfl 1 rfl ?_
    exact z_iret rfl dX7_tornCount_34 (kk.1 h1)
  ·
    refine z_aload_n dX7_tornCount_15 rfl 0 rfl ?_
    refine z_iload_n dX7_tornCount_16 rfl 2 rfl ?_
    refine z_callVi (g' := gX7_hueCount) [.int x2] (q := 8) (ci := 7) (T := TX7) rfl rfl ⟨lkX7_67, pdX7_hueCount, by decide, by decide⟩ ⟨_, rfl, by decide⟩ rfl (Nat.le_of_ble_eq_true rfl) dX7_tornCount_17 (zm_Call.mono (kk.2 h1) (fun r2 w2 u2 k2 => ?_))
    refine z_iconst (v := 1) dX7_tornCount_20 zciconst_1 ?_
    refine z_icmp_le (tgt := 27) dX7_tornCount_21 (by decide) (fun h3 => ?_) (fun h3 => ?_)
    ·
      refine z_iinc (v := x2 + 1) (lv' := [(2, .int (x2 + 1)), (0, .ref 8), (1, .int x1)]) dX7_tornCount_27 2 rfl (by rw [zciconst_1]) (by decide) rfl ?_
      refine z_goto (tgt := 4) dX7_tornCount_30 (by decide) ?_
      refine z_sub [1, 2, 0] rfl ?_
      exact (k2.1 h3)
    ·
      refine z_iinc (v := x1 + 1) (lv' := [(1, .int (x1 + 1)), (0, .ref 8), (2, .int x2)]) dX7_tornCount_24 1 rfl (by rw [zciconst_1]) (by decide) rfl ?_
      refine z_iinc (v := x2 + 1) (lv' := [(2, .int (x2 + 1)), (1, .int (x1 + 1)), (0, .ref 8)]) dX7_tornCount_27 2 rfl (by rw [zciconst_1]) (by decide) rfl ?_
      refine z_goto (tgt := 4) dX7_tornCount_30 (by decide) ?_
      refine z_sub [2, 1, 0] rfl ?_
      exact (k2.2 h3)
theorem dX7_paintRing_0 : decode cX7_paintRing 0 = .ok (.iconst 0, 1) := by decide +kernel
theorem dX7_paintRing_1 : decode cX7_paintRing 1 = .ok (.istore 4, 2) := by decide +kernel
theorem dX7_paintRing_3 : decode cX7_paintRing 3 = .ok (.iload_n 1, 1) := by decide +kernel
theorem dX7_paintRing_4 : decode cX7_paintRing 4 = .ok (.istore 5, 2) := by decide +kernel
theorem dX7_paintRing_6 : decode cX7_paintRing 6 = .ok (.iload 5, 2) := by decide +kernel
theorem dX7_paintRing_8 : decode cX7_paintRing 8 = .ok (.aload_n 0, 1) := by decide +kernel
theorem dX7_paintRing_9 : decode cX7_paintRing 9 = .ok (.getfield 25, 3) := by decide +kernel
theorem dX7_paintRing_12 : decode cX7_paintRing 12 = .ok (.getfield 40, 3) := by decide +kernel
theorem dX7_paintRing_15 : decode cX7_paintRing 15 = .ok (.if_icmp .ge 52, 3) := by decide +kernel
theorem dX7_paintRing_18 : decode cX7_paintRing 18 = .ok (.aload_n 0, 1) := by decide +kernel
theorem dX7_paintRing_19 : decode cX7_paintRing 19 = .ok (.getfield 15, 3) := by decide +kernel
theorem dX7_paintRing_22 : decode cX7_paintRing 22 = .ok (.iload 5, 2) := by decide +kernel
theorem dX7_paintRing_24 : decode cX7_paintRing 24 = .ok (.iaload, 1) := by decide +kernel
theorem dX7_paintRing_25 : decode cX7_paintRing 25 = .ok (.iload_n 1, 1) := by decide +kernel
theorem dX7_paintRing_26 : decode cX7_paintRing 26 = .ok (.if_icmp .ne 35, 3) := by decide +kernel
theorem dX7_paintRing_29 : decode cX7_paintRing 29 = .ok (.aload_n 0, 1) := by decide +kernel
theorem dX7_paintRing_30 : decode cX7_paintRing 30 = .ok (.getfield 29, 3) := by decide +kernel
theorem dX7_paintRing_33 : decode cX7_paintRing 33 = .ok (.getfield 56, 3) := by decide +kernel
theorem dX7_paintRing_36 : decode cX7_paintRing 36 = .ok (.iload 5, 2) := by decide +kernel
theorem dX7_paintRing_38 : decode cX7_paintRing 38 = .ok (.iaload, 1) := by decide +kernel
theorem dX7_paintRing_39 : decode cX7_paintRing 39 = .ok (.iload_n 2, 1) := by decide +kernel
theorem dX7_paintRing_40 : decode cX7_paintRing 40 = .ok (.if_icmp .eq 21, 3) := by decide +kernel
theorem dX7_paintRing_43 : decode cX7_paintRing 43 = .ok (.iinc 4 1, 3) := by decide +kernel
theorem dX7_paintRing_46 : decode cX7_paintRing 46 = .ok (.iload_n 3, 1) := by decide +kernel
theorem dX7_paintRing_47 : decode cX7_paintRing 47 = .ok (.ifCond .eq 14, 3) := by decide +kernel
theorem dX7_paintRing_50 : decode cX7_paintRing 50 = .ok (.aload_n 0, 1) := by decide +kernel
theorem dX7_paintRing_51 : decode cX7_paintRing 51 = .ok (.getfield 29, 3) := by decide +kernel
theorem dX7_paintRing_54 : decode cX7_paintRing 54 = .ok (.getfield 56, 3) := by decide +kernel
theorem dX7_paintRing_57 : decode cX7_paintRing 57 = .ok (.iload 5, 2) := by decide +kernel
theorem dX7_paintRing_59 : decode cX7_paintRing 59 = .ok (.iload_n 2, 1) := by decide +kernel
theorem dX7_paintRing_60 : decode cX7_paintRing 60 = .ok (.iastore, 1) := by decide +kernel
theorem dX7_paintRing_61 : decode cX7_paintRing 61 = .ok (.iinc 5 1, 3) := by decide +kernel
theorem dX7_paintRing_64 : decode cX7_paintRing 64 = .ok (.goto (-58), 3) := by decide +kernel
theorem dX7_paintRing_67 : decode cX7_paintRing 67 = .ok (.iload 4, 2) := by decide +kernel
theorem dX7_paintRing_69 : decode cX7_paintRing 69 = .ok (.ireturn, 1) := by decide +kernel
theorem bX7_paintRing_0 (x1 : Int32) (x2 : Int32) (x3 : Int32) (mem : zm_Mem) (post : zm_Post) (kk : zm_Z gX7_paintRing post 6 [(0, .ref 8), (1, .int x1), (2, .int x2), (3, .int x3), (4, .int 0), (5, .int x1)] [] mem) : zm_Call gX7_paintRing [.ref 8, .int x1, .int x2, .int x3] mem post := by
  refine z_entry (by decide) (Nat.le_of_ble_eq_true rfl) ?_
  show zm_Z gX7_paintRing post 0 [(0, .ref 8), (1, .int x1), (2, .int x2), (3, .int x3)] [] mem
  refine z_iconst (v := 0) dX7_paintRing_0 zciconst_0 ?_
  refine z_istore (lv' := [(4, .int 0), (0, .ref 8), (1, .int x1), (2, .int x2), (3, .int x3)]) dX7_paintRing_1 (by decide) rfl ?_
  refine z_iload_n dX7_paintRing_3 rfl 2 rfl ?_
  refine z_istore (lv' := [(5, .int x1), (4, .int 0), (0, .ref 8), (1, .int x1), (2, .int x2), (3, .int x3)]) dX7_paintRing_4 (by decide) rfl ?_
  refine z_sub [2, 3, 4, 5, 1, 0] rfl ?_
  exact kk
theorem bX7_paintRing_6 (x1 : Int32) (x2 : Int32) (x3 : Int32) (x4 : Int32) (x5 : Int32) (mem : zm_Mem) (post : zm_Post) (kk : (((mem 1 2) ≤ x5 → post x4 0 mem) ∧ (¬ (mem 1 2) ≤ x5 → (vp_in x5 36 ∧ ((¬ (mem 10 (Int32.toNatClampNeg x5)) = x1 → zm_Z gX7_paintRing post 6 [(0, .ref 8), (1, .int x1), (2, .int x2), (3, .int x3), (4, .int x4), (5, .int (x5 + 1))] [] mem) ∧ ((mem 10 (Int32.toNatClampNeg x5)) = x1 → (vp_in x5 36 ∧ (((mem 3 (Int32.toNatClampNeg x5)) = x2 → zm_Z gX7_paintRing post 6 [(0, .ref 8), (1, .int x1), (2, .int x2), (3, .int x3), (4, .int x4), (5, .int (x5 + 1))] [] mem) ∧ (¬ (mem 3 (Int32.toNatClampNeg x5)) = x2 → ((x3 = 0 → zm_Z gX7_paintRing post 6 [(0, .ref 8), (1, .int x1), (2, .int x2), (3, .int x3), (4, .int (x4 + 1)), (5, .int (x5 + 1))] [] mem) ∧ (¬ x3 = 0 → (vp_in x5 36 ∧ zm_Z gX7_paintRing post 6 [(0, .ref 8), (1, .int x1), (2, .int x2), (3, .int x3), (4, .int (x4 + 1)), (5, .int (x5 + 1))] [] (zm_st mem 3 (Int32.toNatClampNeg x5) x2))))))))))))) : zm_Z gX7_paintRing post 6 [(0, .ref 8), (1, .int x1), (2, .int x2), (3, .int x3), (4, .int x4), (5, .int x5)] [] mem := by
  refine z_iload dX7_paintRing_6 5 rfl ?_
  refine z_aload_n dX7_paintRing_8 rfl 0 rfl ?_
  refine z_getr (ci := 7) (j := 0) (r := 1) (T := TX7) rfl rfl hX7 rfl (by decide) fkX7_25 dX7_paintRing_9 ?_
  refine z_getiN (ci := 1) (j := 2) (T := TX1) rfl rfl hX1 rfl (by decide) fkX7_40 dX7_paintRing_12 ?_
  refine z_icmp_ge (tgt := 67) dX7_paintRing_15 (by decide) (fun h1 => ?_) (fun h1 => ?_)
  ·
    refine z_iload dX7_paintRing_67 4 rfl ?_
    exact z_iret rfl dX7_paintRing_69 (kk.1 h1)
  ·
    refine z_aload_n dX7_paintRing_18 rfl 0 rfl ?_
    refine z_getr (ci := 7) (j := 3) (r := 10) (T := TX7) rfl rfl hX7 rfl (by decide) fkX7_15 dX7_paintRing_19 ?_
    refine z_iload dX7_paintRing_22 5 rfl ?_
    refine z_iald (n := 36) rfl (kk.2 h1).1 dX7_paintRing_24 ?_
    refine z_iload_n dX7_paintRing_25 rfl 1 rfl ?_
    refine z_icmp_ne (tgt := 61) dX7_paintRing_26 (by decide) (fun h2 => ?_) (fun h2 => ?_)
    ·
      refine z_iinc (v := x5 + 1) (lv' := [(5, .int (x5 + 1)), (0, .ref 8), (1, .int x1), (2, .int x2), (3, .int x3), (4, .int x4)]) dX7_paintRing_61 5 rfl (by rw [zciconst_1]) (by decide) rfl ?_
      refine z_goto (tgt := 6) dX7_paintRing_64 (by decide) ?_
      refine z_sub [1, 2, 3, 4, 5, 0] rfl ?_
      exact ((kk.2 h1).2.1 h2)
    ·
      refine z_aload_n dX7_paintRing_29 rfl 0 rfl ?_
      refine z_getr (ci := 7) (j := 1) (r := 2) (T := TX7) rfl rfl hX7 rfl (by decide) fkX7_29 dX7_paintRing_30 ?_
      refine z_getrN (ci := 5) (j := 1) (r := 3) (T := TX5) rfl rfl hX5 rfl (by decide) fkX7_56 dX7_paintRing_33 ?_
      refine z_iload dX7_paintRing_36 5 rfl ?_
      refine z_iald (n := 36) rfl ((kk.2 h1).2.2 h2).1 dX7_paintRing_38 ?_
      refine z_iload_n dX7_paintRing_39 rfl 2 rfl ?_
      refine z_icmp_eq (tgt := 61) dX7_paintRing_40 (by decide) (fun h3 => ?_) (fun h3 => ?_)
      ·
        refine z_iinc (v := x5 + 1) (lv' := [(5, .int (x5 + 1)), (0, .ref 8), (1, .int x1), (2, .int x2), (3, .int x3), (4, .int x4)]) dX7_paintRing_61 5 rfl (by rw [zciconst_1]) (by decide) rfl ?_
        refine z_goto (tgt := 6) dX7_paintRing_64 (by decide) ?_
        refine z_sub [1, 2, 3, 4, 5, 0] rfl ?_
        exact (((kk.2 h1).2.2 h2).2.1 h3)
      ·
        refine z_iinc (v := x4 + 1) (lv' := [(4, .int (x4 + 1)), (0, .ref 8), (1, .int x1), (2, .int x2), (3, .int x3), (5, .int x5)]) dX7_paintRing_43 4 rfl (by rw [zciconst_1]) (by decide) rfl ?_
        refine z_iload_n dX7_paintRing_46 rfl 4 rfl ?_
        refine z_if_eq (tgt := 61) dX7_paintRing_47 (by decide) (fun h4 => ?_) (fun h4 => ?_)
        ·
          refine z_iinc (v := x5 + 1) (lv' := [(5, .int (x5 + 1)), (4, .int (x4 + 1)), (0, .ref 8), (1, .int x1), (2, .int x2), (3, .int x3)]) dX7_paintRing_61 5 rfl (by rw [zciconst_1]) (by decide) rfl ?_
          refine z_goto (tgt := 6) dX7_paintRing_64 (by decide) ?_
          refine z_sub [2, 3, 4, 5, 1, 0] rfl ?_
          exact ((((kk.2 h1).2.2 h2).2.2 h3).1 h4)
        ·
          refine z_aload_n dX7_paintRing_50 rfl 1 rfl ?_
          refine z_getr (ci := 7) (j := 1) (r := 2) (T := TX7) rfl rfl hX7 rfl (by decide) fkX7_29 dX7_paintRing_51 ?_
          refine z_getrN (ci := 5) (j := 1) (r := 3) (T := TX5) rfl rfl hX5 rfl (by decide) fkX7_56 dX7_paintRing_54 ?_
          refine z_iload dX7_paintRing_57 5 rfl ?_
          refine z_iload_n dX7_paintRing_59 rfl 3 rfl ?_
          refine z_iast (n := 36) rfl ((((kk.2 h1).2.2 h2).2.2 h3).2 h4).1 dX7_paintRing_60 ?_
          refine z_iinc (v := x5 + 1) (lv' := [(5, .int (x5 + 1)), (4, .int (x4 + 1)), (0, .ref 8), (1, .int x1), (2, .int x2), (3, .int x3)]) dX7_paintRing_61 5 rfl (by rw [zciconst_1]) (by decide) rfl ?_
          refine z_goto (tgt := 6) dX7_paintRing_64 (by decide) ?_
          refine z_sub [2, 3, 4, 5, 1, 0] rfl ?_
          exact ((((kk.2 h1).2.2 h2).2.2 h3).2 h4).2
theorem dX7_paintRings_0 : decode cX7_paintRings 0 = .ok (.iconst 0, 1) := by decide +kernel
theorem dX7_paintRings_1 : decode cX7_paintRings 1 = .ok (.istore_n 2, 1) := by decide +kernel
theorem dX7_paintRings_2 : decode cX7_paintRings 2 = .ok (.iconst 0, 1) := by decide +kernel
theorem dX7_paintRings_3 : decode cX7_paintRings 3 = .ok (.istore_n 3, 1) := by decide +kernel
theorem dX7_paintRings_4 : decode cX7_paintRings 4 = .ok (.iload_n 3, 1) := by decide +kernel
theorem dX7_paintRings_5 : decode cX7_paintRings 5 = .ok (.aload_n 0, 1) := by decide +kernel
theorem dX7_paintRings_6 : decode cX7_paintRings 6 = .ok (.getfield 25, 3) := by decide +kernel
theorem dX7_paintRings_9 : decode cX7_paintRings 9 = .ok (.getfield 40, 3) := by decide +kernel
theorem dX7_paintRings_12 : decode cX7_paintRings 12 = .ok (.if_icmp .ge 33, 3) := by decide +kernel
theorem dX7_paintRings_15 : decode cX7_paintRings 15 = .ok (.aload_n 0, 1) := by decide +kernel
theorem dX7_paintRings_16 : decode cX7_paintRings 16 = .ok (.getfield 15, 3) := by decide +kernel
theorem dX7_paintRings_19 : decode cX7_paintRings 19 = .ok (.iload_n 3, 1) := by decide +kernel
theorem dX7_paintRings_20 : decode cX7_paintRings 20 = .ok (.iaload, 1) := by decide +kernel
theorem dX7_paintRings_21 : decode cX7_paintRings 21 = .ok (.iload_n 3, 1) := by decide +kernel
theorem dX7_paintRings_22 : decode cX7_paintRings 22 = .ok (.if_icmp .ne 17, 3) := by decide +kernel
theorem dX7_paintRings_25 : decode cX7_paintRings 25 = .ok (.iload_n 2, 1) := by decide +kernel
theorem dX7_paintRings_26 : decode cX7_paintRings 26 = .ok (.aload_n 0, 1) := by decide +kernel
theorem dX7_paintRings_27 : decode cX7_paintRings 27 = .ok (.iload_n 3, 1) := by decide +kernel
theorem dX7_paintRings_28 : decode cX7_paintRings 28 = .ok (.aload_n 0, 1) := by decide +kernel
theorem dX7_paintRings_29 : decode cX7_paintRings 29 = .ok (.iload_n 3, 1) := by decide +kernel
theorem dX7_paintRings_30 : decode cX7_paintRings 30 = .ok (.invokevirtual 71, 3) := by decide +kernel
theorem dX7_paintRings_33 : decode cX7_paintRings 33 = .ok (.iload_n 1, 1) := by decide +kernel
theorem dX7_paintRings_34 : decode cX7_paintRings 34 = .ok (.invokevirtual 74, 3) := by decide +kernel
theorem dX7_paintRings_37 : decode cX7_paintRings 37 = .ok (.iadd, 1) := by decide +kernel
theorem dX7_paintRings_38 : decode cX7_paintRings 38 = .ok (.istore_n 2, 1) := by decide +kernel
theorem dX7_paintRings_39 : decode cX7_paintRings 39 = .ok (.iinc 3 1, 3) := by decide +kernel
theorem dX7_paintRings_42 : decode cX7_paintRings 42 = .ok (.goto (-38), 3) := by decide +kernel
theorem dX7_paintRings_45 : decode cX7_paintRings 45 = .ok (.iload_n 2, 1) := by decide +kernel
theorem dX7_paintRings_46 : decode cX7_paintRings 46 = .ok (.ireturn, 1) := by decide +kernel
theorem bX7_paintRings_0 (x1 : Int32) (mem : zm_Mem) (post : zm_Post) (kk : zm_Z gX7_paintRings post 4 [(0, .ref 8), (1, .int x1), (2, .int 0), (3, .int 0)] [] mem) : zm_Call gX7_paintRings [.ref 8, .int x1] mem post := by
  refine z_entry (by decide) (Nat.le_of_ble_eq_true rfl) ?_
  show zm_Z gX7_paintRings post 0 [(0, .ref 8), (1, .int x1)] [] mem
  refine z_iconst (v := 0) dX7_paintRings_0 zciconst_0 ?_
  refine z_istore_n (lv' := [(2, .int 0), (0, .ref 8), (1, .int x1)]) dX7_paintRings_1 rfl (by decide) rfl ?_
  refine z_iconst (v := 0) dX7_paintRings_2 zciconst_0 ?_
  refine z_istore_n (lv' := [(3, .int 0), (2, .int 0), (0, .ref 8), (1, .int x1)]) dX7_paintRings_3 rfl (by decide) rfl ?_
  refine z_sub [2, 3, 1, 0] rfl ?_
  exact kk
theorem bX7_paintRings_4 (x1 : Int32) (x2 : Int32) (x3 : Int32) (mem : zm_Mem) (post : zm_Post) (kk : (((mem 1 2) ≤ x3 → post x2 0 mem) ∧ (¬ (mem 1 2) ≤ x3 → (vp_in x3 36 ∧ ((¬ (mem 10 (Int32.toNatClampNeg x3)) = x3 → zm_Z gX7_paintRings post 4 [(0, .ref 8), (1, .int x1), (2, .int x2), (3, .int (x3 + 1))] [] mem) ∧ ((mem 10 (Int32.toNatClampNeg x3)) = x3 → zm_Call gX7_commonHue [.ref 8, .int x3] mem (fun r3 w3 u3 => zm_Call gX7_paintRing [.ref 8, .int x3, .int r3, .int x1] u3 (fun r4 w4 u4 => zm_Z gX7_paintRings post 4 [(0, .ref 8), (1, .int x1), (2, .int (x2 + r4)), (3, .int (x3 + 1))] [] u4)))))))) : zm_Z gX7_paintRings post 4 [(0, .ref 8), (1, .int x1), (2, .int x2), (3, .int x3)] [] mem := by
  refine z_iload_n dX7_paintRings_4 rfl 3 rfl ?_
  refine z_aload_n dX7_paintRings_5 rfl 0 rfl ?_
  refine z_getr (ci := 7) (j := 0) (r := 1) (T := TX7) rfl rfl hX7 rfl (by decide) fkX7_25 dX7_paintRings_6 ?_
  refine z_getiN (ci := 1) (j := 2) (T := TX1) rfl rfl hX1 rfl (by decide) fkX7_40 dX7_paintRings_9 ?_
  refine z_icmp_ge (tgt := 45) dX7_paintRings_12 (by decide) (fun h1 => ?_) (fun h1 => ?_)
  ·
    refine z_iload_n dX7_paintRings_45 rfl 2 rfl ?_
    exact z_iret rfl dX7_paintRings_46 (kk.1 h1)
  ·
    refine z_aload_n dX7_paintRings_15 rfl 0 rfl ?_
    refine z_getr (ci := 7) (j := 3) (r := 10) (T := TX7) rfl rfl hX7 rfl (by decide) fkX7_15 dX7_paintRings_16 ?_
    refine z_iload_n dX7_paintRings_19 rfl 3 rfl ?_
    refine z_iald (n := 36) rfl (kk.2 h1).1 dX7_paintRings_20 ?_
    refine z_iload_n dX7_paintRings_21 rfl 3 rfl ?_
    refine z_icmp_ne (tgt := 39) dX7_paintRings_22 (by decide) (fun h2 => ?_) (fun h2 => ?_)
    ·
      refine z_iinc (v := x3 + 1) (lv' := [(3, .int (x3 + 1)), (0, .ref 8), (1, .int x1), (2, .int x2)]) dX7_paintRings_39 3 rfl (by rw [zciconst_1]) (by decide) rfl ?_
      refine z_goto (tgt := 4) dX7_paintRings_42 (by decide) ?_
      refine z_sub [1, 2, 3, 0] rfl ?_
      exact ((kk.2 h1).2.1 h2)
    ·
      refine z_iload_n dX7_paintRings_25 rfl 2 rfl ?_
      refine z_aload_n dX7_paintRings_26 rfl 0 rfl ?_
      refine z_iload_n dX7_paintRings_27 rfl 3 rfl ?_
      refine z_aload_n dX7_paintRings_28 rfl 0 rfl ?_
      refine z_iload_n dX7_paintRings_29 rfl 3 rfl ?_
      refine z_callVi (g' := gX7_commonHue) [.int x3] (q := 8) (ci := 7) (T := TX7) rfl rfl ⟨lkX7_71, pdX7_commonHue, by decide, by decide⟩ ⟨_, rfl, by decide⟩ rfl (Nat.le_of_ble_eq_true rfl) dX7_paintRings_30 (zm_Call.mono ((kk.2 h1).2.2 h2) (fun r3 w3 u3 k3 => ?_))
      refine z_iload_n dX7_paintRings_33 rfl 1 rfl ?_
      refine z_callVi (g' := gX7_paintRing) [.int x3, .int r3, .int x1] (q := 8) (ci := 7) (T := TX7) rfl rfl ⟨lkX7_74, pdX7_paintRing, by decide, by decide⟩ ⟨_, rfl, by decide⟩ rfl (Nat.le_of_ble_eq_true rfl) dX7_paintRings_34 (zm_Call.mono k3 (fun r4 w4 u4 k4 => ?_))
      refine z_iadd dX7_paintRings_37 ?_
      refine z_istore_n (lv' := [(2, .int (x2 + r4)), (0, .ref 8), (1, .int x1), (3, .int x3)]) dX7_paintRings_38 rfl (by decide) rfl ?_
      refine z_iinc (v := x3 + 1) (lv' := [(3, .int (x3 + 1)), (2, .int (x2 + r4)), (0, .ref 8), (1, .int x1)]) dX7_paintRings_39 3 rfl (by rw [zciconst_1]) (by decide) rfl ?_
      refine z_goto (tgt := 4) dX7_paintRings_42 (by decide) ?_
      refine z_sub [2, 3, 1, 0] rfl ?_
      exact k4
