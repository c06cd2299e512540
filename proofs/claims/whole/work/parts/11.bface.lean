theorem dX8_patch_0 : decode cX8_patch 0 = .ok (.iload_n 1, 1) := by decide +kernel
theorem dX8_patch_1 : decode cX8_patch 1 = .ok (.iconst 1, 1) := by decide +kernel
theorem dX8_patch_2 : decode cX8_patch 2 = .ok (.if_icmp .lt 20, 3) := by decide +kernel
theorem dX8_patch_5 : decode cX8_patch 5 = .ok (.iload_n 1, 1) := by decide +kernel
theorem dX8_patch_6 : decode cX8_patch 6 = .ok (.bipush 6, 2) := by decide +kernel
theorem dX8_patch_8 : decode cX8_patch 8 = .ok (.if_icmp .gt 14, 3) := by decide +kernel
theorem dX8_patch_11 : decode cX8_patch 11 = .ok (.iload_n 2, 1) := by decide +kernel
theorem dX8_patch_12 : decode cX8_patch 12 = .ok (.iconst 1, 1) := by decide +kernel
theorem dX8_patch_13 : decode cX8_patch 13 = .ok (.if_icmp .lt 9, 3) := by decide +kernel
theorem dX8_patch_16 : decode cX8_patch 16 = .ok (.iload_n 2, 1) := by decide +kernel
theorem dX8_patch_17 : decode cX8_patch 17 = .ok (.bipush 6, 2) := by decide +kernel
theorem dX8_patch_19 : decode cX8_patch 19 = .ok (.if_icmp .le 6, 3) := by decide +kernel
theorem dX8_patch_22 : decode cX8_patch 22 = .ok (.bipush (-2), 2) := by decide +kernel
theorem dX8_patch_24 : decode cX8_patch 24 = .ok (.ireturn, 1) := by decide +kernel
theorem dX8_patch_25 : decode cX8_patch 25 = .ok (.aload_n 0, 1) := by decide +kernel
theorem dX8_patch_26 : decode cX8_patch 26 = .ok (.getfield 10, 3) := by decide +kernel
theorem dX8_patch_29 : decode cX8_patch 29 = .ok (.iload_n 1, 1) := by decide +kernel
theorem dX8_patch_30 : decode cX8_patch 30 = .ok (.iload_n 2, 1) := by decide +kernel
theorem dX8_patch_31 : decode cX8_patch 31 = .ok (.invokevirtual 69, 3) := by decide +kernel
theorem dX8_patch_34 : decode cX8_patch 34 = .ok (.aload_n 0, 1) := by decide +kernel
theorem dX8_patch_35 : decode cX8_patch 35 = .ok (.getfield 21, 3) := by decide +kernel
theorem dX8_patch_38 : decode cX8_patch 38 = .ok (.invokevirtual 73, 3) := by decide +kernel
theorem dX8_patch_41 : decode cX8_patch 41 = .ok (.aload_n 0, 1) := by decide +kernel
theorem dX8_patch_42 : decode cX8_patch 42 = .ok (.getfield 44, 3) := by decide +kernel
theorem dX8_patch_45 : decode cX8_patch 45 = .ok (.invokevirtual 76, 3) := by decide +kernel
theorem dX8_patch_48 : decode cX8_patch 48 = .ok (.aload_n 0, 1) := by decide +kernel
theorem dX8_patch_49 : decode cX8_patch 49 = .ok (.getfield 10, 3) := by decide +kernel
theorem dX8_patch_52 : decode cX8_patch 52 = .ok (.getfield 79, 3) := by decide +kernel
theorem dX8_patch_55 : decode cX8_patch 55 = .ok (.ireturn, 1) := by decide +kernel
theorem bX8_patch_0 (x1 : Int32) (x2 : Int32) (mem : zm_Mem) (post : zm_Post) (kk : ((x1 < 1 → post (-2) 0 mem) ∧ (¬ x1 < 1 → ((6 < x1 → post (-2) 0 mem) ∧ (¬ 6 < x1 → ((x2 < 1 → post (-2) 0 mem) ∧ (¬ x2 < 1 → ((x2 ≤ 6 → zm_Call gX1_resize [.ref 1, .int x1, .int x2] mem (fun r5 w5 u5 => zm_Call gX5_clear [.ref 2] u5 (fun r6 w6 u6 => zm_Call gX7_forget [.ref 8] u6 (fun r7 w7 u7 => post (u7 1 2) 0 u7)))) ∧ (¬ x2 ≤ 6 → post (-2) 0 mem))))))))) : zm_Call gX8_patch [.ref 0, .int x1, .int x2] mem post := by
  refine z_entry (by decide) (Nat.le_of_ble_eq_true rfl) ?_
  show zm_Z gX8_patch post 0 [(0, .ref 0), (1, .int x1), (2, .int x2)] [] mem
  refine z_iload_n dX8_patch_0 rfl 1 rfl ?_
  refine z_iconst (v := 1) dX8_patch_1 zciconst_1 ?_
  refine z_icmp_lt (tgt := 22) dX8_patch_2 (by decide) (fun h1 => ?_) (fun h1 => ?_)
  ·
    refine z_bipush (v := (-2)) dX8_patch_22 zcbipush_m2 ?_
    exact z_iret rfl dX8_patch_24 (kk.1 h1)
  ·
    refine z_iload_n dX8_patch_5 rfl 1 rfl ?_
    refine z_bipush (v := 6) dX8_patch_6 zcbipush_6 ?_
    refine z_icmp_gt (tgt := 22) dX8_patch_8 (by decide) (fun h2 => ?_) (fun h2 => ?_)
    ·
      refine z_bipush (v := (-2)) dX8_patch_22 zcbipush_m2 ?_
      exact z_iret rfl dX8_patch_24 ((kk.2 h1).1 h2)
    ·
      refine z_iload_n dX8_patch_11 rfl 2 rfl ?_
      refine z_iconst (v := 1) dX8_patch_12 zciconst_1 ?_
      refine z_icmp_lt (tgt := 22) dX8_patch_13 (by decide) (fun h3 => ?_) (fun h3 => ?_)
      ·
        refine z_bipush (v := (-2)) dX8_patch_22 zcbipush_m2 ?_
        exact z_iret rfl dX8_patch_24 (((kk.2 h1).2 h2).1 h3)
      ·
        refine z_iload_n dX8_patch_16 rfl 2 rfl ?_
        refine z_bipush (v := 6) dX8_patch_17 zcbipush_6 ?_
        refine z_icmp_le (tgt := 25) dX8_patch_19 (by decide) (fun h4 => ?_) (fun h4 => ?_)
        ·
          refine z_aload_n dX8_patch_25 rfl 0 rfl ?_
          refine z_getr (ci := 8) (j := 0) (r := 1) (T := TX8) rfl rfl hX8 rfl (by decide) fkX8_10 dX8_patch_26 ?_
          refine z_iload_n dX8_patch_29 rfl 1 rfl ?_
          refine z_iload_n dX8_patch_30 rfl 2 rfl ?_
          refine z_callVv (g' := gX1_resize) [.int x1, .int x2] (q := 1) (ci := 1) (T := TX1) rfl rfl ⟨lkX8_69, pdX1_resize, by decide, by decide⟩ rfl rfl (Nat.le_of_ble_eq_true rfl) dX8_patch_31 (zm_Call.mono ((((kk.2 h1).2 h2).2 h3).1 h4) (fun r5 w5 u5 k5 => ?_))
          refine z_aload_n dX8_patch_34 rfl 0 rfl ?_
          refine z_getr (ci := 8) (j := 1) (r := 2) (T := TX8) rfl rfl hX8 rfl (by decide) fkX8_21 dX8_patch_35 ?_
          refine z_callVv (g' := gX5_clear) [] (q := 2) (ci := 5) (T := TX5) rfl rfl ⟨lkX8_73, pdX5_clear, by decide, by decide⟩ rfl rfl (Nat.le_of_ble_eq_true rfl) dX8_patch_38 (zm_Call.mono k5 (fun r6 w6 u6 k6 => ?_))
          refine z_aload_n dX8_patch_41 rfl 0 rfl ?_
          refine z_getr (ci := 8) (j := 4) (r := 8) (T := TX8) rfl rfl hX8 rfl (by decide) fkX8_44 dX8_patch_42 ?_
          refine z_callVv (g' := gX7_forget) [] (q := 8) (ci := 7) (T := TX7) rfl rfl ⟨lkX8_76, pdX7_forget, by decide, by decide⟩ rfl rfl (Nat.le_of_ble_eq_true rfl) dX8_patch_45 (zm_Call.mono k6 (fun r7 w7 u7 k7 => ?_))
          refine z_aload_n dX8_patch_48 rfl 0 rfl ?_
          refine z_getr (ci := 8) (j := 0) (r := 1) (T := TX8) rfl rfl hX8 rfl (by decide) fkX8_10 dX8_patch_49 ?_
          refine z_getiN (ci := 1) (j := 2) (T := TX1) rfl rfl hX1 rfl (by decide) fkX8_79 dX8_patch_52 ?_
          exact z_iret rfl dX8_patch_55 k7
        ·
          refine z_bipush (v := (-2)) dX8_patch_22 zcbipush_m2 ?_
          exact z_iret rfl dX8_patch_24 ((((kk.2 h1).2 h2).2 h3).2 h4)
theorem dX8_colours_0 : decode cX8_colours 0 = .ok (.iload_n 1, 1) := by decide +kernel
theorem dX8_colours_1 : decode cX8_colours 1 = .ok (.iconst 1, 1) := by decide +kernel
theorem dX8_colours_2 : decode cX8_colours 2 = .ok (.if_icmp .lt 8, 3) := by decide +kernel
theorem dX8_colours_5 : decode cX8_colours 5 = .ok (.iload_n 1, 1) := by decide +kernel
theorem dX8_colours_6 : decode cX8_colours 6 = .ok (.iconst 4, 1) := by decide +kernel
theorem dX8_colours_7 : decode cX8_colours 7 = .ok (.if_icmp .le 6, 3) := by decide +kernel
theorem dX8_colours_10 : decode cX8_colours 10 = .ok (.bipush (-2), 2) := by decide +kernel
theorem dX8_colours_12 : decode cX8_colours 12 = .ok (.ireturn, 1) := by decide +kernel
theorem dX8_colours_13 : decode cX8_colours 13 = .ok (.aload_n 0, 1) := by decide +kernel
theorem dX8_colours_14 : decode cX8_colours 14 = .ok (.getfield 21, 3) := by decide +kernel
theorem dX8_colours_17 : decode cX8_colours 17 = .ok (.getfield 83, 3) := by decide +kernel
theorem dX8_colours_20 : decode cX8_colours 20 = .ok (.istore_n 2, 1) := by decide +kernel
theorem dX8_colours_21 : decode cX8_colours 21 = .ok (.aload_n 0, 1) := by decide +kernel
theorem dX8_colours_22 : decode cX8_colours 22 = .ok (.getfield 21, 3) := by decide +kernel
theorem dX8_colours_25 : decode cX8_colours 25 = .ok (.iload_n 1, 1) := by decide +kernel
theorem dX8_colours_26 : decode cX8_colours 26 = .ok (.invokevirtual 86, 3) := by decide +kernel
theorem dX8_colours_29 : decode cX8_colours 29 = .ok (.iload_n 2, 1) := by decide +kernel
theorem dX8_colours_30 : decode cX8_colours 30 = .ok (.ireturn, 1) := by decide +kernel
theorem bX8_colours_0 (x1 : Int32) (mem : zm_Mem) (post : zm_Post) (kk : ((x1 < 1 → post (-2) 0 mem) ∧ (¬ x1 < 1 → ((x1 ≤ 4 → zm_Call gX5_allowHues [.ref 2, .int x1] mem (fun r3 w3 u3 => post (mem 2 3) 0 u3)) ∧ (¬ x1 ≤ 4 → post (-2) 0 mem))))) : zm_Call gX8_colours [.ref 0, .int x1] mem post := by
  refine z_entry (by decide) (Nat.le_of_ble_eq_true rfl) ?_
  show zm_Z gX8_colours post 0 [(0, .ref 0), (1, .int x1)] [] mem
  refine z_iload_n dX8_colours_0 rfl 1 rfl ?_
  refine z_iconst (v := 1) dX8_colours_1 zciconst_1 ?_
  refine z_icmp_lt (tgt := 10) dX8_colours_2 (by decide) (fun h1 => ?_) (fun h1 => ?_)
  ·
    refine z_bipush (v := (-2)) dX8_colours_10 zcbipush_m2 ?_
    exact z_iret rfl dX8_colours_12 (kk.1 h1)
  ·
    refine z_iload_n dX8_colours_5 rfl 1 rfl ?_
    refine z_iconst (v := 4) dX8_colours_6 zciconst_4 ?_
    refine z_icmp_le (tgt := 13) dX8_colours_7 (by decide) (fun h2 => ?_) (fun h2 => ?_)
    ·
      refine z_aload_n dX8_colours_13 rfl 0 rfl ?_
      refine z_getr (ci := 8) (j := 1) (r := 2) (T := TX8) rfl rfl hX8 rfl (by decide) fkX8_21 dX8_colours_14 ?_
      refine z_getiN (ci := 5) (j := 3) (T := TX5) rfl rfl hX5 rfl (by decide) fkX8_83 dX8_colours_17 ?_
      refine z_istore_n (lv' := [(2, .int (mem 2 3)), (0, .ref 0), (1, .int x1)]) dX8_colours_20 rfl (by decide) rfl ?_
      refine z_aload_n dX8_colours_21 rfl 1 rfl ?_
      refine z_getr (ci := 8) (j := 1) (r := 2) (T := TX8) rfl rfl hX8 rfl (by decide) fkX8_21 dX8_colours_22 ?_
      refine z_iload_n dX8_colours_25 rfl 2 rfl ?_
      refine z_callVv (g' := gX5_allowHues) [.int x1] (q := 2) (ci := 5) (T := TX5) rfl rfl ⟨lkX8_86, pdX5_allowHues, by decide, by decide⟩ rfl rfl (Nat.le_of_ble_eq_true rfl) dX8_colours_26 (zm_Call.mono ((kk.2 h1).1 h2) (fun r3 w3 u3 k3 => ?_))
      refine z_iload_n dX8_colours_29 rfl 0 rfl ?_
      exact z_iret rfl dX8_colours_30 k3
    ·
      refine z_bipush (v := (-2)) dX8_colours_10 zcbipush_m2 ?_
      exact z_iret rfl dX8_colours_12 ((kk.2 h1).2 h2)
theorem dX8_dye_0 : decode cX8_dye 0 = .ok (.aload_n 0, 1) := by decide +kernel
theorem dX8_dye_1 : decode cX8_dye 1 = .ok (.getfield 10, 3) := by decide +kernel
theorem dX8_dye_4 : decode cX8_dye 4 = .ok (.iload_n 1, 1) := by decide +kernel
theorem dX8_dye_5 : decode cX8_dye 5 = .ok (.invokevirtual 90, 3) := by decide +kernel
theorem dX8_dye_8 : decode cX8_dye 8 = .ok (.ifCond .ne 5, 3) := by decide +kernel
theorem dX8_dye_11 : decode cX8_dye 11 = .ok (.iconst (-1), 1) := by decide +kernel
theorem dX8_dye_12 : decode cX8_dye 12 = .ok (.ireturn, 1) := by decide +kernel
theorem dX8_dye_13 : decode cX8_dye 13 = .ok (.aload_n 0, 1) := by decide +kernel
theorem dX8_dye_14 : decode cX8_dye 14 = .ok (.getfield 21, 3) := by decide +kernel
theorem dX8_dye_17 : decode cX8_dye 17 = .ok (.iload_n 2, 1) := by decide +kernel
theorem dX8_dye_18 : decode cX8_dye 18 = .ok (.invokevirtual 94, 3) := by decide +kernel
theorem dX8_dye_21 : decode cX8_dye 21 = .ok (.ifCond .ne 6, 3) := by decide +kernel
theorem dX8_dye_24 : decode cX8_dye 24 = .ok (.bipush (-2), 2) := by decide +kernel
theorem dX8_dye_26 : decode cX8_dye 26 = .ok (.ireturn, 1) := by decide +kernel
theorem dX8_dye_27 : decode cX8_dye 27 = .ok (.aload_n 0, 1) := by decide +kernel
theorem dX8_dye_28 : decode cX8_dye 28 = .ok (.getfield 21, 3) := by decide +kernel
theorem dX8_dye_31 : decode cX8_dye 31 = .ok (.getfield 97, 3) := by decide +kernel
theorem dX8_dye_34 : decode cX8_dye 34 = .ok (.iload_n 1, 1) := by decide +kernel
theorem dX8_dye_35 : decode cX8_dye 35 = .ok (.iaload, 1) := by decide +kernel
theorem dX8_dye_36 : decode cX8_dye 36 = .ok (.istore_n 3, 1) := by decide +kernel
theorem dX8_dye_37 : decode cX8_dye 37 = .ok (.aload_n 0, 1) := by decide +kernel
theorem dX8_dye_38 : decode cX8_dye 38 = .ok (.getfield 21, 3) := by decide +kernel
theorem dX8_dye_41 : decode cX8_dye 41 = .ok (.getfield 97, 3) := by decide +kernel
theorem dX8_dye_44 : decode cX8_dye 44 = .ok (.iload_n 1, 1) := by decide +kernel
theorem dX8_dye_45 : decode cX8_dye 45 = .ok (.iload_n 2, 1) := by decide +kernel
theorem dX8_dye_46 : decode cX8_dye 46 = .ok (.iastore, 1) := by decide +kernel
theorem dX8_dye_47 : decode cX8_dye 47 = .ok (.iload_n 3, 1) := by decide +kernel
theorem dX8_dye_48 : decode cX8_dye 48 = .ok (.ireturn, 1) := by decide +kernel
theorem bX8_dye_0 (x1 : Int32) (x2 : Int32) (mem : zm_Mem) (post : zm_Post) (kk : zm_Call gX1_hasCell [.ref 1, .int x1] mem (fun r1 w1 u1 => ((¬ r1 = 0 → zm_Call gX5_allows [.ref 2, .int x2] u1 (fun r3 w3 u3 => ((¬ r3 = 0 → (vp_in x1 36 ∧ (vp_in x1 36 ∧ post (u3 3 (Int32.toNatClampNeg x1)) 0 (zm_st u3 3 (Int32.toNatClampNeg x1) x2)))) ∧ (r3 = 0 → post (-2) 0 u3)))) ∧ (r1 = 0 → post (-1) 0 u1)))) : zm_Call gX8_dye [.ref 0, .int x1, .int x2] mem post := by
  refine z_entry (by decide) (Nat.le_of_ble_eq_true rfl) ?_
  show zm_Z gX8_dye post 0 [(0, .ref 0), (1, .int x1), (2, .int x2)] [] mem
  refine z_aload_n dX8_dye_0 rfl 0 rfl ?_
  refine z_getr (ci := 8) (j := 0) (r := 1) (T := TX8) rfl rfl hX8 rfl (by decide) fkX8_10 dX8_dye_1 ?_
  refine z_iload_n dX8_dye_4 rfl 1 rfl ?_
  refine z_callVi (g' := gX1_hasCell) [.int x1] (q := 1) (ci := 1) (T := TX1) rfl rfl ⟨lkX8_90, pdX1_hasCell, by decide, by decide⟩ ⟨_, rfl, by decide⟩ rfl (Nat.le_of_ble_eq_true rfl) dX8_dye_5 (zm_Call.mono kk (fun r1 w1 u1 k1 => ?_))
  refine z_if_ne (tgt := 13) dX8_dye_8 (by decide) (fun h2 => ?_) (fun h2 => ?_)
  ·
    refine z_aload_n dX8_dye_13 rfl 0 rfl ?_
    refine z_getr (ci := 8) (j := 1) (r := 2) (T := TX8) rfl rfl hX8 rfl (by decide) fkX8_21 dX8_dye_14 ?_
    refine z_iload_n dX8_dye_17 rfl 2 rfl ?_
    refine z_callVi (g' := gX5_allows) [.int x2] (q := 2) (ci := 5) (T := TX5) rfl rfl ⟨lkX8_94, pdX5_allows, by decide, by decide⟩ ⟨_, rfl, by decide⟩ rfl (Nat.le_of_ble_eq_true rfl) dX8_dye_18 (zm_Call.mono (k1.1 h2) (fun r3 w3 u3 k3 => ?_))
    refine z_if_ne (tgt := 27) dX8_dye_21 (by decide) (fun h4 => ?_) (fun h4 => ?_)
    ·
      refine z_aload_n dX8_dye_27 rfl 0 rfl ?_
      refine z_getr (ci := 8) (j := 1) (r := 2) (T := TX8) rfl rfl hX8 rfl (by decide) fkX8_21 dX8_dye_28 ?_
      refine z_getrN (ci := 5) (j := 1) (r := 3) (T := TX5) rfl rfl hX5 rfl (by decide) fkX8_97 dX8_dye_31 ?_
      refine z_iload_n dX8_dye_34 rfl 1 rfl ?_
      refine z_iald (n := 36) rfl (k3.1 h4).1 dX8_dye_35 ?_
      refine z_istore_n (lv' := [(3, .int (u3 3 (Int32.toNatClampNeg x1))), (0, .ref 0), (1, .int x1), (2, .int x2)]) dX8_dye_36 rfl (by decide) rfl ?_
      refine z_aload_n dX8_dye_37 rfl 1 rfl ?_
      refine z_getr (ci := 8) (j := 1) (r := 2) (T := TX8) rfl rfl hX8 rfl (by decide) fkX8_21 dX8_dye_38 ?_
      refine z_getrN (ci := 5) (j := 1) (r := 3) (T := TX5) rfl rfl hX5 rfl (by decide) fkX8_97 dX8_dye_41 ?_
      refine z_iload_n dX8_dye_44 rfl 2 rfl ?_
      refine z_iload_n dX8_dye_45 rfl 3 rfl ?_
      refine z_iast (n := 36) rfl (k3.1 h4).2.1 dX8_dye_46 ?_
      refine z_iload_n dX8_dye_47 rfl 0 rfl ?_
      exact z_iret rfl dX8_dye_48 (k3.1 h4).2.2
    ·
      refine z_bipush (v := (-2)) dX8_dye_24 zcbipush_m2 ?_
      exact z_iret rfl dX8_dye_26 (k3.2 h4)
  ·
    refine z_iconst (v := (-1)) dX8_dye_11 zciconst_m1 ?_
    exact z_iret rfl dX8_dye_12 (k1.2 h2)
theorem dX8_dyes_0 : decode cX8_dyes 0 = .ok (.aload_n 0, 1) := by decide +kernel
theorem dX8_dyes_1 : decode cX8_dyes 1 = .ok (.getfield 10, 3) := by decide +kernel
theorem dX8_dyes_4 : decode cX8_dyes 4 = .ok (.iload_n 1, 1) := by decide +kernel
theorem dX8_dyes_5 : decode cX8_dyes 5 = .ok (.invokevirtual 90, 3) := by decide +kernel
theorem dX8_dyes_8 : decode cX8_dyes 8 = .ok (.ifCond .eq 16, 3) := by decide +kernel
theorem dX8_dyes_11 : decode cX8_dyes 11 = .ok (.iload_n 2, 1) := by decide +kernel
theorem dX8_dyes_12 : decode cX8_dyes 12 = .ok (.aload_n 0, 1) := by decide +kernel
theorem dX8_dyes_13 : decode cX8_dyes 13 = .ok (.getfield 10, 3) := by decide +kernel
theorem dX8_dyes_16 : decode cX8_dyes 16 = .ok (.getfield 79, 3) := by decide +kernel
theorem dX8_dyes_19 : decode cX8_dyes 19 = .ok (.iload_n 1, 1) := by decide +kernel
theorem dX8_dyes_20 : decode cX8_dyes 20 = .ok (.isub, 1) := by decide +kernel
theorem dX8_dyes_21 : decode cX8_dyes 21 = .ok (.if_icmp .le 5, 3) := by decide +kernel
theorem dX8_dyes_24 : decode cX8_dyes 24 = .ok (.iconst (-1), 1) := by decide +kernel
theorem dX8_dyes_25 : decode cX8_dyes 25 = .ok (.ireturn, 1) := by decide +kernel
theorem dX8_dyes_26 : decode cX8_dyes 26 = .ok (.iload_n 2, 1) := by decide +kernel
theorem dX8_dyes_27 : decode cX8_dyes 27 = .ok (.iconst 1, 1) := by decide +kernel
theorem dX8_dyes_28 : decode cX8_dyes 28 = .ok (.if_icmp .lt 21, 3) := by decide +kernel
theorem dX8_dyes_31 : decode cX8_dyes 31 = .ok (.iload_n 2, 1) := by decide +kernel
theorem dX8_dyes_32 : decode cX8_dyes 32 = .ok (.bipush 9, 2) := by decide +kernel
theorem dX8_dyes_34 : decode cX8_dyes 34 = .ok (.if_icmp .gt 15, 3) := by decide +kernel
theorem dX8_dyes_37 : decode cX8_dyes 37 = .ok (.aload_n 0, 1) := by decide +kernel
theorem dX8_dyes_38 : decode cX8_dyes 38 = .ok (.getfield 21, 3) := by decide +kernel
theorem dX8_dyes_41 : decode cX8_dyes 41 = .ok (.iload_n 2, 1) := by decide +kernel
theorem dX8_dyes_42 : decode cX8_dyes 42 = .ok (.iload_n 3, 1) := by decide +kernel
theorem dX8_dyes_43 : decode cX8_dyes 43 = .ok (.invokevirtual 101, 3) := by decide +kernel
theorem dX8_dyes_46 : decode cX8_dyes 46 = .ok (.ifCond .ne 6, 3) := by decide +kernel
theorem dX8_dyes_49 : decode cX8_dyes 49 = .ok (.bipush (-2), 2) := by decide +kernel
theorem dX8_dyes_51 : decode cX8_dyes 51 = .ok (.ireturn, 1) := by decide +kernel
theorem dX8_dyes_52 : decode cX8_dyes 52 = .ok (.aload_n 0, 1) := by decide +kernel
theorem dX8_dyes_53 : decode cX8_dyes 53 = .ok (.getfield 21, 3) := by decide +kernel
theorem dX8_dyes_56 : decode cX8_dyes 56 = .ok (.iload_n 1, 1) := by decide +kernel
theorem dX8_dyes_57 : decode cX8_dyes 57 = .ok (.iload_n 2, 1) := by decide +kernel
theorem dX8_dyes_58 : decode cX8_dyes 58 = .ok (.iload_n 3, 1) := by decide +kernel
theorem dX8_dyes_59 : decode cX8_dyes 59 = .ok (.invokevirtual 105, 3) := by decide +kernel
theorem dX8_dyes_62 : decode cX8_dyes 62 = .ok (.ireturn, 1) := by decide +kernel
theorem bX8_dyes_0 (x1 : Int32) (x2 : Int32) (x3 : Int32) (mem : zm_Mem) (post : zm_Post) (kk : zm_Call gX1_hasCell [.ref 1, .int x1] mem (fun r1 w1 u1 => ((r1 = 0 → post (-1) 0 u1) ∧ (¬ r1 = 0 → ((x2 ≤ ((u1 1 2) - x1) → ((x2 < 1 → post (-2) 0 u1) ∧ (¬ x2 < 1 → ((9 < x2 → post (-2) 0 u1) ∧ (¬ 9 < x2 → zm_Call gX5_allowsFigures [.ref 2, .int x2, .int x3] u1 (fun r6 w6 u6 => ((¬ r6 = 0 → zm_Call gX5_dyeFigures [.ref 2, .int x1, .int x2, .int x3] u6 (fun r8 w8 u8 => post r8 0 u8)) ∧ (r6 = 0 → post (-2) 0 u6)))))))) ∧ (¬ x2 ≤ ((u1 1 2) - x1) → post (-1) 0 u1)))))) : zm_Call gX8_dyes [.ref 0, .int x1, .int x2, .int x3] mem post := by
  refine z_entry (by decide) (Nat.le_of_ble_eq_true rfl) ?_
  show zm_Z gX8_dyes post 0 [(0, .ref 0), (1, .int x1), (2, .int x2), (3, .int x3)] [] mem
  refine z_aload_n dX8_dyes_0 rfl 0 rfl ?_
  refine z_getr (ci := 8) (j := 0) (r := 1) (T := TX8) rfl rfl hX8 rfl (by decide) fkX8_10 dX8_dyes_1 ?_
  refine z_iload_n dX8_dyes_4 rfl 1 rfl ?_
  refine z_callVi (g' := gX1_hasCell) [.int x1] (q := 1) (ci := 1) (T := TX1) rfl rfl ⟨lkX8_90, pdX1_hasCell, by decide, by decide⟩ ⟨_, rfl, by decide⟩ rfl (Nat.le_of_ble_eq_true rfl) dX8_dyes_5 (zm_Call.mono kk (fun r1 w1 u1 k1 => ?_))
  refine z_if_eq (tgt := 24) dX8_dyes_8 (by decide) (fun h2 => ?_) (fun h2 => ?_)
  ·
    refine z_iconst (v := (-1)) dX8_dyes_24 zciconst_m1 ?_
    exact z_iret rfl dX8_dyes_25 (k1.1 h2)
  ·
    refine z_iload_n dX8_dyes_11 rfl 2 rfl ?_
    refine z_aload_n dX8_dyes_12 rfl 0 rfl ?_
    refine z_getr (ci := 8) (j := 0) (r := 1) (T := TX8) rfl rfl hX8 rfl (by decide) fkX8_10 dX8_dyes_13 ?_
    refine z_getiN (ci := 1) (j := 2) (T := TX1) rfl rfl hX1 rfl (by decide) fkX8_79 dX8_dyes_16 ?_
    refine z_iload_n dX8_dyes_19 rfl 1 rfl ?_
    refine z_isub dX8_dyes_20 ?_
    refine z_icmp_le (tgt := 26) dX8_dyes_21 (by decide) (fun h3 => ?_) (fun h3 => ?_)
    ·
      refine z_iload_n dX8_dyes_26 rfl 2 rfl ?_
      refine z_iconst (v := 1) dX8_dyes_27 zciconst_1 ?_
      refine z_icmp_lt (tgt := 49) dX8_dyes_28 (by decide) (fun h4 => ?_) (fun h4 => ?_)
      ·
        refine z_bipush (v := (-2)) dX8_dyes_49 zcbipush_m2 ?_
        exact z_iret rfl dX8_dyes_51 (((k1.2 h2).1 h3).1 h4)
      ·
        refine z_iload_n dX8_dyes_31 rfl 2 rfl ?_
        refine z_bipush (v := 9) dX8_dyes_32 zcbipush_9 ?_
        refine z_icmp_gt (tgt := 49) dX8_dyes_34 (by decide) (fun h5 => ?_) (fun h5 => ?_)
        ·
          refine z_bipush (v := (-2)) dX8_dyes_49 zcbipush_m2 ?_
          exact z_iret rfl dX8_dyes_51 ((((k1.2 h2).1 h3).2 h4).1 h5)
        ·
          refine z_aload_n dX8_dyes_37 rfl 0 rfl ?_
          refine z_getr (ci := 8) (j := 1) (r := 2) (T := TX8) rfl rfl hX8 rfl (by decide) fkX8_21 dX8_dyes_38 ?_
          refine z_iload_n dX8_dyes_41 rfl 2 rfl ?_
          refine z_iload_n dX8_dyes_42 rfl 3 rfl ?_
          refine z_callVi (g' := gX5_allowsFigures) [.int x2, .int x3] (q := 2) (ci := 5) (T := TX5) rfl rfl ⟨lkX8_101, pdX5_allowsFigures, by decide, by decide⟩ ⟨_, rfl, by decide⟩ rfl (Nat.le_of_ble_eq_true rfl) dX8_dyes_43 (zm_Call.mono ((((k1.2 h2).1 h3).2 h4).2 h5) (fun r6 w6 u6 k6 => ?_))
          refine z_if_ne (tgt := 52) dX8_dyes_46 (by decide) (fun h7 => ?_) (fun h7 => ?_)
          ·
            refine z_aload_n dX8_dyes_52 rfl 0 rfl ?_
            refine z_getr (ci := 8) (j := 1) (r := 2) (T := TX8) rfl rfl hX8 rfl (by decide) fkX8_21 dX8_dyes_53 ?_
            refine z_iload_n dX8_dyes_56 rfl 1 rfl ?_
            refine z_iload_n dX8_dyes_57 rfl 2 rfl ?_
            refine z_iload_n dX8_dyes_58 rfl 3 rfl ?_
            refine z_callVi (g' := gX5_dyeFigures) [.int x1, .int x2, .int x3] (q := 2) (ci := 5) (T := TX5) rfl rfl ⟨lkX8_105, pdX5_dyeFigures, by decide, by decide⟩ ⟨_, rfl, by decide⟩ rfl (Nat.le_of_ble_eq_true rfl) dX8_dyes_59 (zm_Call.mono (k6.1 h7) (fun r8 w8 u8 k8 => ?_))
            exact z_iret rfl dX8_dyes_62 k8
          ·
            refine z_bipush (v := (-2)) dX8_dyes_49 zcbipush_m2 ?_
            exact z_iret rfl dX8_dyes_51 (k6.2 h7)
    ·
      refine z_iconst (v := (-1)) dX8_dyes_24 zciconst_m1 ?_
      exact z_iret rfl dX8_dyes_25 ((k1.2 h2).2 h3)
theorem dX8_at_0 : decode cX8_at 0 = .ok (.aload_n 0, 1) := by decide +kernel
theorem dX8_at_1 : decode cX8_at 1 = .ok (.getfield 10, 3) := by decide +kernel
theorem dX8_at_4 : decode cX8_at 4 = .ok (.iload_n 1, 1) := by decide +kernel
theorem dX8_at_5 : decode cX8_at 5 = .ok (.invokevirtual 90, 3) := by decide +kernel
theorem dX8_at_8 : decode cX8_at 8 = .ok (.ifCond .eq 15, 3) := by decide +kernel
theorem dX8_at_11 : decode cX8_at 11 = .ok (.aload_n 0, 1) := by decide +kernel
theorem dX8_at_12 : decode cX8_at 12 = .ok (.getfield 21, 3) := by decide +kernel
theorem dX8_at_15 : decode cX8_at 15 = .ok (.getfield 97, 3) := by decide +kernel
theorem dX8_at_18 : decode cX8_at 18 = .ok (.iload_n 1, 1) := by decide +kernel
theorem dX8_at_19 : decode cX8_at 19 = .ok (.iaload, 1) := by decide +kernel
theorem dX8_at_20 : decode cX8_at 20 = .ok (.goto 4, 3) := by decide +kernel
theorem dX8_at_23 : decode cX8_at 23 = .ok (.iconst (-1), 1) := by decide +kernel
theorem dX8_at_24 : decode cX8_at 24 = .ok (.ireturn, 1) := by decide +kernel
theorem bX8_at_0 (x1 : Int32) (mem : zm_Mem) (post : zm_Post) (kk : zm_Call gX1_hasCell [.ref 1, .int x1] mem (fun r1 w1 u1 => ((r1 = 0 → post (-1) 0 u1) ∧ (¬ r1 = 0 → (vp_in x1 36 ∧ post (u1 3 (Int32.toNatClampNeg x1)) 0 u1))))) : zm_Call gX8_at [.ref 0, .int x1] mem post := by
  refine z_entry (by decide) (Nat.le_of_ble_eq_true rfl) ?_
  show zm_Z gX8_at post 0 [(0, .ref 0), (1, .int x1)] [] mem
  refine z_aload_n dX8_at_0 rfl 0 rfl ?_
  refine z_getr (ci := 8) (j := 0) (r := 1) (T := TX8) rfl rfl hX8 rfl (by decide) fkX8_10 dX8_at_1 ?_
  refine z_iload_n dX8_at_4 rfl 1 rfl ?_
  refine z_callVi (g' := gX1_hasCell) [.int x1] (q := 1) (ci := 1) (T := TX1) rfl rfl ⟨lkX8_90, pdX1_hasCell, by decide, by decide⟩ ⟨_, rfl, by decide⟩ rfl (Nat.le_of_ble_eq_true rfl) dX8_at_5 (zm_Call.mono kk (fun r1 w1 u1 k1 => ?_))
  refine z_if_eq (tgt := 23) dX8_at_8 (by decide) (fun h2 => ?_) (fun h2 => ?_)
  ·
    refine z_iconst (v := (-1)) dX8_at_23 zciconst_m1 ?_
    exact z_iret rfl dX8_at_24 (k1.1 h2)
  ·
    refine z_aload_n dX8_at_11 rfl 0 rfl ?_
    refine z_getr (ci := 8) (j := 1) (r := 2) (T := TX8) rfl rfl hX8 rfl (by decide) fkX8_21 dX8_at_12 ?_
    refine z_getrN (ci := 5) (j := 1) (r := 3) (T := TX5) rfl rfl hX5 rfl (by decide) fkX8_97 dX8_at_15 ?_
    refine z_iload_n dX8_at_18 rfl 1 rfl ?_
    refine z_iald (n := 36) rfl (k1.2 h2).1 dX8_at_19 ?_
    refine z_goto (tgt := 24) dX8_at_20 (by decide) ?_
    exact z_iret rfl dX8_at_24 (k1.2 h2).2
theorem dX8_moves_0 : decode cX8_moves 0 = .ok (.aload_n 0, 1) := by decide +kernel
theorem dX8_moves_1 : decode cX8_moves 1 = .ok (.getfield 10, 3) := by decide +kernel
theorem dX8_moves_4 : decode cX8_moves 4 = .ok (.invokevirtual 109, 3) := by decide +kernel
theorem dX8_moves_7 : decode cX8_moves 7 = .ok (.ireturn, 1) := by decide +kernel
theorem bX8_moves_0 (mem : zm_Mem) (post : zm_Post) (kk : zm_Call gX1_moveCount [.ref 1] mem (fun r1 w1 u1 => post r1 0 u1)) : zm_Call gX8_moves [.ref 0] mem post := by
  refine z_entry (by decide) (Nat.le_of_ble_eq_true rfl) ?_
  show zm_Z gX8_moves post 0 [(0, .ref 0)] [] mem
  refine z_aload_n dX8_moves_0 rfl 0 rfl ?_
  refine z_getr (ci := 8) (j := 0) (r := 1) (T := TX8) rfl rfl hX8 rfl (by decide) fkX8_10 dX8_moves_1 ?_
  refine z_callVi (g' := gX1_moveCount) [] (q := 1) (ci := 1) (T := TX1) rfl rfl ⟨lkX8_109, pdX1_moveCount, by decide, by decide⟩ ⟨_, rfl, by decide⟩ rfl (Nat.le_of_ble_eq_true rfl) dX8_moves_4 (zm_Call.mono kk (fun r1 w1 u1 k1 => ?_))
  exact z_iret rfl dX8_moves_7 k1
theorem dX8_lead_0 : decode cX8_lead 0 = .ok (.aload_n 0, 1) := by decide +kernel
theorem dX8_lead_1 : decode cX8_lead 1 = .ok (.getfield 10, 3) := by decide +kernel
theorem dX8_lead_4 : decode cX8_lead 4 = .ok (.iload_n 1, 1) := by decide +kernel
theorem dX8_lead_5 : decode cX8_lead 5 = .ok (.invokevirtual 113, 3) := by decide +kernel
theorem dX8_lead_8 : decode cX8_lead 8 = .ok (.ifCond .eq 26, 3) := by decide +kernel
theorem dX8_lead_11 : decode cX8_lead 11 = .ok (.aload_n 0, 1) := by decide +kernel
theorem dX8_lead_12 : decode cX8_lead 12 = .ok (.getfield 10, 3) := by decide +kernel
theorem dX8_lead_15 : decode cX8_lead 15 = .ok (.iload_n 2, 1) := by decide +kernel
theorem dX8_lead_16 : decode cX8_lead 16 = .ok (.invokevirtual 90, 3) := by decide +kernel
theorem dX8_lead_19 : decode cX8_lead 19 = .ok (.ifCond .eq 15, 3) := by decide +kernel
theorem dX8_lead_22 : decode cX8_lead 22 = .ok (.aload_n 0, 1) := by decide +kernel
theorem dX8_lead_23 : decode cX8_lead 23 = .ok (.getfield 10, 3) := by decide +kernel
theorem dX8_lead_26 : decode cX8_lead 26 = .ok (.iload_n 1, 1) := by decide +kernel
theorem dX8_lead_27 : decode cX8_lead 27 = .ok (.iload_n 2, 1) := by decide +kernel
theorem dX8_lead_28 : decode cX8_lead 28 = .ok (.invokevirtual 116, 3) := by decide +kernel
theorem dX8_lead_31 : decode cX8_lead 31 = .ok (.goto 4, 3) := by decide +kernel
theorem dX8_lead_34 : decode cX8_lead 34 = .ok (.iconst (-1), 1) := by decide +kernel
theorem dX8_lead_35 : decode cX8_lead 35 = .ok (.ireturn, 1) := by decide +kernel
theorem bX8_lead_0 (x1 : Int32) (x2 : Int32) (mem : zm_Mem) (post : zm_Post) (kk : zm_Call gX1_hasMove [.ref 1, .int x1] mem (fun r1 w1 u1 => ((r1 = 0 → post (-1) 0 u1) ∧ (¬ r1 = 0 → zm_Call gX1_hasCell [.ref 1, .int x2] u1 (fun r3 w3 u3 => ((r3 = 0 → post (-1) 0 u3) ∧ (¬ r3 = 0 → zm_Call gX1_target [.ref 1, .int x1, .int x2] u3 (fun r5 w5 u5 => post r5 0 u5)))))))) : zm_Call gX8_lead [.ref 0, .int x1, .int x2] mem post := by
  refine z_entry (by decide) (Nat.le_of_ble_eq_true rfl) ?_
  show zm_Z gX8_lead post 0 [(0, .ref 0), (1, .int x1), (2, .int x2)] [] mem
  refine z_aload_n dX8_lead_0 rfl 0 rfl ?_
  refine z_getr (ci := 8) (j := 0) (r := 1) (T := TX8) rfl rfl hX8 rfl (by decide) fkX8_10 dX8_lead_1 ?_
  refine z_iload_n dX8_lead_4 rfl 1 rfl ?_
  refine z_callVi (g' := gX1_hasMove) [.int x1] (q := 1) (ci := 1) (T := TX1) rfl rfl ⟨lkX8_113, pdX1_hasMove, by decide, by decide⟩ ⟨_, rfl, by decide⟩ rfl (Nat.le_of_ble_eq_true rfl) dX8_lead_5 (zm_Call.mono kk (fun r1 w1 u1 k1 => ?_))
  refine z_if_eq (tgt := 34) dX8_lead_8 (by decide) (fun h2 => ?_) (fun h2 => ?_)
  ·
    refine z_iconst (v := (-1)) dX8_lead_34 zciconst_m1 ?_
    exact z_iret rfl dX8_lead_35 (k1.1 h2)
  ·
    refine z_aload_n dX8_lead_11 rfl 0 rfl ?_
    refine z_getr (ci := 8) (j := 0) (r := 1) (T := TX8) rfl rfl hX8 rfl (by decide) fkX8_10 dX8_lead_12 ?_
    refine z_iload_n dX8_lead_15 rfl 2 rfl ?_
    refine z_callVi (g' := gX1_hasCell) [.int x2] (q := 1) (ci := 1) (T := TX1) rfl rfl ⟨lkX8_90, pdX1_hasCell, by decide, by decide⟩ ⟨_, rfl, by decide⟩ rfl (Nat.le_of_ble_eq_true rfl) dX8_lead_16 (zm_Call.mono (k1.2 h2) (fun r3 w3 u3 k3 => ?_))
    refine z_if_eq (tgt := 34) dX8_lead_19 (by decide) (fun h4 => ?_) (fun h4 => ?_)
    ·
      refine z_iconst (v := (-1)) dX8_lead_34 zciconst_m1 ?_
      exact z_iret rfl dX8_lead_35 (k3.1 h4)
    ·
      refine z_aload_n dX8_lead_22 rfl 0 rfl ?_
      refine z_getr (ci := 8) (j := 0) (r := 1) (T := TX8) rfl rfl hX8 rfl (by decide) fkX8_10 dX8_lead_23 ?_
      refine z_iload_n dX8_lead_26 rfl 1 rfl ?_
      refine z_iload_n dX8_lead_27 rfl 2 rfl ?_
      refine z_callVi (g' := gX1_target) [.int x1, .int x2] (q := 1) (ci := 1) (T := TX1) rfl rfl ⟨lkX8_116, pdX1_target, by decide, by decide⟩ ⟨_, rfl, by decide⟩ rfl (Nat.le_of_ble_eq_true rfl) dX8_lead_28 (zm_Call.mono (k3.2 h4) (fun r5 w5 u5 k5 => ?_))
      refine z_goto (tgt := 35) dX8_lead_31 (by decide) ?_
      exact z_iret rfl dX8_lead_35 k5
theorem dX8_behind_0 : decode cX8_behind 0 = .ok (.aload_n 0, 1) := by decide +kernel
theorem dX8_behind_1 : decode cX8_behind 1 = .ok (.getfield 10, 3) := by decide +kernel
theorem dX8_behind_4 : decode cX8_behind 4 = .ok (.iload_n 1, 1) := by decide +kernel
theorem dX8_behind_5 : decode cX8_behind 5 = .ok (.invokevirtual 113, 3) := by decide +kernel
theorem dX8_behind_8 : decode cX8_behind 8 = .ok (.ifCond .eq 26, 3) := by decide +kernel
theorem dX8_behind_11 : decode cX8_behind 11 = .ok (.aload_n 0, 1) := by decide +kernel
theorem dX8_behind_12 : decode cX8_behind 12 = .ok (.getfield 10, 3) := by decide +kernel
theorem dX8_behind_15 : decode cX8_behind 15 = .ok (.iload_n 2, 1) := by decide +kernel
theorem dX8_behind_16 : decode cX8_behind 16 = .ok (.invokevirtual 113, 3) := by decide +kernel
theorem dX8_behind_19 : decode cX8_behind 19 = .ok (.ifCond .eq 15, 3) := by decide +kernel
theorem dX8_behind_22 : decode cX8_behind 22 = .ok (.aload_n 0, 1) := by decide +kernel
theorem dX8_behind_23 : decode cX8_behind 23 = .ok (.getfield 10, 3) := by decide +kernel
theorem dX8_behind_26 : decode cX8_behind 26 = .ok (.iload_n 1, 1) := by decide +kernel
theorem dX8_behind_27 : decode cX8_behind 27 = .ok (.iload_n 2, 1) := by decide +kernel
theorem dX8_behind_28 : decode cX8_behind 28 = .ok (.invokevirtual 120, 3) := by decide +kernel
theorem dX8_behind_31 : decode cX8_behind 31 = .ok (.goto 4, 3) := by decide +kernel
theorem dX8_behind_34 : decode cX8_behind 34 = .ok (.iconst (-1), 1) := by decide +kernel
theorem dX8_behind_35 : decode cX8_behind 35 = .ok (.ireturn, 1) := by decide +kernel
theorem bX8_behind_0 (x1 : Int32) (x2 : Int32) (mem : zm_Mem) (post : zm_Post) (kk : zm_Call gX1_hasMove [.ref 1, .int x1] mem (fun r1 w1 u1 => ((r1 = 0 → post (-1) 0 u1) ∧ (¬ r1 = 0 → zm_Call gX1_hasMove [.ref 1, .int x2] u1 (fun r3 w3 u3 => ((r3 = 0 → post (-1) 0 u3) ∧ (¬ r3 = 0 → zm_Call gX1_join [.ref 1, .int x1, .int x2] u3 (fun r5 w5 u5 => post r5 0 u5)))))))) : zm_Call gX8_behind [.ref 0, .int x1, .int x2] mem post := by
  refine z_entry (by decide) (Nat.le_of_ble_eq_true rfl) ?_
  show zm_Z gX8_behind post 0 [(0, .ref 0), (1, .int x1), (2, .int x2)] [] mem
  refine z_aload_n dX8_behind_0 rfl 0 rfl ?_
  refine z_getr (ci := 8) (j := 0) (r := 1) (T := TX8) rfl rfl hX8 rfl (by decide) fkX8_10 dX8_behind_1 ?_
  refine z_iload_n dX8_behind_4 rfl 1 rfl ?_
  refine z_callVi (g' := gX1_hasMove) [.int x1] (q := 1) (ci := 1) (T := TX1) rfl rfl ⟨lkX8_113, pdX1_hasMove, by decide, by decide⟩ ⟨_, rfl, by decide⟩ rfl (Nat.le_of_ble_eq_true rfl) dX8_behind_5 (zm_Call.mono kk (fun r1 w1 u1 k1 => ?_))
  refine z_if_eq (tgt := 34) dX8_behind_8 (by decide) (fun h2 => ?_) (fun h2 => ?_)
  ·
    refine z_iconst (v := (-1)) dX8_behind_34 zciconst_m1 ?_
    exact z_iret rfl dX8_behind_35 (k1.1 h2)
  ·
    refine z_aload_n dX8_behind_11 rfl 0 rfl ?_
    refine z_getr (ci := 8) (j := 0) (r := 1) (T := TX8) rfl rfl hX8 rfl (by decide) fkX8_10 dX8_behind_12 ?_
    refine z_iload_n dX8_behind_15 rfl 2 rfl ?_
    refine z_callVi (g' := gX1_hasMove) [.int x2] (q := 1) (ci := 1) (T := TX1) rfl rfl ⟨lkX8_113, pdX1_hasMove, by decide, by decide⟩ ⟨_, rfl, by decide⟩ rfl (Nat.le_of_ble_eq_true rfl) dX8_behind_16 (zm_Call.mono (k1.2 h2) (fun r3 w3 u3 k3 => ?_))
    refine z_if_eq (tgt := 34) dX8_behind_19 (by decide) (fun h4 => ?_) (fun h4 => ?_)
    ·
      refine z_iconst (v := (-1)) dX8_behind_34 zciconst_m1 ?_
      exact z_iret rfl dX8_behind_35 (k3.1 h4)
    ·
      refine z_aload_n dX8_behind_22 rfl 0 rfl ?_
      refine z_getr (ci := 8) (j := 0) (r := 1) (T := TX8) rfl rfl hX8 rfl (by decide) fkX8_10 dX8_behind_23 ?_
      refine z_iload_n dX8_behind_26 rfl 1 rfl ?_
      refine z_iload_n dX8_behind_27 rfl 2 rfl ?_
      refine z_callVi (g' := gX1_join) [.int x1, .int x2] (q := 1) (ci := 1) (T := TX1) rfl rfl ⟨lkX8_120, pdX1_join, by decide, by decide⟩ ⟨_, rfl, by decide⟩ rfl (Nat.le_of_ble_eq_true rfl) dX8_behind_28 (zm_Call.mono (k3.2 h4) (fun r5 w5 u5 k5 => ?_))
      refine z_goto (tgt := 35) dX8_behind_31 (by decide) ?_
      exact z_iret rfl dX8_behind_35 k5
theorem dX8_back_0 : decode cX8_back 0 = .ok (.aload_n 0, 1) := by decide +kernel
theorem dX8_back_1 : decode cX8_back 1 = .ok (.getfield 10, 3) := by decide +kernel
theorem dX8_back_4 : decode cX8_back 4 = .ok (.iload_n 1, 1) := by decide +kernel
theorem dX8_back_5 : decode cX8_back 5 = .ok (.invokevirtual 113, 3) := by decide +kernel
theorem dX8_back_8 : decode cX8_back 8 = .ok (.ifCond .eq 14, 3) := by decide +kernel
theorem dX8_back_11 : decode cX8_back 11 = .ok (.aload_n 0, 1) := by decide +kernel
theorem dX8_back_12 : decode cX8_back 12 = .ok (.getfield 10, 3) := by decide +kernel
theorem dX8_back_15 : decode cX8_back 15 = .ok (.iload_n 1, 1) := by decide +kernel
theorem dX8_back_16 : decode cX8_back 16 = .ok (.invokevirtual 123, 3) := by decide +kernel
theorem dX8_back_19 : decode cX8_back 19 = .ok (.goto 4, 3) := by decide +kernel
theorem dX8_back_22 : decode cX8_back 22 = .ok (.iconst (-1), 1) := by decide +kernel
theorem dX8_back_23 : decode cX8_back 23 = .ok (.ireturn, 1) := by decide +kernel
theorem bX8_back_0 (x1 : Int32) (mem : zm_Mem) (post : zm_Post) (kk : zm_Call gX1_hasMove [.ref 1, .int x1] mem (fun r1 w1 u1 => ((r1 = 0 → post (-1) 0 u1) ∧ (¬ r1 = 0 → zm_Call gX1_undoing [.ref 1, .int x1] u1 (fun r3 w3 u3 => post r3 0 u3))))) : zm_Call gX8_back [.ref 0, .int x1] mem post := by
  refine z_entry (by decide) (Nat.le_of_ble_eq_true rfl) ?_
  show zm_Z gX8_back post 0 [(0, .ref 0), (1, .int x1)] [] mem
  refine z_aload_n dX8_back_0 rfl 0 rfl ?_
  refine z_getr (ci := 8) (j := 0) (r := 1) (T := TX8) rfl rfl hX8 rfl (by decide) fkX8_10 dX8_back_1 ?_
  refine z_iload_n dX8_back_4 rfl 1 rfl ?_
  refine z_callVi (g' := gX1_hasMove) [.int x1] (q := 1) (ci := 1) (T := TX1) rfl rfl ⟨lkX8_113, pdX1_hasMove, by decide, by decide⟩ ⟨_, rfl, by decide⟩ rfl (Nat.le_of_ble_eq_true rfl) dX8_back_5 (zm_Call.mono kk (fun r1 w1 u1 k1 => ?_))
  refine z_if_eq (tgt := 22) dX8_back_8 (by decide) (fun h2 => ?_) (fun h2 => ?_)
  ·
    refine z_iconst (v := (-1)) dX8_back_22 zciconst_m1 ?_
    exact z_iret rfl dX8_back_23 (k1.1 h2)
  ·
    refine z_aload_n dX8_back_11 rfl 0 rfl ?_
    refine z_getr (ci := 8) (j := 0) (r := 1) (T := TX8) rfl rfl hX8 rfl (by decide) fkX8_10 dX8_back_12 ?_
    refine z_iload_n dX8_back_15 rfl 1 rfl ?_
    refine z_callVi (g' := gX1_undoing) [.int x1] (q := 1) (ci := 1) (T := TX1) rfl rfl ⟨lkX8_123, pdX1_undoing, by decide, by decide⟩ ⟨_, rfl, by decide⟩ rfl (Nat.le_of_ble_eq_true rfl) dX8_back_16 (zm_Call.mono (k1.2 h2) (fun r3 w3 u3 k3 => ?_))
    refine z_goto (tgt := 23) dX8_back_19 (by decide) ?_
    exact z_iret rfl dX8_back_23 k3
theorem dX8_order_0 : decode cX8_order 0 = .ok (.aload_n 0, 1) := by decide +kernel
theorem dX8_order_1 : decode cX8_order 1 = .ok (.getfield 10, 3) := by decide +kernel
theorem dX8_order_4 : decode cX8_order 4 = .ok (.iload_n 1, 1) := by decide +kernel
theorem dX8_order_5 : decode cX8_order 5 = .ok (.invokevirtual 113, 3) := by decide +kernel
theorem dX8_order_8 : decode cX8_order 8 = .ok (.ifCond .eq 14, 3) := by decide +kernel
theorem dX8_order_11 : decode cX8_order 11 = .ok (.aload_n 0, 1) := by decide +kernel
theorem dX8_order_12 : decode cX8_order 12 = .ok (.getfield 10, 3) := by decide +kernel
theorem dX8_order_15 : decode cX8_order 15 = .ok (.iload_n 1, 1) := by decide +kernel
theorem dX8_order_16 : decode cX8_order 16 = .ok (.invokevirtual 127, 3) := by decide +kernel
theorem dX8_order_19 : decode cX8_order 19 = .ok (.goto 4, 3) := by decide +kernel
theorem dX8_order_22 : decode cX8_order 22 = .ok (.iconst (-1), 1) := by decide +kernel
theorem dX8_order_23 : decode cX8_order 23 = .ok (.ireturn, 1) := by decide +kernel
theorem bX8_order_0 (x1 : Int32) (mem : zm_Mem) (post : zm_Post) (kk : zm_Call gX1_hasMove [.ref 1, .int x1] mem (fun r1 w1 u1 => ((r1 = 0 → post (-1) 0 u1) ∧ (¬ r1 = 0 → zm_Call gX1_timesTillStill [.ref 1, .int x1] u1 (fun r3 w3 u3 => post r3 0 u3))))) : zm_Call gX8_order [.ref 0, .int x1] mem post := by
  refine z_entry (by decide) (Nat.le_of_ble_eq_true rfl) ?_
  show zm_Z gX8_order post 0 [(0, .ref 0), (1, .int x1)] [] mem
  refine z_aload_n dX8_order_0 rfl 0 rfl ?_
  refine z_getr (ci := 8) (j := 0) (r := 1) (T := TX8) rfl rfl hX8 rfl (by decide) fkX8_10 dX8_order_1 ?_
  refine z_iload_n dX8_order_4 rfl 1 rfl ?_
  refine z_callVi (g' := gX1_hasMove) [.int x1] (q := 1) (ci := 1) (T := TX1) rfl rfl ⟨lkX8_113, pdX1_hasMove, by decide, by decide⟩ ⟨_, rfl, by decide⟩ rfl (Nat.le_of_ble_eq_true rfl) dX8_order_5 (zm_Call.mono kk (fun r1 w1 u1 k1 => ?_))
  refine z_if_eq (tgt := 22) dX8_order_8 (by decide) (fun h2 => ?_) (fun h2 => ?_)
  ·
    refine z_iconst (v := (-1)) dX8_order_22 zciconst_m1 ?_
    exact z_iret rfl dX8_order_23 (k1.1 h2)
  ·
    refine z_aload_n dX8_order_11 rfl 0 rfl ?_
    refine z_getr (ci := 8) (j := 0) (r := 1) (T := TX8) rfl rfl hX8 rfl (by decide) fkX8_10 dX8_order_12 ?_
    refine z_iload_n dX8_order_15 rfl 1 rfl ?_
    refine z_callVi (g' := gX1_timesTillStill) [.int x1] (q := 1) (ci := 1) (T := TX1) rfl rfl ⟨lkX8_127, pdX1_timesTillStill, by decide, by decide⟩ ⟨_, rfl, by decide⟩ rfl (Nat.le_of_ble_eq_true rfl) dX8_order_16 (zm_Call.mono (k1.2 h2) (fun r3 w3 u3 k3 => ?_))
    refine z_goto (tgt := 23) dX8_order_19 (by decide) ?_
    exact z_iret rfl dX8_order_23 k3
theorem dX8_oneIf_0 : decode cX8_oneIf 0 = .ok (.iload_n 0, 1) := by decide +kernel
theorem dX8_oneIf_1 : decode cX8_oneIf 1 = .ok (.ifCond .eq 7, 3) := by decide +kernel
theorem dX8_oneIf_4 : decode cX8_oneIf 4 = .ok (.iconst 1, 1) := by decide +kernel
theorem dX8_oneIf_5 : decode cX8_oneIf 5 = .ok (.goto 4, 3) := by decide +kernel
theorem dX8_oneIf_8 : decode cX8_oneIf 8 = .ok (.iconst 0, 1) := by decide +kernel
theorem dX8_oneIf_9 : decode cX8_oneIf 9 = .ok (.ireturn, 1) := by decide +kernel
theorem bX8_oneIf_0 (x0 : Int32) (mem : zm_Mem) (post : zm_Post) (kk : ((x0 = 0 → post 0 0 mem) ∧ (¬ x0 = 0 → post 1 0 mem))) : zm_Call gX8_oneIf [.int x0] mem post := by
  refine z_entry (by decide) (Nat.le_of_ble_eq_true rfl) ?_
  show zm_Z gX8_oneIf post 0 [(0, .int x0)] [] mem
  refine z_iload_n dX8_oneIf_0 rfl 0 rfl ?_
  refine z_if_eq (tgt := 8) dX8_oneIf_1 (by decide) (fun h1 => ?_) (fun h1 => ?_)
  ·
    refine z_iconst (v := 0) dX8_oneIf_8 zciconst_0 ?_
    exact z_iret rfl dX8_oneIf_9 (kk.1 h1)
  ·
    refine z_iconst (v := 1) dX8_oneIf_4 zciconst_1 ?_
    refine z_goto (tgt := 9) dX8_oneIf_5 (by decide) ?_
    exact z_iret rfl dX8_oneIf_9 (kk.2 h1)
theorem dX8_keeps_0 : decode cX8_keeps 0 = .ok (.aload_n 0, 1) := by decide +kernel
theorem dX8_keeps_1 : decode cX8_keeps 1 = .ok (.getfield 10, 3) := by decide +kernel
theorem dX8_keeps_4 : decode cX8_keeps 4 = .ok (.iload_n 1, 1) := by decide +kernel
theorem dX8_keeps_5 : decode cX8_keeps 5 = .ok (.invokevirtual 113, 3) := by decide +kernel
theorem dX8_keeps_8 : decode cX8_keeps 8 = .ok (.ifCond .eq 17, 3) := by decide +kernel
theorem dX8_keeps_11 : decode cX8_keeps 11 = .ok (.aload_n 0, 1) := by decide +kernel
theorem dX8_keeps_12 : decode cX8_keeps 12 = .ok (.getfield 21, 3) := by decide +kernel
theorem dX8_keeps_15 : decode cX8_keeps 15 = .ok (.iload_n 1, 1) := by decide +kernel
theorem dX8_keeps_16 : decode cX8_keeps 16 = .ok (.invokevirtual 130, 3) := by decide +kernel
theorem dX8_keeps_19 : decode cX8_keeps 19 = .ok (.invokestatic 133, 3) := by decide +kernel
theorem dX8_keeps_22 : decode cX8_keeps 22 = .ok (.goto 4, 3) := by decide +kernel
theorem dX8_keeps_25 : decode cX8_keeps 25 = .ok (.iconst (-1), 1) := by decide +kernel
theorem dX8_keeps_26 : decode cX8_keeps 26 = .ok (.ireturn, 1) := by decide +kernel
theorem bX8_keeps_0 (x1 : Int32) (mem : zm_Mem) (post : zm_Post) (kk : zm_Call gX1_hasMove [.ref 1, .int x1] mem (fun r1 w1 u1 => ((r1 = 0 → post (-1) 0 u1) ∧ (¬ r1 = 0 → zm_Call gX5_isKeptBy [.ref 2, .int x1] u1 (fun r3 w3 u3 => zm_Call gX8_oneIf [.int r3] u3 (fun r4 w4 u4 => post r4 0 u4)))))) : zm_Call gX8_keeps [.ref 0, .int x1] mem post := by
  refine z_entry (by decide) (Nat.le_of_ble_eq_true rfl) ?_
  show zm_Z gX8_keeps post 0 [(0, .ref 0), (1, .int x1)] [] mem
  refine z_aload_n dX8_keeps_0 rfl 0 rfl ?_
  refine z_getr (ci := 8) (j := 0) (r := 1) (T := TX8) rfl rfl hX8 rfl (by decide) fkX8_10 dX8_keeps_1 ?_
  refine z_iload_n dX8_keeps_4 rfl 1 rfl ?_
  refine z_callVi (g' := gX1_hasMove) [.int x1] (q := 1) (ci := 1) (T := TX1) rfl rfl ⟨lkX8_113, pdX1_hasMove, by decide, by decide⟩ ⟨_, rfl, by decide⟩ rfl (Nat.le_of_ble_eq_true rfl) dX8_keeps_5 (zm_Call.mono kk (fun r1 w1 u1 k1 => ?_))
  refine z_if_eq (tgt := 25) dX8_keeps_8 (by decide) (fun h2 => ?_) (fun h2 => ?_)
  ·
    refine z_iconst (v := (-1)) dX8_keeps_25 zciconst_m1 ?_
    exact z_iret rfl dX8_keeps_26 (k1.1 h2)
  ·
    refine z_aload_n dX8_keeps_11 rfl 0 rfl ?_
    refine z_getr (ci := 8) (j := 1) (r := 2) (T := TX8) rfl rfl hX8 rfl (by decide) fkX8_21 dX8_keeps_12 ?_
    refine z_iload_n dX8_keeps_15 rfl 1 rfl ?_
    refine z_callVi (g' := gX5_isKeptBy) [.int x1] (q := 2) (ci := 5) (T := TX5) rfl rfl ⟨lkX8_130, pdX5_isKeptBy, by decide, by decide⟩ ⟨_, rfl, by decide⟩ rfl (Nat.le_of_ble_eq_true rfl) dX8_keeps_16 (zm_Call.mono (k1.2 h2) (fun r3 w3 u3 k3 => ?_))
    refine z_callSi (g' := gX8_oneIf) (st := []) [.int r3] ⟨lkX8_133, pdX8_oneIf, by decide, by decide⟩ ⟨_, rfl, by decide⟩ rfl (Nat.le_of_ble_eq_true rfl) dX8_keeps_19 (zm_Call.mono k3 (fun r4 w4 u4 k4 => ?_))
    refine z_goto (tgt := 26) dX8_keeps_22 (by decide) ?_
    exact z_iret rfl dX8_keeps_26 k4
theorem dX8_kept_0 : decode cX8_kept 0 = .ok (.iload_n 1, 1) := by decide +kernel
theorem dX8_kept_1 : decode cX8_kept 1 = .ok (.ifCond .lt 9, 3) := by decide +kernel
theorem dX8_kept_4 : decode cX8_kept 4 = .ok (.iload_n 1, 1) := by decide +kernel
theorem dX8_kept_5 : decode cX8_kept 5 = .ok (.bipush 8, 2) := by decide +kernel
theorem dX8_kept_7 : decode cX8_kept 7 = .ok (.if_icmp .le 6, 3) := by decide +kernel
theorem dX8_kept_10 : decode cX8_kept 10 = .ok (.bipush (-2), 2) := by decide +kernel
theorem dX8_kept_12 : decode cX8_kept 12 = .ok (.ireturn, 1) := by decide +kernel
theorem dX8_kept_13 : decode cX8_kept 13 = .ok (.iload_n 1, 1) := by decide +kernel
theorem dX8_kept_14 : decode cX8_kept 14 = .ok (.bipush 8, 2) := by decide +kernel
theorem dX8_kept_16 : decode cX8_kept 16 = .ok (.if_icmp .ne 13, 3) := by decide +kernel
theorem dX8_kept_19 : decode cX8_kept 19 = .ok (.aload_n 0, 1) := by decide +kernel
theorem dX8_kept_20 : decode cX8_kept 20 = .ok (.getfield 21, 3) := by decide +kernel
theorem dX8_kept_23 : decode cX8_kept 23 = .ok (.invokevirtual 137, 3) := by decide +kernel
theorem dX8_kept_26 : decode cX8_kept 26 = .ok (.goto 11, 3) := by decide +kernel
theorem dX8_kept_29 : decode cX8_kept 29 = .ok (.aload_n 0, 1) := by decide +kernel
theorem dX8_kept_30 : decode cX8_kept 30 = .ok (.getfield 21, 3) := by decide +kernel
theorem dX8_kept_33 : decode cX8_kept 33 = .ok (.iload_n 1, 1) := by decide +kernel
theorem dX8_kept_34 : decode cX8_kept 34 = .ok (.invokevirtual 140, 3) := by decide +kernel
theorem dX8_kept_37 : decode cX8_kept 37 = .ok (.ireturn, 1) := by decide +kernel
theorem bX8_kept_0 (x1 : Int32) (mem : zm_Mem) (post : zm_Post) (kk : ((x1 < 0 → post (-2) 0 mem) ∧ (¬ x1 < 0 → ((x1 ≤ 8 → ((¬ x1 = 8 → zm_Call gX5_keepersOf [.ref 2, .int x1] mem (fun r4 w4 u4 => post r4 0 u4)) ∧ (x1 = 8 → zm_Call gX5_keepersOfAll [.ref 2] mem (fun r5 w5 u5 => post r5 0 u5)))) ∧ (¬ x1 ≤ 8 → post (-2) 0 mem))))) : zm_Call gX8_kept [.ref 0, .int x1] mem post := by
  refine z_entry (by decide) (Nat.le_of_ble_eq_true rfl) ?_
  show zm_Z gX8_kept post 0 [(0, .ref 0), (1, .int x1)] [] mem
  refine z_iload_n dX8_kept_0 rfl 1 rfl ?_
  refine z_if_lt (tgt := 10) dX8_kept_1 (by decide) (fun h1 => ?_) (fun h1 => ?_)
  ·
    refine z_bipush (v := (-2)) dX8_kept_10 zcbipush_m2 ?_
    exact z_iret rfl dX8_kept_12 (kk.1 h1)
  ·
    refine z_iload_n dX8_kept_4 rfl 1 rfl ?_
    refine z_bipush (v := 8) dX8_kept_5 zcbipush_8 ?_
    refine z_icmp_le (tgt := 13) dX8_kept_7 (by decide) (fun h2 => ?_) (fun h2 => ?_)
    ·
      refine z_iload_n dX8_kept_13 rfl 1 rfl ?_
      refine z_bipush (v := 8) dX8_kept_14 zcbipush_8 ?_
      refine z_icmp_ne (tgt := 29) dX8_kept_16 (by decide) (fun h3 => ?_) (fun h3 => ?_)
      ·
        refine z_aload_n dX8_kept_29 rfl 0 rfl ?_
        refine z_getr (ci := 8) (j := 1) (r := 2) (T := TX8) rfl rfl hX8 rfl (by decide) fkX8_21 dX8_kept_30 ?_
        refine z_iload_n dX8_kept_33 rfl 1 rfl ?_
        refine z_callVi (g' := gX5_keepersOf) [.int x1] (q := 2) (ci := 5) (T := TX5) rfl rfl ⟨lkX8_140, pdX5_keepersOf, by decide, by decide⟩ ⟨_, rfl, by decide⟩ rfl (Nat.le_of_ble_eq_true rfl) dX8_kept_34 (zm_Call.mono (((kk.2 h1).1 h2).1 h3) (fun r4 w4 u4 k4 => ?_))
        exact z_iret rfl dX8_kept_37 k4
      ·
        refine z_aload_n dX8_kept_19 rfl 0 rfl ?_
        refine z_getr (ci := 8) (j := 1) (r := 2) (T := TX8) rfl rfl hX8 rfl (by decide) fkX8_21 dX8_kept_20 ?_
        refine z_callVi (g' := gX5_keepersOfAll) [] (q := 2) (ci := 5) (T := TX5) rfl rfl ⟨lkX8_137, pdX5_keepersOfAll, by decide, by decide⟩ ⟨_, rfl, by decide⟩ rfl (Nat.le_of_ble_eq_true rfl) dX8_kept_23 (zm_Call.mono (((kk.2 h1).1 h2).2 h3) (fun r5 w5 u5 k5 => ?_))
        refine z_goto (tgt := 37) dX8_kept_26 (by decide) ?_
        exact z_iret rfl dX8_kept_37 k5
    ·
      refine z_bipush (v := (-2)) dX8_kept_10 zcbipush_m2 ?_
      exact z_iret rfl dX8_kept_12 ((kk.2 h1).2 h2)
theorem dX8_keeper_0 : decode cX8_keeper 0 = .ok (.aload_n 0, 1) := by decide +kernel
theorem dX8_keeper_1 : decode cX8_keeper 1 = .ok (.getfield 21, 3) := by decide +kernel
theorem dX8_keeper_4 : decode cX8_keeper 4 = .ok (.iload_n 1, 1) := by decide +kernel
theorem dX8_keeper_5 : decode cX8_keeper 5 = .ok (.invokevirtual 143, 3) := by decide +kernel
theorem dX8_keeper_8 : decode cX8_keeper 8 = .ok (.ireturn, 1) := by decide +kernel
theorem bX8_keeper_0 (x1 : Int32) (mem : zm_Mem) (post : zm_Post) (kk : zm_Call gX5_keeperNumber [.ref 2, .int x1] mem (fun r1 w1 u1 => post r1 0 u1)) : zm_Call gX8_keeper [.ref 0, .int x1] mem post := by
  refine z_entry (by decide) (Nat.le_of_ble_eq_true rfl) ?_
  show zm_Z gX8_keeper post 0 [(0, .ref 0), (1, .int x1)] [] mem
  refine z_aload_n dX8_keeper_0 rfl 0 rfl ?_
  refine z_getr (ci := 8) (j := 1) (r := 2) (T := TX8) rfl rfl hX8 rfl (by decide) fkX8_21 dX8_keeper_1 ?_
  refine z_iload_n dX8_keeper_4 rfl 1 rfl ?_
  refine z_callVi (g' := gX5_keeperNumber) [.int x1] (q := 2) (ci := 5) (T := TX5) rfl rfl ⟨lkX8_143, pdX5_keeperNumber, by decide, by decide⟩ ⟨_, rfl, by decide⟩ rfl (Nat.le_of_ble_eq_true rfl) dX8_keeper_5 (zm_Call.mono kk (fun r1 w1 u1 k1 => ?_))
  exact z_iret rfl dX8_keeper_8 k1
theorem dX8_go_0 : decode cX8_go 0 = .ok (.aload_n 0, 1) := by decide +kernel
theorem dX8_go_1 : decode cX8_go 1 = .ok (.getfield 10, 3) := by decide +kernel
theorem dX8_go_4 : decode cX8_go 4 = .ok (.iload_n 1, 1) := by decide +kernel
theorem dX8_go_5 : decode cX8_go 5 = .ok (.invokevirtual 113, 3) := by decide +kernel
theorem dX8_go_8 : decode cX8_go 8 = .ok (.ifCond .eq 14, 3) := by decide +kernel
theorem dX8_go_11 : decode cX8_go 11 = .ok (.aload_n 0, 1) := by decide +kernel
theorem dX8_go_12 : decode cX8_go 12 = .ok (.getfield 21, 3) := by decide +kernel
theorem dX8_go_15 : decode cX8_go 15 = .ok (.iload_n 1, 1) := by decide +kernel
theorem dX8_go_16 : decode cX8_go 16 = .ok (.invokevirtual 146, 3) := by decide +kernel
theorem dX8_go_19 : decode cX8_go 19 = .ok (.goto 4, 3) := by decide +kernel
theorem dX8_go_22 : decode cX8_go 22 = .ok (.iconst (-1), 1) := by decide +kernel
theorem dX8_go_23 : decode cX8_go 23 = .ok (.ireturn, 1) := by decide +kernel
theorem bX8_go_0 (x1 : Int32) (mem : zm_Mem) (post : zm_Post) (kk : zm_Call gX1_hasMove [.ref 1, .int x1] mem (fun r1 w1 u1 => ((r1 = 0 → post (-1) 0 u1) ∧ (¬ r1 = 0 → zm_Call gX5_moveBy [.ref 2, .int x1] u1 (fun r3 w3 u3 => post r3 0 u3))))) : zm_Call gX8_go [.ref 0, .int x1] mem post := by
  refine z_entry (by decide) (Nat.le_of_ble_eq_true rfl) ?_
  show zm_Z gX8_go post 0 [(0, .ref 0), (1, .int x1)] [] mem
  refine z_aload_n dX8_go_0 rfl 0 rfl ?_
  refine z_getr (ci := 8) (j := 0) (r := 1) (T := TX8) rfl rfl hX8 rfl (by decide) fkX8_10 dX8_go_1 ?_
  refine z_iload_n dX8_go_4 rfl 1 rfl ?_
  refine z_callVi (g' := gX1_hasMove) [.int x1] (q := 1) (ci := 1) (T := TX1) rfl rfl ⟨lkX8_113, pdX1_hasMove, by decide, by decide⟩ ⟨_, rfl, by decide⟩ rfl (Nat.le_of_ble_eq_true rfl) dX8_go_5 (zm_Call.mono kk (fun r1 w1 u1 k1 => ?_))
  refine z_if_eq (tgt := 22) dX8_go_8 (by decide) (fun h2 => ?_) (fun h2 => ?_)
  ·
    refine z_iconst (v := (-1)) dX8_go_22 zciconst_m1 ?_
    exact z_iret rfl dX8_go_23 (k1.1 h2)
  ·
    refine z_aload_n dX8_go_11 rfl 0 rfl ?_
    refine z_getr (ci := 8) (j := 1) (r := 2) (T := TX8) rfl rfl hX8 rfl (by decide) fkX8_21 dX8_go_12 ?_
    refine z_iload_n dX8_go_15 rfl 1 rfl ?_
    refine z_callVi (g' := gX5_moveBy) [.int x1] (q := 2) (ci := 5) (T := TX5) rfl rfl ⟨lkX8_146, pdX5_moveBy, by decide, by decide⟩ ⟨_, rfl, by decide⟩ rfl (Nat.le_of_ble_eq_true rfl) dX8_go_16 (zm_Call.mono (k1.2 h2) (fun r3 w3 u3 k3 => ?_))
    refine z_goto (tgt := 23) dX8_go_19 (by decide) ?_
    exact z_iret rfl dX8_go_23 k3
theorem dX8_least_0 : decode cX8_least 0 = .ok (.aload_n 0, 1) := by decide +kernel
theorem dX8_least_1 : decode cX8_least 1 = .ok (.getfield 21, 3) := by decide +kernel
theorem dX8_least_4 : decode cX8_least 4 = .ok (.iconst 0, 1) := by decide +kernel
theorem dX8_least_5 : decode cX8_least 5 = .ok (.invokevirtual 140, 3) := by decide +kernel
theorem dX8_least_8 : decode cX8_least 8 = .ok (.istore_n 1, 1) := by decide +kernel
theorem dX8_least_9 : decode cX8_least 9 = .ok (.iload_n 1, 1) := by decide +kernel
theorem dX8_least_10 : decode cX8_least 10 = .ok (.iconst 1, 1) := by decide +kernel
theorem dX8_least_11 : decode cX8_least 11 = .ok (.if_icmp .ge 13, 3) := by decide +kernel
theorem dX8_least_14 : decode cX8_least 14 = .ok (.aload_n 0, 1) := by decide +kernel
theorem dX8_least_15 : decode cX8_least 15 = .ok (.getfield 10, 3) := by decide +kernel
theorem dX8_least_18 : decode cX8_least 18 = .ok (.getfield 79, 3) := by decide +kernel
theorem dX8_least_21 : decode cX8_least 21 = .ok (.goto 12, 3) := by decide +kernel
theorem dX8_least_24 : decode cX8_least 24 = .ok (.aload_n 0, 1) := by decide +kernel
theorem dX8_least_25 : decode cX8_least 25 = .ok (.getfield 10, 3) := by decide +kernel
theorem dX8_least_28 : decode cX8_least 28 = .ok (.getfield 79, 3) := by decide +kernel
theorem dX8_least_31 : decode cX8_least 31 = .ok (.iload_n 1, 1) := by decide +kernel
theorem dX8_least_32 : decode cX8_least 32 = .ok (.idiv, 1) := by decide +kernel
theorem dX8_least_33 : decode cX8_least 33 = .ok (.ireturn, 1) := by decide +kernel
theorem bX8_least_0 (mem : zm_Mem) (post : zm_Post) (kk : zm_Call gX5_keepersOf [.ref 2, .int 0] mem (fun r1 w1 u1 => ((1 ≤ r1 → (¬ r1 = 0 ∧ post ((u1 1 2) / r1) 0 u1)) ∧ (¬ 1 ≤ r1 → post (u1 1 2) 0 u1)))) : zm_Call gX8_least [.ref 0] mem post := by
  refine z_entry (by decide) (Nat.le_of_ble_eq_true rfl) ?_
  show zm_Z gX8_least post 0 [(0, .ref 0)] [] mem
  refine z_aload_n dX8_least_0 rfl 0 rfl ?_
  refine z_getr (ci := 8) (j := 1) (r := 2) (T := TX8) rfl rfl hX8 rfl (by decide) fkX8_21 dX8_least_1 ?_
  refine z_iconst (v := 0) dX8_least_4 zciconst_0 ?_
  refine z_callVi (g' := gX5_keepersOf) [.int 0] (q := 2) (ci := 5) (T := TX5) rfl rfl ⟨lkX8_140, pdX5_keepersOf, by decide, by decide⟩ ⟨_, rfl, by decide⟩ rfl (Nat.le_of_ble_eq_true rfl) dX8_least_5 (zm_Call.mono kk (fun r1 w1 u1 k1 => ?_))
  refine z_istore_n (lv' := [(1, .int r1), (0, .ref 0)]) dX8_least_8 rfl (by decide) rfl ?_
  refine z_iload_n dX8_least_9 rfl 0 rfl ?_
  refine z_iconst (v := 1) dX8_least_10 zciconst_1 ?_
  refine z_icmp_ge (tgt := 24) dX8_least_11 (by decide) (fun h2 => ?_) (fun h2 => ?_)
  ·
    refine z_aload_n dX8_least_24 rfl 1 rfl ?_
    refine z_getr (ci := 8) (j := 0) (r := 1) (T := TX8) rfl rfl hX8 rfl (by decide) fkX8_10 dX8_least_25 ?_
    refine z_getiN (ci := 1) (j := 2) (T := TX1) rfl rfl hX1 rfl (by decide) fkX8_79 dX8_least_28 ?_
    refine z_iload_n dX8_least_31 rfl 0 rfl ?_
    refine z_idiv dX8_least_32 (k1.1 h2).1 ?_
    exact z_iret rfl dX8_least_33 (k1.1 h2).2
  ·
    refine z_aload_n dX8_least_14 rfl 1 rfl ?_
    refine z_getr (ci := 8) (j := 0) (r := 1) (T := TX8) rfl rfl hX8 rfl (by decide) fkX8_10 dX8_least_15 ?_
    refine z_getiN (ci := 1) (j := 2) (T := TX1) rfl rfl hX1 rfl (by decide) fkX8_79 dX8_least_18 ?_
    refine z_goto (tgt := 33) dX8_least_21 (by decide) ?_
    exact z_iret rfl dX8_least_33 (k1.2 h2)
theorem dX8_mirrored_0 : decode cX8_mirrored 0 = .ok (.iload_n 1, 1) := by decide +kernel
theorem dX8_mirrored_1 : decode cX8_mirrored 1 = .ok (.iconst 4, 1) := by decide +kernel
theorem dX8_mirrored_2 : decode cX8_mirrored 2 = .ok (.if_icmp .lt 9, 3) := by decide +kernel
theorem dX8_mirrored_5 : decode cX8_mirrored 5 = .ok (.iload_n 1, 1) := by decide +kernel
theorem dX8_mirrored_6 : decode cX8_mirrored 6 = .ok (.bipush 8, 2) := by decide +kernel
theorem dX8_mirrored_8 : decode cX8_mirrored 8 = .ok (.if_icmp .lt 6, 3) := by decide +kernel
theorem dX8_mirrored_11 : decode cX8_mirrored 11 = .ok (.bipush (-2), 2) := by decide +kernel
theorem dX8_mirrored_13 : decode cX8_mirrored 13 = .ok (.ireturn, 1) := by decide +kernel
theorem dX8_mirrored_14 : decode cX8_mirrored 14 = .ok (.aload_n 0, 1) := by decide +kernel
theorem dX8_mirrored_15 : decode cX8_mirrored 15 = .ok (.getfield 30, 3) := by decide +kernel
theorem dX8_mirrored_18 : decode cX8_mirrored 18 = .ok (.iload_n 1, 1) := by decide +kernel
theorem dX8_mirrored_19 : decode cX8_mirrored 19 = .ok (.invokevirtual 149, 3) := by decide +kernel
theorem dX8_mirrored_22 : decode cX8_mirrored 22 = .ok (.invokestatic 133, 3) := by decide +kernel
theorem dX8_mirrored_25 : decode cX8_mirrored 25 = .ok (.ireturn, 1) := by decide +kernel
theorem bX8_mirrored_0 (x1 : Int32) (mem : zm_Mem) (post : zm_Post) (kk : ((x1 < 4 → post (-2) 0 mem) ∧ (¬ x1 < 4 → ((x1 < 8 → zm_Call gX2_hasMirror [.ref 5, .int x1] mem (fun r3 w3 u3 => zm_Call gX8_oneIf [.int r3] u3 (fun r4 w4 u4 => post r4 0 u4))) ∧ (¬ x1 < 8 → post (-2) 0 mem))))) : zm_Call gX8_mirrored [.ref 0, .int x1] mem post := by
  refine z_entry (by decide) (Nat.le_of_ble_eq_true rfl) ?_
  show zm_Z gX8_mirrored post 0 [(0, .ref 0), (1, .int x1)] [] mem
  refine z_iload_n dX8_mirrored_0 rfl 1 rfl ?_
  refine z_iconst (v := 4) dX8_mirrored_1 zciconst_4 ?_
  refine z_icmp_lt (tgt := 11) dX8_mirrored_2 (by decide) (fun h1 => ?_) (fun h1 => ?_)
  ·
    refine z_bipush (v := (-2)) dX8_mirrored_11 zcbipush_m2 ?_
    exact z_iret rfl dX8_mirrored_13 (kk.1 h1)
  ·
    refine z_iload_n dX8_mirrored_5 rfl 1 rfl ?_
    refine z_bipush (v := 8) dX8_mirrored_6 zcbipush_8 ?_
    refine z_icmp_lt (tgt := 14) dX8_mirrored_8 (by decide) (fun h2 => ?_) (fun h2 => ?_)
    ·
      refine z_aload_n dX8_mirrored_14 rfl 0 rfl ?_
      refine z_getr (ci := 8) (j := 2) (r := 5) (T := TX8) rfl rfl hX8 rfl (by decide) fkX8_30 dX8_mirrored_15 ?_
      refine z_iload_n dX8_mirrored_18 rfl 1 rfl ?_
      refine z_callVi (g' := gX2_hasMirror) [.int x1] (q := 5) (ci := 2) (T := TX2) rfl rfl ⟨lkX8_149, pdX2_hasMirror, by decide, by decide⟩ ⟨_, rfl, by decide⟩ rfl (Nat.le_of_ble_eq_true rfl) dX8_mirrored_19 (zm_Call.mono ((kk.2 h1).1 h2) (fun r3 w3 u3 k3 => ?_))
      refine z_callSi (g' := gX8_oneIf) (st := []) [.int r3] ⟨lkX8_133, pdX8_oneIf, by decide, by decide⟩ ⟨_, rfl, by decide⟩ rfl (Nat.le_of_ble_eq_true rfl) dX8_mirrored_22 (zm_Call.mono k3 (fun r4 w4 u4 k4 => ?_))
      exact z_iret rfl dX8_mirrored_25 k4
    ·
      refine z_bipush (v := (-2)) dX8_mirrored_11 zcbipush_m2 ?_
      exact z_iret rfl dX8_mirrored_13 ((kk.2 h1).2 h2)
theorem dX8_mirror_0 : decode cX8_mirror 0 = .ok (.aload_n 0, 1) := by decide +kernel
theorem dX8_mirror_1 : decode cX8_mirror 1 = .ok (.getfield 10, 3) := by decide +kernel
theorem dX8_mirror_4 : decode cX8_mirror 4 = .ok (.iload_n 1, 1) := by decide +kernel
theorem dX8_mirror_5 : decode cX8_mirror 5 = .ok (.invokevirtual 113, 3) := by decide +kernel
theorem dX8_mirror_8 : decode cX8_mirror 8 = .ok (.ifCond .ne 5, 3) := by decide +kernel
theorem dX8_mirror_11 : decode cX8_mirror 11 = .ok (.iconst (-1), 1) := by decide +kernel
theorem dX8_mirror_12 : decode cX8_mirror 12 = .ok (.ireturn, 1) := by decide +kernel
theorem dX8_mirror_13 : decode cX8_mirror 13 = .ok (.aload_n 0, 1) := by decide +kernel
theorem dX8_mirror_14 : decode cX8_mirror 14 = .ok (.getfield 10, 3) := by decide +kernel
theorem dX8_mirror_17 : decode cX8_mirror 17 = .ok (.iload_n 1, 1) := by decide +kernel
theorem dX8_mirror_18 : decode cX8_mirror 18 = .ok (.invokevirtual 152, 3) := by decide +kernel
theorem dX8_mirror_21 : decode cX8_mirror 21 = .ok (.iconst 4, 1) := by decide +kernel
theorem dX8_mirror_22 : decode cX8_mirror 22 = .ok (.if_icmp .ge 6, 3) := by decide +kernel
theorem dX8_mirror_25 : decode cX8_mirror 25 = .ok (.bipush (-2), 2) := by decide +kernel
theorem dX8_mirror_27 : decode cX8_mirror 27 = .ok (.ireturn, 1) := by decide +kernel
theorem dX8_mirror_28 : decode cX8_mirror 28 = .ok (.aload_n 0, 1) := by decide +kernel
theorem dX8_mirror_29 : decode cX8_mirror 29 = .ok (.getfield 30, 3) := by decide +kernel
theorem dX8_mirror_32 : decode cX8_mirror 32 = .ok (.aload_n 0, 1) := by decide +kernel
theorem dX8_mirror_33 : decode cX8_mirror 33 = .ok (.getfield 10, 3) := by decide +kernel
theorem dX8_mirror_36 : decode cX8_mirror 36 = .ok (.iload_n 1, 1) := by decide +kernel
theorem dX8_mirror_37 : decode cX8_mirror 37 = .ok (.invokevirtual 152, 3) := by decide +kernel
theorem dX8_mirror_40 : decode cX8_mirror 40 = .ok (.aload_n 0, 1) := by decide +kernel
theorem dX8_mirror_41 : decode cX8_mirror 41 = .ok (.getfield 10, 3) := by decide +kernel
theorem dX8_mirror_44 : decode cX8_mirror 44 = .ok (.iload_n 1, 1) := by decide +kernel
theorem dX8_mirror_45 : decode cX8_mirror 45 = .ok (.invokevirtual 155, 3) := by decide +kernel
theorem dX8_mirror_48 : decode cX8_mirror 48 = .ok (.invokevirtual 158, 3) := by decide +kernel
theorem dX8_mirror_51 : decode cX8_mirror 51 = .ok (.invokestatic 133, 3) := by decide +kernel
theorem dX8_mirror_54 : decode cX8_mirror 54 = .ok (.ireturn, 1) := by decide +kernel
theorem bX8_mirror_0 (x1 : Int32) (mem : zm_Mem) (post : zm_Post) (kk : zm_Call gX1_hasMove [.ref 1, .int x1] mem (fun r1 w1 u1 => ((¬ r1 = 0 → zm_Call gX1_turnOf [.ref 1, .int x1] u1 (fun r3 w3 u3 => ((4 ≤ r3 → zm_Call gX1_turnOf [.ref 1, .int x1] u3 (fun r5 w5 u5 => zm_Call gX1_shiftOf [.ref 1, .int x1] u5 (fun r6 w6 u6 => zm_Call gX2_isMirror [.ref 5, .int r5, .int r6] u6 (fun r7 w7 u7 => zm_Call gX8_oneIf [.int r7] u7 (fun r8 w8 u8 => post r8 0 u8))))) ∧ (¬ 4 ≤ r3 → post (-2) 0 u3)))) ∧ (r1 = 0 → post (-1) 0 u1)))) : zm_Call gX8_mirror [.ref 0, .int x1] mem post := by
  refine z_entry (by decide) (Nat.le_of_ble_eq_true rfl) ?_
  show zm_Z gX8_mirror post 0 [(0, .ref 0), (1, .int x1)] [] mem
  refine z_aload_n dX8_mirror_0 rfl 0 rfl ?_
  refine z_getr (ci := 8) (j := 0) (r := 1) (T := TX8) rfl rfl hX8 rfl (by decide) fkX8_10 dX8_mirror_1 ?_
  refine z_iload_n dX8_mirror_4 rfl 1 rfl ?_
  refine z_callVi (g' := gX1_hasMove) [.int x1] (q := 1) (ci := 1) (T := TX1) rfl rfl ⟨lkX8_113, pdX1_hasMove, by decide, by decide⟩ ⟨_, rfl, by decide⟩ rfl (Nat.le_of_ble_eq_true rfl) dX8_mirror_5 (zm_Call.mono kk (fun r1 w1 u1 k1 => ?_))
  refine z_if_ne (tgt := 13) dX8_mirror_8 (by decide) (fun h2 => ?_) (fun h2 => ?_)
  ·
    refine z_aload_n dX8_mirror_13 rfl 0 rfl ?_
    refine z_getr (ci := 8) (j := 0) (r := 1) (T := TX8) rfl rfl hX8 rfl (by decide) fkX8_10 dX8_mirror_14 ?_
    refine z_iload_n dX8_mirror_17 rfl 1 rfl ?_
    refine z_callVi (g' := gX1_turnOf) [.int x1] (q := 1) (ci := 1) (T := TX1) rfl rfl ⟨lkX8_152, pdX1_turnOf, by decide, by decide⟩ ⟨_, rfl, by decide⟩ rfl (Nat.le_of_ble_eq_true rfl) dX8_mirror_18 (zm_Call.mono (k1.1 h2) (fun r3 w3 u3 k3 => ?_))
    refine z_iconst (v := 4) dX8_mirror_21 zciconst_4 ?_
    refine z_icmp_ge (tgt := 28) dX8_mirror_22 (by decide) (fun h4 => ?_) (fun h4 => ?_)
    ·
      refine z_aload_n dX8_mirror_28 rfl 0 rfl ?_
      refine z_getr (ci := 8) (j := 2) (r := 5) (T := TX8) rfl rfl hX8 rfl (by decide) fkX8_30 dX8_mirror_29 ?_
      refine z_aload_n dX8_mirror_32 rfl 0 rfl ?_
      refine z_getr (ci := 8) (j := 0) (r := 1) (T := TX8) rfl rfl hX8 rfl (by decide) fkX8_10 dX8_mirror_33 ?_
      refine z_iload_n dX8_mirror_36 rfl 1 rfl ?_
      refine z_callVi (g' := gX1_turnOf) [.int x1] (q := 1) (ci := 1) (T := TX1) rfl rfl ⟨lkX8_152, pdX1_turnOf, by decide, by decide⟩ ⟨_, rfl, by decide⟩ rfl (Nat.le_of_ble_eq_true rfl) dX8_mirror_37 (zm_Call.mono (k3.1 h4) (fun r5 w5 u5 k5 => ?_))
      refine z_aload_n dX8_mirror_40 rfl 0 rfl ?_
      refine z_getr (ci := 8) (j := 0) (r := 1) (T := TX8) rfl rfl hX8 rfl (by decide) fkX8_10 dX8_mirror_41 ?_
      refine z_iload_n dX8_mirror_44 rfl 1 rfl ?_
      refine z_callVi (g' := gX1_shiftOf) [.int x1] (q := 1) (ci := 1) (T := TX1) rfl rfl ⟨lkX8_155, pdX1_shiftOf, by decide, by decide⟩ ⟨_, rfl, by decide⟩ rfl (Nat.le_of_ble_eq_true rfl) dX8_mirror_45 (zm_Call.mono k5 (fun r6 w6 u6 k6 => ?_))
      refine z_callVi (g' := gX2_isMirror) [.int r5, .int r6] (q := 5) (ci := 2) (T := TX2) rfl rfl ⟨lkX8_158, pdX2_isMirror, by decide, by decide⟩ ⟨_, rfl, by decide⟩ rfl (Nat.le_of_ble_eq_true rfl) dX8_mirror_48 (zm_Call.mono k6 (fun r7 w7 u7 k7 => ?_))
      refine z_callSi (g' := gX8_oneIf) (st := []) [.int r7] ⟨lkX8_133, pdX8_oneIf, by decide, by decide⟩ ⟨_, rfl, by decide⟩ rfl (Nat.le_of_ble_eq_true rfl) dX8_mirror_51 (zm_Call.mono k7 (fun r8 w8 u8 k8 => ?_))
      exact z_iret rfl dX8_mirror_54 k8
    ·
      refine z_bipush (v := (-2)) dX8_mirror_25 zcbipush_m2 ?_
      exact z_iret rfl dX8_mirror_27 (k3.2 h4)
  ·
    refine z_iconst (v := (-1)) dX8_mirror_11 zciconst_m1 ?_
    exact z_iret rfl dX8_mirror_12 (k1.2 h2)
theorem dX8_kind_0 : decode cX8_kind 0 = .ok (.aload_n 0, 1) := by decide +kernel
theorem dX8_kind_1 : decode cX8_kind 1 = .ok (.getfield 30, 3) := by decide +kernel
theorem dX8_kind_4 : decode cX8_kind 4 = .ok (.invokevirtual 161, 3) := by decide +kernel
theorem dX8_kind_7 : decode cX8_kind 7 = .ok (.ireturn, 1) := by decide +kernel
theorem bX8_kind_0 (mem : zm_Mem) (post : zm_Post) (kk : zm_Call gX2_number [.ref 5] mem (fun r1 w1 u1 => post r1 0 u1)) : zm_Call gX8_kind [.ref 0] mem post := by
  refine z_entry (by decide) (Nat.le_of_ble_eq_true rfl) ?_
  show zm_Z gX8_kind post 0 [(0, .ref 0)] [] mem
  refine z_aload_n dX8_kind_0 rfl 0 rfl ?_
  refine z_getr (ci := 8) (j := 2) (r := 5) (T := TX8) rfl rfl hX8 rfl (by decide) fkX8_30 dX8_kind_1 ?_
  refine z_callVi (g' := gX2_number) [] (q := 5) (ci := 2) (T := TX2) rfl rfl ⟨lkX8_161, pdX2_number, by decide, by decide⟩ ⟨_, rfl, by decide⟩ rfl (Nat.le_of_ble_eq_true rfl) dX8_kind_4 (zm_Call.mono kk (fun r1 w1 u1 k1 => ?_))
  exact z_iret rfl dX8_kind_7 k1
theorem dX8_paints_0 : decode cX8_paints 0 = .ok (.aload_n 0, 1) := by decide +kernel
theorem dX8_paints_1 : decode cX8_paints 1 = .ok (.getfield 37, 3) := by decide +kernel
theorem dX8_paints_4 : decode cX8_paints 4 = .ok (.invokevirtual 164, 3) := by decide +kernel
theorem dX8_paints_7 : decode cX8_paints 7 = .ok (.ireturn, 1) := by decide +kernel
theorem bX8_paints_0 (mem : zm_Mem) (post : zm_Post) (kk : zm_Call gX4_total [.ref 6] mem (fun r1 w1 u1 => post r1 0 u1)) : zm_Call gX8_paints [.ref 0] mem post := by
  refine z_entry (by decide) (Nat.le_of_ble_eq_true rfl) ?_
  show zm_Z gX8_paints post 0 [(0, .ref 0)] [] mem
  refine z_aload_n dX8_paints_0 rfl 0 rfl ?_
  refine z_getr (ci := 8) (j := 3) (r := 6) (T := TX8) rfl rfl hX8 rfl (by decide) fkX8_37 dX8_paints_1 ?_
  refine z_callVi (g' := gX4_total) [] (q := 6) (ci := 4) (T := TX4) rfl rfl ⟨lkX8_164, pdX4_total, by decide, by decide⟩ ⟨_, rfl, by decide⟩ rfl (Nat.le_of_ble_eq_true rfl) dX8_paints_4 (zm_Call.mono kk (fun r1 w1 u1 k1 => ?_))
  exact z_iret rfl dX8_paints_7 k1
theorem dX8_paint_0 : decode cX8_paint 0 = .ok (.aload_n 0, 1) := by decide +kernel
theorem dX8_paint_1 : decode cX8_paint 1 = .ok (.getfield 37, 3) := by decide +kernel
theorem dX8_paint_4 : decode cX8_paint 4 = .ok (.iload_n 1, 1) := by decide +kernel
theorem dX8_paint_5 : decode cX8_paint 5 = .ok (.invokevirtual 167, 3) := by decide +kernel
theorem dX8_paint_8 : decode cX8_paint 8 = .ok (.ifCond .ne 5, 3) := by decide +kernel
theorem dX8_paint_11 : decode cX8_paint 11 = .ok (.iconst (-1), 1) := by decide +kernel
theorem dX8_paint_12 : decode cX8_paint 12 = .ok (.ireturn, 1) := by decide +kernel
theorem dX8_paint_13 : decode cX8_paint 13 = .ok (.aload_n 0, 1) := by decide +kernel
theorem dX8_paint_14 : decode cX8_paint 14 = .ok (.getfield 21, 3) := by decide +kernel
theorem dX8_paint_17 : decode cX8_paint 17 = .ok (.iload_n 2, 1) := by decide +kernel
theorem dX8_paint_18 : decode cX8_paint 18 = .ok (.invokevirtual 170, 3) := by decide +kernel
theorem dX8_paint_21 : decode cX8_paint 21 = .ok (.ifCond .eq 15, 3) := by decide +kernel
theorem dX8_paint_24 : decode cX8_paint 24 = .ok (.aload_n 0, 1) := by decide +kernel
theorem dX8_paint_25 : decode cX8_paint 25 = .ok (.getfield 37, 3) := by decide +kernel
theorem dX8_paint_28 : decode cX8_paint 28 = .ok (.iload_n 1, 1) := by decide +kernel
theorem dX8_paint_29 : decode cX8_paint 29 = .ok (.iload_n 2, 1) := by decide +kernel
theorem dX8_paint_30 : decode cX8_paint 30 = .ok (.invokevirtual 173, 3) := by decide +kernel
theorem dX8_paint_33 : decode cX8_paint 33 = .ok (.goto 5, 3) := by decide +kernel
theorem dX8_paint_36 : decode cX8_paint 36 = .ok (.bipush (-2), 2) := by decide +kernel
theorem dX8_paint_38 : decode cX8_paint 38 = .ok (.ireturn, 1) := by decide +kernel
theorem bX8_paint_0 (x1 : Int32) (x2 : Int32) (mem : zm_Mem) (post : zm_Post) (kk : zm_Call gX4_has [.ref 6, .int x1] mem (fun r1 w1 u1 => ((¬ r1 = 0 → zm_Call gX5_isHue [.ref 2, .int x2] u1 (fun r3 w3 u3 => ((r3 = 0 → post (-2) 0 u3) ∧ (¬ r3 = 0 → zm_Call gX4_given [.ref 6, .int x1, .int x2] u3 (fun r5 w5 u5 => post r5 0 u5))))) ∧ (r1 = 0 → post (-1) 0 u1)))) : zm_Call gX8_paint [.ref 0, .int x1, .int x2] mem post := by
  refine z_entry (by decide) (Nat.le_of_ble_eq_true rfl) ?_
  show zm_Z gX8_paint post 0 [(0, .ref 0), (1, .int x1), (2, .int x2)] [] mem
  refine z_aload_n dX8_paint_0 rfl 0 rfl ?_
  refine z_getr (ci := 8) (j := 3) (r := 6) (T := TX8) rfl rfl hX8 rfl (by decide) fkX8_37 dX8_paint_1 ?_
  refine z_iload_n dX8_paint_4 rfl 1 rfl ?_
  refine z_callVi (g' := gX4_has) [.int x1] (q := 6) (ci := 4) (T := TX4) rfl rfl ⟨lkX8_167, pdX4_has, by decide, by decide⟩ ⟨_, rfl, by decide⟩ rfl (Nat.le_of_ble_eq_true rfl) dX8_paint_5 (zm_Call.mono kk (fun r1 w1 u1 k1 => ?_))
  refine z_if_ne (tgt := 13) dX8_paint_8 (by decide) (fun h2 => ?_) (fun h2 => ?_)
  ·
    refine z_aload_n dX8_paint_13 rfl 0 rfl ?_
    refine z_getr (ci := 8) (j := 1) (r := 2) (T := TX8) rfl rfl hX8 rfl (by decide) fkX8_21 dX8_paint_14 ?_
    refine z_iload_n dX8_paint_17 rfl 2 rfl ?_
    refine z_callVi (g' := gX5_isHue) [.int x2] (q := 2) (ci := 5) (T := TX5) rfl rfl ⟨lkX8_170, pdX5_isHue, by decide, by decide⟩ ⟨_, rfl, by decide⟩ rfl (Nat.le_of_ble_eq_true rfl) dX8_paint_18 (zm_Call.mono (k1.1 h2) (fun r3 w3 u3 k3 => ?_))
    refine z_if_eq (tgt := 36) dX8_paint_21 (by decide) (fun h4 => ?_) (fun h4 => ?_)
    ·
      refine z_bipush (v := (-2)) dX8_paint_36 zcbipush_m2 ?_
      exact z_iret rfl dX8_paint_38 (k3.1 h4)
    ·
      refine z_aload_n dX8_paint_24 rfl 0 rfl ?_
      refine z_getr (ci := 8) (j := 3) (r := 6) (T := TX8) rfl rfl hX8 rfl (by decide) fkX8_37 dX8_paint_25 ?_
      refine z_iload_n dX8_paint_28 rfl 1 rfl ?_
      refine z_iload_n dX8_paint_29 rfl 2 rfl ?_
      refine z_callVi (g' := gX4_given) [.int x1, .int x2] (q := 6) (ci := 4) (T := TX4) rfl rfl ⟨lkX8_173, pdX4_given, by decide, by decide⟩ ⟨_, rfl, by decide⟩ rfl (Nat.le_of_ble_eq_true rfl) dX8_paint_30 (zm_Call.mono (k3.2 h4) (fun r5 w5 u5 k5 => ?_))
      refine z_goto (tgt := 38) dX8_paint_33 (by decide) ?_
      exact z_iret rfl dX8_paint_38 k5
  ·
    refine z_iconst (v := (-1)) dX8_paint_11 zciconst_m1 ?_
    exact z_iret rfl dX8_paint_12 (k1.2 h2)
theorem dX8_keepsBy_0 : decode cX8_keepsBy 0 = .ok (.aload_n 0, 1) := by decide +kernel
theorem dX8_keepsBy_1 : decode cX8_keepsBy 1 = .ok (.getfield 10, 3) := by decide +kernel
theorem dX8_keepsBy_4 : decode cX8_keepsBy 4 = .ok (.iload_n 1, 1) := by decide +kernel
theorem dX8_keepsBy_5 : decode cX8_keepsBy 5 = .ok (.invokevirtual 113, 3) := by decide +kernel
theorem dX8_keepsBy_8 : decode cX8_keepsBy 8 = .ok (.ifCond .eq 14, 3) := by decide +kernel
theorem dX8_keepsBy_11 : decode cX8_keepsBy 11 = .ok (.aload_n 0, 1) := by decide +kernel
theorem dX8_keepsBy_12 : decode cX8_keepsBy 12 = .ok (.getfield 37, 3) := by decide +kernel
theorem dX8_keepsBy_15 : decode cX8_keepsBy 15 = .ok (.iload_n 2, 1) := by decide +kernel
theorem dX8_keepsBy_16 : decode cX8_keepsBy 16 = .ok (.invokevirtual 167, 3) := by decide +kernel
theorem dX8_keepsBy_19 : decode cX8_keepsBy 19 = .ok (.ifCond .ne 5, 3) := by decide +kernel
theorem dX8_keepsBy_22 : decode cX8_keepsBy 22 = .ok (.iconst (-1), 1) := by decide +kernel
theorem dX8_keepsBy_23 : decode cX8_keepsBy 23 = .ok (.ireturn, 1) := by decide +kernel
theorem dX8_keepsBy_24 : decode cX8_keepsBy 24 = .ok (.aload_n 0, 1) := by decide +kernel
theorem dX8_keepsBy_25 : decode cX8_keepsBy 25 = .ok (.getfield 37, 3) := by decide +kernel
theorem dX8_keepsBy_28 : decode cX8_keepsBy 28 = .ok (.iload_n 1, 1) := by decide +kernel
theorem dX8_keepsBy_29 : decode cX8_keepsBy 29 = .ok (.iload_n 2, 1) := by decide +kernel
theorem dX8_keepsBy_30 : decode cX8_keepsBy 30 = .ok (.invokevirtual 176, 3) := by decide +kernel
theorem dX8_keepsBy_33 : decode cX8_keepsBy 33 = .ok (.invokestatic 133, 3) := by decide +kernel
theorem dX8_keepsBy_36 : decode cX8_keepsBy 36 = .ok (.ireturn, 1) := by decide +kernel
theorem bX8_keepsBy_0 (x1 : Int32) (x2 : Int32) (mem : zm_Mem) (post : zm_Post) (kk : zm_Call gX1_hasMove [.ref 1, .int x1] mem (fun r1 w1 u1 => ((r1 = 0 → post (-1) 0 u1) ∧ (¬ r1 = 0 → zm_Call gX4_has [.ref 6, .int x2] u1 (fun r3 w3 u3 => ((¬ r3 = 0 → zm_Call gX4_isKeptBy [.ref 6, .int x1, .int x2] u3 (fun r5 w5 u5 => zm_Call gX8_oneIf [.int r5] u5 (fun r6 w6 u6 => post r6 0 u6))) ∧ (r3 = 0 → post (-1) 0 u3))))))) : zm_Call gX8_keepsBy [.ref 0, .int x1, .int x2] mem post := by
  refine z_entry (by decide) (Nat.le_of_ble_eq_true rfl) ?_
  show zm_Z gX8_keepsBy post 0 [(0, .ref 0), (1, .int x1), (2, .int x2)] [] mem
  refine z_aload_n dX8_keepsBy_0 rfl 0 rfl ?_
  refine z_getr (ci := 8) (j := 0) (r := 1) (T := TX8) rfl rfl hX8 rfl (by decide) fkX8_10 dX8_keepsBy_1 ?_
  refine z_iload_n dX8_keepsBy_4 rfl 1 rfl ?_
  refine z_callVi (g' := gX1_hasMove) [.int x1] (q := 1) (ci := 1) (T := TX1) rfl rfl ⟨lkX8_113, pdX1_hasMove, by decide, by decide⟩ ⟨_, rfl, by decide⟩ rfl (Nat.le_of_ble_eq_true rfl) dX8_keepsBy_5 (zm_Call.mono kk (fun r1 w1 u1 k1 => ?_))
  refine z_if_eq (tgt := 22) dX8_keepsBy_8 (by decide) (fun h2 => ?_) (fun h2 => ?_)
  ·
    refine z_iconst (v := (-1)) dX8_keepsBy_22 zciconst_m1 ?_
    exact z_iret rfl dX8_keepsBy_23 (k1.1 h2)
  ·
    refine z_aload_n dX8_keepsBy_11 rfl 0 rfl ?_
    refine z_getr (ci := 8) (j := 3) (r := 6) (T := TX8) rfl rfl hX8 rfl (by decide) fkX8_37 dX8_keepsBy_12 ?_
    refine z_iload_n dX8_keepsBy_15 rfl 2 rfl ?_
    refine z_callVi (g' := gX4_has) [.int x2] (q := 6) (ci := 4) (T := TX4) rfl rfl ⟨lkX8_167, pdX4_has, by decide, by decide⟩ ⟨_, rfl, by decide⟩ rfl (Nat.le_of_ble_eq_true rfl) dX8_keepsBy_16 (zm_Call.mono (k1.2 h2) (fun r3 w3 u3 k3 => ?_))
    refine z_if_ne (tgt := 24) dX8_keepsBy_19 (by decide) (fun h4 => ?_) (fun h4 => ?_)
    ·
      refine z_aload_n dX8_keepsBy_24 rfl 0 rfl ?_
      refine z_getr (ci := 8) (j := 3) (r := 6) (T := TX8) rfl rfl hX8 rfl (by decide) fkX8_37 dX8_keepsBy_25 ?_
      refine z_iload_n dX8_keepsBy_28 rfl 1 rfl ?_
      refine z_iload_n dX8_keepsBy_29 rfl 2 rfl ?_
      refine z_callVi (g' := gX4_isKeptBy) [.int x1, .int x2] (q := 6) (ci := 4) (T := TX4) rfl rfl ⟨lkX8_176, pdX4_isKeptBy, by decide, by decide⟩ ⟨_, rfl, by decide⟩ rfl (Nat.le_of_ble_eq_true rfl) dX8_keepsBy_30 (zm_Call.mono (k3.1 h4) (fun r5 w5 u5 k5 => ?_))
      refine z_callSi (g' := gX8_oneIf) (st := []) [.int r5] ⟨lkX8_133, pdX8_oneIf, by decide, by decide⟩ ⟨_, rfl, by decide⟩ rfl (Nat.le_of_ble_eq_true rfl) dX8_keepsBy_33 (zm_Call.mono k5 (fun r6 w6 u6 k6 => ?_))
      exact z_iret rfl dX8_keepsBy_36 k6
    ·
      refine z_iconst (v := (-1)) dX8_keepsBy_22 zciconst_m1 ?_
      exact z_iret rfl dX8_keepsBy_23 (k3.2 h4)
theorem dX8_by_0 : decode cX8_by 0 = .ok (.aload_n 0, 1) := by decide +kernel
theorem dX8_by_1 : decode cX8_by 1 = .ok (.getfield 10, 3) := by decide +kernel
theorem dX8_by_4 : decode cX8_by 4 = .ok (.iload_n 1, 1) := by decide +kernel
theorem dX8_by_5 : decode cX8_by 5 = .ok (.invokevirtual 113, 3) := by decide +kernel
theorem dX8_by_8 : decode cX8_by 8 = .ok (.ifCond .eq 14, 3) := by decide +kernel
theorem dX8_by_11 : decode cX8_by 11 = .ok (.aload_n 0, 1) := by decide +kernel
theorem dX8_by_12 : decode cX8_by 12 = .ok (.getfield 37, 3) := by decide +kernel
theorem dX8_by_15 : decode cX8_by 15 = .ok (.iload_n 1, 1) := by decide +kernel
theorem dX8_by_16 : decode cX8_by 16 = .ok (.invokevirtual 178, 3) := by decide +kernel
theorem dX8_by_19 : decode cX8_by 19 = .ok (.goto 4, 3) := by decide +kernel
theorem dX8_by_22 : decode cX8_by 22 = .ok (.iconst (-1), 1) := by decide +kernel
theorem dX8_by_23 : decode cX8_by 23 = .ok (.ireturn, 1) := by decide +kernel
theorem bX8_by_0 (x1 : Int32) (mem : zm_Mem) (post : zm_Post) (kk : zm_Call gX1_hasMove [.ref 1, .int x1] mem (fun r1 w1 u1 => ((r1 = 0 → post (-1) 0 u1) ∧ (¬ r1 = 0 → zm_Call gX4_leastFor [.ref 6, .int x1] u1 (fun r3 w3 u3 => post r3 0 u3))))) : zm_Call gX8_by [.ref 0, .int x1] mem post := by
  refine z_entry (by decide) (Nat.le_of_ble_eq_true rfl) ?_
  show zm_Z gX8_by post 0 [(0, .ref 0), (1, .int x1)] [] mem
  refine z_aload_n dX8_by_0 rfl 0 rfl ?_
  refine z_getr (ci := 8) (j := 0) (r := 1) (T := TX8) rfl rfl hX8 rfl (by decide) fkX8_10 dX8_by_1 ?_
  refine z_iload_n dX8_by_4 rfl 1 rfl ?_
  refine z_callVi (g' := gX1_hasMove) [.int x1] (q := 1) (ci := 1) (T := TX1) rfl rfl ⟨lkX8_113, pdX1_hasMove, by decide, by decide⟩ ⟨_, rfl, by decide⟩ rfl (Nat.le_of_ble_eq_true rfl) dX8_by_5 (zm_Call.mono kk (fun r1 w1 u1 k1 => ?_))
  refine z_if_eq (tgt := 22) dX8_by_8 (by decide) (fun h2 => ?_) (fun h2 => ?_)
  ·
    refine z_iconst (v := (-1)) dX8_by_22 zciconst_m1 ?_
    exact z_iret rfl dX8_by_23 (k1.1 h2)
  ·
    refine z_aload_n dX8_by_11 rfl 0 rfl ?_
    refine z_getr (ci := 8) (j := 3) (r := 6) (T := TX8) rfl rfl hX8 rfl (by decide) fkX8_37 dX8_by_12 ?_
    refine z_iload_n dX8_by_15 rfl 1 rfl ?_
    refine z_callVi (g' := gX4_leastFor) [.int x1] (q := 6) (ci := 4) (T := TX4) rfl rfl ⟨lkX8_178, pdX4_leastFor, by decide, by decide⟩ ⟨_, rfl, by decide⟩ rfl (Nat.le_of_ble_eq_true rfl) dX8_by_16 (zm_Call.mono (k1.2 h2) (fun r3 w3 u3 k3 => ?_))
    refine z_goto (tgt := 23) dX8_by_19 (by decide) ?_
    exact z_iret rfl dX8_by_23 k3
theorem dX8_swaps_0 : decode cX8_swaps 0 = .ok (.aload_n 0, 1) := by decide +kernel
theorem dX8_swaps_1 : decode cX8_swaps 1 = .ok (.getfield 37, 3) := by decide +kernel
theorem dX8_swaps_4 : decode cX8_swaps 4 = .ok (.invokevirtual 181, 3) := by decide +kernel
theorem dX8_swaps_7 : decode cX8_swaps 7 = .ok (.ireturn, 1) := by decide +kernel
theorem bX8_swaps_0 (mem : zm_Mem) (post : zm_Post) (kk : zm_Call gX4_movesWithSome [.ref 6] mem (fun r1 w1 u1 => post r1 0 u1)) : zm_Call gX8_swaps [.ref 0] mem post := by
  refine z_entry (by decide) (Nat.le_of_ble_eq_true rfl) ?_
  show zm_Z gX8_swaps post 0 [(0, .ref 0)] [] mem
  refine z_aload_n dX8_swaps_0 rfl 0 rfl ?_
  refine z_getr (ci := 8) (j := 3) (r := 6) (T := TX8) rfl rfl hX8 rfl (by decide) fkX8_37 dX8_swaps_1 ?_
  refine z_callVi (g' := gX4_movesWithSome) [] (q := 6) (ci := 4) (T := TX4) rfl rfl ⟨lkX8_181, pdX4_movesWithSome, by decide, by decide⟩ ⟨_, rfl, by decide⟩ rfl (Nat.le_of_ble_eq_true rfl) dX8_swaps_4 (zm_Call.mono kk (fun r1 w1 u1 k1 => ?_))
  exact z_iret rfl dX8_swaps_7 k1
theorem dX8_tell_0 : decode cX8_tell 0 = .ok (.aload_n 0, 1) := by decide +kernel
theorem dX8_tell_1 : decode cX8_tell 1 = .ok (.getfield 10, 3) := by decide +kernel
theorem dX8_tell_4 : decode cX8_tell 4 = .ok (.iload_n 1, 1) := by decide +kernel
theorem dX8_tell_5 : decode cX8_tell 5 = .ok (.invokevirtual 113, 3) := by decide +kernel
theorem dX8_tell_8 : decode cX8_tell 8 = .ok (.ifCond .ne 5, 3) := by decide +kernel
theorem dX8_tell_11 : decode cX8_tell 11 = .ok (.iconst (-1), 1) := by decide +kernel
theorem dX8_tell_12 : decode cX8_tell 12 = .ok (.ireturn, 1) := by decide +kernel
theorem dX8_tell_13 : decode cX8_tell 13 = .ok (.aload_n 0, 1) := by decide +kernel
theorem dX8_tell_14 : decode cX8_tell 14 = .ok (.getfield 44, 3) := by decide +kernel
theorem dX8_tell_17 : decode cX8_tell 17 = .ok (.getfield 184, 3) := by decide +kernel
theorem dX8_tell_20 : decode cX8_tell 20 = .ok (.iconst 4, 1) := by decide +kernel
theorem dX8_tell_21 : decode cX8_tell 21 = .ok (.if_icmp .lt 6, 3) := by decide +kernel
theorem dX8_tell_24 : decode cX8_tell 24 = .ok (.bipush (-4), 2) := by decide +kernel
theorem dX8_tell_26 : decode cX8_tell 26 = .ok (.ireturn, 1) := by decide +kernel
theorem dX8_tell_27 : decode cX8_tell 27 = .ok (.aload_n 0, 1) := by decide +kernel
theorem dX8_tell_28 : decode cX8_tell 28 = .ok (.getfield 44, 3) := by decide +kernel
theorem dX8_tell_31 : decode cX8_tell 31 = .ok (.iload_n 1, 1) := by decide +kernel
theorem dX8_tell_32 : decode cX8_tell 32 = .ok (.invokevirtual 187, 3) := by decide +kernel
theorem dX8_tell_35 : decode cX8_tell 35 = .ok (.aload_n 0, 1) := by decide +kernel
theorem dX8_tell_36 : decode cX8_tell 36 = .ok (.getfield 44, 3) := by decide +kernel
theorem dX8_tell_39 : decode cX8_tell 39 = .ok (.getfield 184, 3) := by decide +kernel
theorem dX8_tell_42 : decode cX8_tell 42 = .ok (.ireturn, 1) := by decide +kernel
theorem bX8_tell_0 (x1 : Int32) (mem : zm_Mem) (post : zm_Post) (kk : zm_Call gX1_hasMove [.ref 1, .int x1] mem (fun r1 w1 u1 => ((¬ r1 = 0 → (((u1 8 6) < 4 → zm_Call gX7_add [.ref 8, .int x1] u1 (fun r4 w4 u4 => post (u4 8 6) 0 u4)) ∧ (¬ (u1 8 6) < 4 → post (-4) 0 u1))) ∧ (r1 = 0 → post (-1) 0 u1)))) : zm_Call gX8_tell [.ref 0, .int x1] mem post := by
  refine z_entry (by decide) (Nat.le_of_ble_eq_true rfl) ?_
  show zm_Z gX8_tell post 0 [(0, .ref 0), (1, .int x1)] [] mem
  refine z_aload_n dX8_tell_0 rfl 0 rfl ?_
  refine z_getr (ci := 8) (j := 0) (r := 1) (T := TX8) rfl rfl hX8 rfl (by decide) fkX8_10 dX8_tell_1 ?_
  refine z_iload_n dX8_tell_4 rfl 1 rfl ?_
  refine z_callVi (g' := gX1_hasMove) [.int x1] (q := 1) (ci := 1) (T := TX1) rfl rfl ⟨lkX8_113, pdX1_hasMove, by decide, by decide⟩ ⟨_, rfl, by decide⟩ rfl (Nat.le_of_ble_eq_true rfl) dX8_tell_5 (zm_Call.mono kk (fun r1 w1 u1 k1 => ?_))
  refine z_if_ne (tgt := 13) dX8_tell_8 (by decide) (fun h2 => ?_) (fun h2 => ?_)
  ·
    refine z_aload_n dX8_tell_13 rfl 0 rfl ?_
    refine z_getr (ci := 8) (j := 4) (r := 8) (T := TX8) rfl rfl hX8 rfl (by decide) fkX8_44 dX8_tell_14 ?_
    refine z_getiN (ci := 7) (j := 6) (T := TX7) rfl rfl hX7 rfl (by decide) fkX8_184 dX8_tell_17 ?_
    refine z_iconst (v := 4) dX8_tell_20 zciconst_4 ?_
    refine z_icmp_lt (tgt := 27) dX8_tell_21 (by decide) (fun h3 => ?_) (fun h3 => ?_)
    ·
      refine z_aload_n dX8_tell_27 rfl 0 rfl ?_
      refine z_getr (ci := 8) (j := 4) (r := 8) (T := TX8) rfl rfl hX8 rfl (by decide) fkX8_44 dX8_tell_28 ?_
      refine z_iload_n dX8_tell_31 rfl 1 rfl ?_
      refine z_callVv (g' := gX7_add) [.int x1] (q := 8) (ci := 7) (T := TX7) rfl rfl ⟨lkX8_187, pdX7_add, by decide, by decide⟩ rfl rfl (Nat.le_of_ble_eq_true rfl) dX8_tell_32 (zm_Call.mono ((k1.1 h2).1 h3) (fun r4 w4 u4 k4 => ?_))
      refine z_aload_n dX8_tell_35 rfl 0 rfl ?_
      refine z_getr (ci := 8) (j := 4) (r := 8) (T := TX8) rfl rfl hX8 rfl (by decide) fkX8_44 dX8_tell_36 ?_
      refine z_getiN (ci := 7) (j := 6) (T := TX7) rfl rfl hX7 rfl (by decide) fkX8_184 dX8_tell_39 ?_
      exact z_iret rfl dX8_tell_42 k4
    ·
      refine z_bipush (v := (-4)) dX8_tell_24 zcbipush_m4 ?_
      exact z_iret rfl dX8_tell_26 ((k1.1 h2).2 h3)
  ·
    refine z_iconst (v := (-1)) dX8_tell_11 zciconst_m1 ?_
    exact z_iret rfl dX8_tell_12 (k1.2 h2)
theorem dX8_untell_0 : decode cX8_untell 0 = .ok (.aload_n 0, 1) := by decide +kernel
theorem dX8_untell_1 : decode cX8_untell 1 = .ok (.getfield 44, 3) := by decide +kernel
theorem dX8_untell_4 : decode cX8_untell 4 = .ok (.getfield 184, 3) := by decide +kernel
theorem dX8_untell_7 : decode cX8_untell 7 = .ok (.istore_n 1, 1) := by decide +kernel
theorem dX8_untell_8 : decode cX8_untell 8 = .ok (.aload_n 0, 1) := by decide +kernel
theorem dX8_untell_9 : decode cX8_untell 9 = .ok (.getfield 44, 3) := by decide +kernel
theorem dX8_untell_12 : decode cX8_untell 12 = .ok (.invokevirtual 76, 3) := by decide +kernel
theorem dX8_untell_15 : decode cX8_untell 15 = .ok (.iload_n 1, 1) := by decide +kernel
theorem dX8_untell_16 : decode cX8_untell 16 = .ok (.ireturn, 1) := by decide +kernel
theorem bX8_untell_0 (mem : zm_Mem) (post : zm_Post) (kk : zm_Call gX7_forget [.ref 8] mem (fun r1 w1 u1 => post (mem 8 6) 0 u1)) : zm_Call gX8_untell [.ref 0] mem post := by
  refine z_entry (by decide) (Nat.le_of_ble_eq_true rfl) ?_
  show zm_Z gX8_untell post 0 [(0, .ref 0)] [] mem
  refine z_aload_n dX8_untell_0 rfl 0 rfl ?_
  refine z_getr (ci := 8) (j := 4) (r := 8) (T := TX8) rfl rfl hX8 rfl (by decide) fkX8_44 dX8_untell_1 ?_
  refine z_getiN (ci := 7) (j := 6) (T := TX7) rfl rfl hX7 rfl (by decide) fkX8_184 dX8_untell_4 ?_
  refine z_istore_n (lv' := [(1, .int (mem 8 6)), (0, .ref 0)]) dX8_untell_7 rfl (by decide) rfl ?_
  refine z_aload_n dX8_untell_8 rfl 1 rfl ?_
  refine z_getr (ci := 8) (j := 4) (r := 8) (T := TX8) rfl rfl hX8 rfl (by decide) fkX8_44 dX8_untell_9 ?_
  refine z_callVv (g' := gX7_forget) [] (q := 8) (ci := 7) (T := TX7) rfl rfl ⟨lkX8_76, pdX7_forget, by decide, by decide⟩ rfl rfl (Nat.le_of_ble_eq_true rfl) dX8_untell_12 (zm_Call.mono kk (fun r1 w1 u1 k1 => ?_))
  refine z_iload_n dX8_untell_15 rfl 0 rfl ?_
  exact z_iret rfl dX8_untell_16 k1
theorem dX8_together_0 : decode cX8_together 0 = .ok (.aload_n 0, 1) := by decide +kernel
theorem dX8_together_1 : decode cX8_together 1 = .ok (.getfield 44, 3) := by decide +kernel
theorem dX8_together_4 : decode cX8_together 4 = .ok (.invokevirtual 190, 3) := by decide +kernel
theorem dX8_together_7 : decode cX8_together 7 = .ok (.ireturn, 1) := by decide +kernel
theorem bX8_together_0 (mem : zm_Mem) (post : zm_Post) (kk : zm_Call gX7_movesMade [.ref 8] mem (fun r1 w1 u1 => post r1 0 u1)) : zm_Call gX8_together [.ref 0] mem post := by
  refine z_entry (by decide) (Nat.le_of_ble_eq_true rfl) ?_
  show zm_Z gX8_together post 0 [(0, .ref 0)] [] mem
  refine z_aload_n dX8_together_0 rfl 0 rfl ?_
  refine z_getr (ci := 8) (j := 4) (r := 8) (T := TX8) rfl rfl hX8 rfl (by decide) fkX8_44 dX8_together_1 ?_
  refine z_callVi (g' := gX7_movesMade) [] (q := 8) (ci := 7) (T := TX7) rfl rfl ⟨lkX8_190, pdX7_movesMade, by decide, by decide⟩ ⟨_, rfl, by decide⟩ rfl (Nat.le_of_ble_eq_true rfl) dX8_together_4 (zm_Call.mono kk (fun r1 w1 u1 k1 => ?_))
  exact z_iret rfl dX8_together_7 k1
theorem dX8_rings_0 : decode cX8_rings 0 = .ok (.aload_n 0, 1) := by decide +kernel
theorem dX8_rings_1 : decode cX8_rings 1 = .ok (.getfield 44, 3) := by decide +kernel
theorem dX8_rings_4 : decode cX8_rings 4 = .ok (.invokevirtual 193, 3) := by decide +kernel
theorem dX8_rings_7 : decode cX8_rings 7 = .ok (.ireturn, 1) := by decide +kernel
theorem bX8_rings_0 (mem : zm_Mem) (post : zm_Post) (kk : zm_Call gX7_ringCount [.ref 8] mem (fun r1 w1 u1 => post r1 0 u1)) : zm_Call gX8_rings [.ref 0] mem post := by
  refine z_entry (by decide) (Nat.le_of_ble_eq_true rfl) ?_
  show zm_Z gX8_rings post 0 [(0, .ref 0)] [] mem
  refine z_aload_n dX8_rings_0 rfl 0 rfl ?_
  refine z_getr (ci := 8) (j := 4) (r := 8) (T := TX8) rfl rfl hX8 rfl (by decide) fkX8_44 dX8_rings_1 ?_
  refine z_callVi (g' := gX7_ringCount) [] (q := 8) (ci := 7) (T := TX7) rfl rfl ⟨lkX8_193, pdX7_ringCount, by decide, by decide⟩ ⟨_, rfl, by decide⟩ rfl (Nat.le_of_ble_eq_true rfl) dX8_rings_4 (zm_Call.mono kk (fun r1 w1 u1 k1 => ?_))
  exact z_iret rfl dX8_rings_7 k1
theorem dX8_ring_0 : decode cX8_ring 0 = .ok (.aload_n 0, 1) := by decide +kernel
theorem dX8_ring_1 : decode cX8_ring 1 = .ok (.getfield 10, 3) := by decide +kernel
theorem dX8_ring_4 : decode cX8_ring 4 = .ok (.iload_n 1, 1) := by decide +kernel
theorem dX8_ring_5 : decode cX8_ring 5 = .ok (.invokevirtual 90, 3) := by decide +kernel
theorem dX8_ring_8 : decode cX8_ring 8 = .ok (.ifCond .eq 15, 3) := by decide +kernel
theorem dX8_ring_11 : decode cX8_ring 11 = .ok (.aload_n 0, 1) := by decide +kernel
theorem dX8_ring_12 : decode cX8_ring 12 = .ok (.getfield 44, 3) := by decide +kernel
theorem dX8_ring_15 : decode cX8_ring 15 = .ok (.getfield 196, 3) := by decide +kernel
theorem dX8_ring_18 : decode cX8_ring 18 = .ok (.iload_n 1, 1) := by decide +kernel
theorem dX8_ring_19 : decode cX8_ring 19 = .ok (.iaload, 1) := by decide +kernel
theorem dX8_ring_20 : decode cX8_ring 20 = .ok (.goto 4, 3) := by decide +kernel
theorem dX8_ring_23 : decode cX8_ring 23 = .ok (.iconst (-1), 1) := by decide +kernel
theorem dX8_ring_24 : decode cX8_ring 24 = .ok (.ireturn, 1) := by decide +kernel
theorem bX8_ring_0 (x1 : Int32) (mem : zm_Mem) (post : zm_Post) (kk : zm_Call gX1_hasCell [.ref 1, .int x1] mem (fun r1 w1 u1 => ((r1 = 0 → post (-1) 0 u1) ∧ (¬ r1 = 0 → (vp_in x1 36 ∧ post (u1 10 (Int32.toNatClampNeg x1)) 0 u1))))) : zm_Call gX8_ring [.ref 0, .int x1] mem post := by
  refine z_entry (by decide) (Nat.le_of_ble_eq_true rfl) ?_
  show zm_Z gX8_ring post 0 [(0, .ref 0), (1, .int x1)] [] mem
  refine z_aload_n dX8_ring_0 rfl 0 rfl ?_
  refine z_getr (ci := 8) (j := 0) (r := 1) (T := TX8) rfl rfl hX8 rfl (by decide) fkX8_10 dX8_ring_1 ?_
  refine z_iload_n dX8_ring_4 rfl 1 rfl ?_
  refine z_callVi (g' := gX1_hasCell) [.int x1] (q := 1) (ci := 1) (T := TX1) rfl rfl ⟨lkX8_90, pdX1_hasCell, by decide, by decide⟩ ⟨_, rfl, by decide⟩ rfl (Nat.le_of_ble_eq_true rfl) dX8_ring_5 (zm_Call.mono kk (fun r1 w1 u1 k1 => ?_))
  refine z_if_eq (tgt := 23) dX8_ring_8 (by decide) (fun h2 => ?_) (fun h2 => ?_)
  ·
    refine z_iconst (v := (-1)) dX8_ring_23 zciconst_m1 ?_
    exact z_iret rfl dX8_ring_24 (k1.1 h2)
  ·
    refine z_aload_n dX8_ring_11 rfl 0 rfl ?_
    refine z_getr (ci := 8) (j := 4) (r := 8) (T := TX8) rfl rfl hX8 rfl (by decide) fkX8_44 dX8_ring_12 ?_
    refine z_getrN (ci := 7) (j := 3) (r := 10) (T := TX7) rfl rfl hX7 rfl (by decide) fkX8_196 dX8_ring_15 ?_
    refine z_iload_n dX8_ring_18 rfl 1 rfl ?_
    refine z_iald (n := 36) rfl (k1.2 h2).1 dX8_ring_19 ?_
    refine z_goto (tgt := 24) dX8_ring_20 (by decide) ?_
    exact z_iret rfl dX8_ring_24 (k1.2 h2).2
theorem dX8_mend_0 : decode cX8_mend 0 = .ok (.aload_n 0, 1) := by decide +kernel
theorem dX8_mend_1 : decode cX8_mend 1 = .ok (.getfield 44, 3) := by decide +kernel
theorem dX8_mend_4 : decode cX8_mend 4 = .ok (.iload_n 1, 1) := by decide +kernel
theorem dX8_mend_5 : decode cX8_mend 5 = .ok (.invokevirtual 199, 3) := by decide +kernel
theorem dX8_mend_8 : decode cX8_mend 8 = .ok (.ireturn, 1) := by decide +kernel
theorem bX8_mend_0 (x1 : Int32) (mem : zm_Mem) (post : zm_Post) (kk : zm_Call gX7_paintRings [.ref 8, .int x1] mem (fun r1 w1 u1 => post r1 0 u1)) : zm_Call gX8_mend [.ref 0, .int x1] mem post := by
  refine z_entry (by decide) (Nat.le_of_ble_eq_true rfl) ?_
  show zm_Z gX8_mend post 0 [(0, .ref 0), (1, .int x1)] [] mem
  refine z_aload_n dX8_mend_0 rfl 0 rfl ?_
  refine z_getr (ci := 8) (j := 4) (r := 8) (T := TX8) rfl rfl hX8 rfl (by decide) fkX8_44 dX8_mend_1 ?_
  refine z_iload_n dX8_mend_4 rfl 1 rfl ?_
  refine z_callVi (g' := gX7_paintRings) [.int x1] (q := 8) (ci := 7) (T := TX7) rfl rfl ⟨lkX8_199, pdX7_paintRings, by decide, by decide⟩ ⟨_, rfl, by decide⟩ rfl (Nat.le_of_ble_eq_true rfl) dX8_mend_5 (zm_Call.mono kk (fun r1 w1 u1 k1 => ?_))
  exact z_iret rfl dX8_mend_8 k1
theorem dX8_sure_0 : decode cX8_sure 0 = .ok (.aload_n 0, 1) := by decide +kernel
theorem dX8_sure_1 : decode cX8_sure 1 = .ok (.getfield 10, 3) := by decide +kernel
theorem dX8_sure_4 : decode cX8_sure 4 = .ok (.iload_n 1, 1) := by decide +kernel
theorem dX8_sure_5 : decode cX8_sure 5 = .ok (.invokevirtual 90, 3) := by decide +kernel
theorem dX8_sure_8 : decode cX8_sure 8 = .ok (.ifCond .ne 5, 3) := by decide +kernel
theorem dX8_sure_11 : decode cX8_sure 11 = .ok (.iconst (-1), 1) := by decide +kernel
theorem dX8_sure_12 : decode cX8_sure 12 = .ok (.ireturn, 1) := by decide +kernel
theorem dX8_sure_13 : decode cX8_sure 13 = .ok (.aload_n 0, 1) := by decide +kernel
theorem dX8_sure_14 : decode cX8_sure 14 = .ok (.getfield 21, 3) := by decide +kernel
theorem dX8_sure_17 : decode cX8_sure 17 = .ok (.getfield 97, 3) := by decide +kernel
theorem dX8_sure_20 : decode cX8_sure 20 = .ok (.iload_n 1, 1) := by decide +kernel
theorem dX8_sure_21 : decode cX8_sure 21 = .ok (.iaload, 1) := by decide +kernel
theorem dX8_sure_22 : decode cX8_sure 22 = .ok (.bipush 9, 2) := by decide +kernel
theorem dX8_sure_24 : decode cX8_sure 24 = .ok (.if_icmp .eq 6, 3) := by decide +kernel
theorem dX8_sure_27 : decode cX8_sure 27 = .ok (.bipush (-3), 2) := by decide +kernel
theorem dX8_sure_29 : decode cX8_sure 29 = .ok (.ireturn, 1) := by decide +kernel
theorem dX8_sure_30 : decode cX8_sure 30 = .ok (.aload_n 0, 1) := by decide +kernel
theorem dX8_sure_31 : decode cX8_sure 31 = .ok (.getfield 44, 3) := by decide +kernel
theorem dX8_sure_34 : decode cX8_sure 34 = .ok (.aload_n 0, 1) := by decide +kernel
theorem dX8_sure_35 : decode cX8_sure 35 = .ok (.getfield 44, 3) := by decide +kernel
theorem dX8_sure_38 : decode cX8_sure 38 = .ok (.getfield 196, 3) := by decide +kernel
theorem dX8_sure_41 : decode cX8_sure 41 = .ok (.iload_n 1, 1) := by decide +kernel
theorem dX8_sure_42 : decode cX8_sure 42 = .ok (.iaload, 1) := by decide +kernel
theorem dX8_sure_43 : decode cX8_sure 43 = .ok (.invokevirtual 202, 3) := by decide +kernel
theorem dX8_sure_46 : decode cX8_sure 46 = .ok (.ireturn, 1) := by decide +kernel
theorem bX8_sure_0 (x1 : Int32) (mem : zm_Mem) (post : zm_Post) (kk : zm_Call gX1_hasCell [.ref 1, .int x1] mem (fun r1 w1 u1 => ((¬ r1 = 0 → (vp_in x1 36 ∧ (((u1 3 (Int32.toNatClampNeg x1)) = 9 → (vp_in x1 36 ∧ zm_Call gX7_onlyHue [.ref 8, .int (u1 10 (Int32.toNatClampNeg x1))] u1 (fun r4 w4 u4 => post r4 0 u4))) ∧ (¬ (u1 3 (Int32.toNatClampNeg x1)) = 9 → post (-3) 0 u1)))) ∧ (r1 = 0 → post (-1) 0 u1)))) : zm_Call gX8_sure [.ref 0, .int x1] mem post := by
  refine z_entry (by decide) (Nat.le_of_ble_eq_true rfl) ?_
  show zm_Z gX8_sure post 0 [(0, .ref 0), (1, .int x1)] [] mem
  refine z_aload_n dX8_sure_0 rfl 0 rfl ?_
  refine z_getr (ci := 8) (j := 0) (r := 1) (T := TX8) rfl rfl hX8 rfl (by decide) fkX8_10 dX8_sure_1 ?_
  refine z_iload_n dX8_sure_4 rfl 1 rfl ?_
  refine z_callVi (g' := gX1_hasCell) [.int x1] (q := 1) (ci := 1) (T := TX1) rfl rfl ⟨lkX8_90, pdX1_hasCell, by decide, by decide⟩ ⟨_, rfl, by decide⟩ rfl (Nat.le_of_ble_eq_true rfl) dX8_sure_5 (zm_Call.mono kk (fun r1 w1 u1 k1 => ?_))
  refine z_if_ne (tgt := 13) dX8_sure_8 (by decide) (fun h2 => ?_) (fun h2 => ?_)
  ·
    refine z_aload_n dX8_sure_13 rfl 0 rfl ?_
    refine z_getr (ci := 8) (j := 1) (r := 2) (T := TX8) rfl rfl hX8 rfl (by decide) fkX8_21 dX8_sure_14 ?_
    refine z_getrN (ci := 5) (j := 1) (r := 3) (T := TX5) rfl rfl hX5 rfl (by decide) fkX8_97 dX8_sure_17 ?_
    refine z_iload_n dX8_sure_20 rfl 1 rfl ?_
    refine z_iald (n := 36) rfl (k1.1 h2).1 dX8_sure_21 ?_
    refine z_bipush (v := 9) dX8_sure_22 zcbipush_9 ?_
    refine z_icmp_eq (tgt := 30) dX8_sure_24 (by decide) (fun h3 => ?_) (fun h3 => ?_)
    ·
      refine z_aload_n dX8_sure_30 rfl 0 rfl ?_
      refine z_getr (ci := 8) (j := 4) (r := 8) (T := TX8) rfl rfl hX8 rfl (by decide) fkX8_44 dX8_sure_31 ?_
      refine z_aload_n dX8_sure_34 rfl 0 rfl ?_
      refine z_getr (ci := 8) (j := 4) (r := 8) (T := TX8) rfl rfl hX8 rfl (by decide) fkX8_44 dX8_sure_35 ?_
      refine z_getrN (ci := 7) (j := 3) (r := 10) (T := TX7) rfl rfl hX7 rfl (by decide) fkX8_196 dX8_sure_38 ?_
      refine z_iload_n dX8_sure_41 rfl 1 rfl ?_
      refine z_iald (n := 36) rfl ((k1.1 h2).2.1 h3).1 dX8_sure_42 ?_
      refine z_callVi (g' := gX7_onlyHue) [.int (u1 10 (Int32.toNatClampNeg x1))] (q := 8) (ci := 7) (T := TX7) rfl rfl ⟨lkX8_202, pdX7_onlyHue, by decide, by decide⟩ ⟨_, rfl, by decide⟩ rfl (Nat.le_of_ble_eq_true rfl) dX8_sure_43 (zm_Call.mono ((k1.1 h2).2.1 h3).2 (fun r4 w4 u4 k4 => ?_))
      exact z_iret rfl dX8_sure_46 k4
    ·
      refine z_bipush (v := (-3)) dX8_sure_27 zcbipush_m3 ?_
      exact z_iret rfl dX8_sure_29 ((k1.1 h2).2.2 h3)
  ·
    refine z_iconst (v := (-1)) dX8_sure_11 zciconst_m1 ?_
    exact z_iret rfl dX8_sure_12 (k1.2 h2)
theorem dX8_torn_0 : decode cX8_torn 0 = .ok (.aload_n 0, 1) := by decide +kernel
theorem dX8_torn_1 : decode cX8_torn 1 = .ok (.getfield 44, 3) := by decide +kernel
theorem dX8_torn_4 : decode cX8_torn 4 = .ok (.invokevirtual 205, 3) := by decide +kernel
theorem dX8_torn_7 : decode cX8_torn 7 = .ok (.ireturn, 1) := by decide +kernel
theorem bX8_torn_0 (mem : zm_Mem) (post : zm_Post) (kk : zm_Call gX7_tornCount [.ref 8] mem (fun r1 w1 u1 => post r1 0 u1)) : zm_Call gX8_torn [.ref 0] mem post := by
  refine z_entry (by decide) (Nat.le_of_ble_eq_true rfl) ?_
  show zm_Z gX8_torn post 0 [(0, .ref 0)] [] mem
  refine z_aload_n dX8_torn_0 rfl 0 rfl ?_
  refine z_getr (ci := 8) (j := 4) (r := 8) (T := TX8) rfl rfl hX8 rfl (by decide) fkX8_44 dX8_torn_1 ?_
  refine z_callVi (g' := gX7_tornCount) [] (q := 8) (ci := 7) (T := TX7) rfl rfl ⟨lkX8_205, pdX7_tornCount, by decide, by decide⟩ ⟨_, rfl, by decide⟩ rfl (Nat.le_of_ble_eq_true rfl) dX8_torn_4 (zm_Call.mono kk (fun r1 w1 u1 k1 => ?_))
  exact z_iret rfl dX8_torn_7 k1
theorem dX8_papers_0 : decode cX8_papers 0 = .ok (.aload_n 0, 1) := by decide +kernel
theorem dX8_papers_1 : decode cX8_papers 1 = .ok (.getfield 10, 3) := by decide +kernel
theorem dX8_papers_4 : decode cX8_papers 4 = .ok (.getfield 79, 3) := by decide +kernel
theorem dX8_papers_7 : decode cX8_papers 7 = .ok (.bipush 25, 2) := by decide +kernel
theorem dX8_papers_9 : decode cX8_papers 9 = .ok (.if_icmp .le 7, 3) := by decide +kernel
theorem dX8_papers_12 : decode cX8_papers 12 = .ok (.ldc2_w 208, 3) := by decide +kernel
theorem dX8_papers_15 : decode cX8_papers 15 = .ok (.lreturn, 1) := by decide +kernel
theorem dX8_papers_16 : decode cX8_papers 16 = .ok (.aload_n 0, 1) := by decide +kernel
theorem dX8_papers_17 : decode cX8_papers 17 = .ok (.getfield 21, 3) := by decide +kernel
theorem dX8_papers_20 : decode cX8_papers 20 = .ok (.getfield 83, 3) := by decide +kernel
theorem dX8_papers_23 : decode cX8_papers 23 = .ok (.aload_n 0, 1) := by decide +kernel
theorem dX8_papers_24 : decode cX8_papers 24 = .ok (.getfield 44, 3) := by decide +kernel
theorem dX8_papers_27 : decode cX8_papers 27 = .ok (.invokevirtual 193, 3) := by decide +kernel
theorem dX8_papers_30 : decode cX8_papers 30 = .ok (.invokestatic 210, 3) := by decide +kernel
theorem dX8_papers_33 : decode cX8_papers 33 = .ok (.lreturn, 1) := by decide +kernel
theorem bX8_papers_0 (mem : zm_Mem) (post : zm_Post) (kk : (((mem 1 2) ≤ 25 → zm_Call gX7_ringCount [.ref 8] mem (fun r2 w2 u2 => zm_Call gX0_power [.int (mem 2 3), .int r2] u2 (fun r3 w3 u3 => post 0 w3 u3))) ∧ (¬ (mem 1 2) ≤ 25 → post 0 (-3) mem))) : zm_Call gX8_papers [.ref 0] mem post := by
  refine z_entry (by decide) (Nat.le_of_ble_eq_true rfl) ?_
  show zm_Z gX8_papers post 0 [(0, .ref 0)] [] mem
  refine z_aload_n dX8_papers_0 rfl 0 rfl ?_
  refine z_getr (ci := 8) (j := 0) (r := 1) (T := TX8) rfl rfl hX8 rfl (by decide) fkX8_10 dX8_papers_1 ?_
  refine z_getiN (ci := 1) (j := 2) (T := TX1) rfl rfl hX1 rfl (by decide) fkX8_79 dX8_papers_4 ?_
  refine z_bipush (v := 25) dX8_papers_7 zcbipush_25 ?_
  refine z_icmp_le (tgt := 16) dX8_papers_9 (by decide) (fun h1 => ?_) (fun h1 => ?_)
  ·
    refine z_aload_n dX8_papers_16 rfl 0 rfl ?_
    refine z_getr (ci := 8) (j := 1) (r := 2) (T := TX8) rfl rfl hX8 rfl (by decide) fkX8_21 dX8_papers_17 ?_
    refine z_getiN (ci := 5) (j := 3) (T := TX5) rfl rfl hX5 rfl (by decide) fkX8_83 dX8_papers_20 ?_
    refine z_aload_n dX8_papers_23 rfl 0 rfl ?_
    refine z_getr (ci := 8) (j := 4) (r := 8) (T := TX8) rfl rfl hX8 rfl (by decide) fkX8_44 dX8_papers_24 ?_
    refine z_callVi (g' := gX7_ringCount) [] (q := 8) (ci := 7) (T := TX7) rfl rfl ⟨lkX8_193, pdX7_ringCount, by decide, by decide⟩ ⟨_, rfl, by decide⟩ rfl (Nat.le_of_ble_eq_true rfl) dX8_papers_27 (zm_Call.mono (kk.1 h1) (fun r2 w2 u2 k2 => ?_))
    refine z_callSl (g' := gX0_power) (st := []) [.int (mem 2 3), .int r2] ⟨lkX8_210, pdX0_power, by decide, by decide⟩ rfl rfl (Nat.le_of_ble_eq_true rfl) dX8_papers_30 (zm_Call.mono k2 (fun r3 w3 u3 k3 => ?_))
    exact z_lret rfl dX8_papers_33 k3
  ·
    refine z_ldc2 (v := (-3)) dX8_papers_12 fkX8_208 ?_
    exact z_lret rfl dX8_papers_15 (kk.2 h1)
theorem dX8_upTo_0 : decode cX8_upTo 0 = .ok (.aload_n 0, 1) := by decide +kernel
theorem dX8_upTo_1 : decode cX8_upTo 1 = .ok (.getfield 10, 3) := by decide +kernel
theorem dX8_upTo_4 : decode cX8_upTo 4 = .ok (.getfield 79, 3) := by decide +kernel
theorem dX8_upTo_7 : decode cX8_upTo 7 = .ok (.bipush 25, 2) := by decide +kernel
theorem dX8_upTo_9 : decode cX8_upTo 9 = .ok (.if_icmp .le 7, 3) := by decide +kernel
theorem dX8_upTo_12 : decode cX8_upTo 12 = .ok (.ldc2_w 208, 3) := by decide +kernel
theorem dX8_upTo_15 : decode cX8_upTo 15 = .ok (.lreturn, 1) := by decide +kernel
theorem dX8_upTo_16 : decode cX8_upTo 16 = .ok (.aload_n 0, 1) := by decide +kernel
theorem dX8_upTo_17 : decode cX8_upTo 17 = .ok (.getfield 51, 3) := by decide +kernel
theorem dX8_upTo_20 : decode cX8_upTo 20 = .ok (.aload_n 0, 1) := by decide +kernel
theorem dX8_upTo_21 : decode cX8_upTo 21 = .ok (.getfield 21, 3) := by decide +kernel
theorem dX8_upTo_24 : decode cX8_upTo 24 = .ok (.getfield 83, 3) := by decide +kernel
theorem dX8_upTo_27 : decode cX8_upTo 27 = .ok (.invokevirtual 214, 3) := by decide +kernel
theorem dX8_upTo_30 : decode cX8_upTo 30 = .ok (.lreturn, 1) := by decide +kernel
theorem bX8_upTo_0 (mem : zm_Mem) (post : zm_Post) (kk : (((mem 1 2) ≤ 25 → zm_Call gX0_unlike [.ref 13, .int (mem 2 3)] mem (fun r2 w2 u2 => post 0 w2 u2)) ∧ (¬ (mem 1 2) ≤ 25 → post 0 (-3) mem))) : zm_Call gX8_upTo [.ref 0] mem post := by
  refine z_entry (by decide) (Nat.le_of_ble_eq_true rfl) ?_
  show zm_Z gX8_upTo post 0 [(0, .ref 0)] [] mem
  refine z_aload_n dX8_upTo_0 rfl 0 rfl ?_
  refine z_getr (ci := 8) (j := 0) (r := 1) (T := TX8) rfl rfl hX8 rfl (by decide) fkX8_10 dX8_upTo_1 ?_
  refine z_getiN (ci := 1) (j := 2) (T := TX1) rfl rfl hX1 rfl (by decide) fkX8_79 dX8_upTo_4 ?_
  refine z_bipush (v := 25) dX8_upTo_7 zcbipush_25 ?_
  refine z_icmp_le (tgt := 16) dX8_upTo_9 (by decide) (fun h1 => ?_) (fun h1 => ?_)
  ·
    refine z_aload_n dX8_upTo_16 rfl 0 rfl ?_
    refine z_getr (ci := 8) (j := 5) (r := 13) (T := TX8) rfl rfl hX8 rfl (by decide) fkX8_51 dX8_upTo_17 ?_
    refine z_aload_n dX8_upTo_20 rfl 0 rfl ?_
    refine z_getr (ci := 8) (j := 1) (r := 2) (T := TX8) rfl rfl hX8 rfl (by decide) fkX8_21 dX8_upTo_21 ?_
    refine z_getiN (ci := 5) (j := 3) (T := TX5) rfl rfl hX5 rfl (by decide) fkX8_83 dX8_upTo_24 ?_
    refine z_callVl (g' := gX0_unlike) [.int (mem 2 3)] (q := 13) (ci := 0) (T := TX0) rfl rfl ⟨lkX8_214, pdX0_unlike, by decide, by decide⟩ rfl rfl (Nat.le_of_ble_eq_true rfl) dX8_upTo_27 (zm_Call.mono (kk.1 h1) (fun r2 w2 u2 k2 => ?_))
    exact z_lret rfl dX8_upTo_30 k2
  ·
    refine z_ldc2 (v := (-3)) dX8_upTo_12 fkX8_208 ?_
    exact z_lret rfl dX8_upTo_15 (kk.2 h1)
theorem dX8_like_0 : decode cX8_like 0 = .ok (.aload_n 0, 1) := by decide +kernel
theorem dX8_like_1 : decode cX8_like 1 = .ok (.getfield 58, 3) := by decide +kernel
theorem dX8_like_4 : decode cX8_like 4 = .ok (.invokevirtual 218, 3) := by decide +kernel
theorem dX8_like_7 : decode cX8_like 7 = .ok (.ireturn, 1) := by decide +kernel
theorem bX8_like_0 (mem : zm_Mem) (post : zm_Post) (kk : zm_Call gX3_total [.ref 15] mem (fun r1 w1 u1 => post r1 0 u1)) : zm_Call gX8_like [.ref 0] mem post := by
  refine z_entry (by decide) (Nat.le_of_ble_eq_true rfl) ?_
  show zm_Z gX8_like post 0 [(0, .ref 0)] [] mem
  refine z_aload_n dX8_like_0 rfl 0 rfl ?_
  refine z_getr (ci := 8) (j := 6) (r := 15) (T := TX8) rfl rfl hX8 rfl (by decide) fkX8_58 dX8_like_1 ?_
  refine z_callVi (g' := gX3_total) [] (q := 15) (ci := 3) (T := TX3) rfl rfl ⟨lkX8_218, pdX3_total, by decide, by decide⟩ ⟨_, rfl, by decide⟩ rfl (Nat.le_of_ble_eq_true rfl) dX8_like_4 (zm_Call.mono kk (fun r1 w1 u1 k1 => ?_))
  exact z_iret rfl dX8_like_7 k1
theorem dX8_first_0 : decode cX8_first 0 = .ok (.aload_n 0, 1) := by decide +kernel
theorem dX8_first_1 : decode cX8_first 1 = .ok (.getfield 10, 3) := by decide +kernel
theorem dX8_first_4 : decode cX8_first 4 = .ok (.iload_n 1, 1) := by decide +kernel
theorem dX8_first_5 : decode cX8_first 5 = .ok (.invokevirtual 90, 3) := by decide +kernel
theorem dX8_first_8 : decode cX8_first 8 = .ok (.ifCond .eq 14, 3) := by decide +kernel
theorem dX8_first_11 : decode cX8_first 11 = .ok (.aload_n 0, 1) := by decide +kernel
theorem dX8_first_12 : decode cX8_first 12 = .ok (.getfield 58, 3) := by decide +kernel
theorem dX8_first_15 : decode cX8_first 15 = .ok (.iload_n 1, 1) := by decide +kernel
theorem dX8_first_16 : decode cX8_first 16 = .ok (.invokevirtual 219, 3) := by decide +kernel
theorem dX8_first_19 : decode cX8_first 19 = .ok (.goto 4, 3) := by decide +kernel
theorem dX8_first_22 : decode cX8_first 22 = .ok (.iconst (-1), 1) := by decide +kernel
theorem dX8_first_23 : decode cX8_first 23 = .ok (.ireturn, 1) := by decide +kernel
theorem bX8_first_0 (x1 : Int32) (mem : zm_Mem) (post : zm_Post) (kk : zm_Call gX1_hasCell [.ref 1, .int x1] mem (fun r1 w1 u1 => ((r1 = 0 → post (-1) 0 u1) ∧ (¬ r1 = 0 → zm_Call gX3_hueInFirst [.ref 15, .int x1] u1 (fun r3 w3 u3 => post r3 0 u3))))) : zm_Call gX8_first [.ref 0, .int x1] mem post := by
  refine z_entry (by decide) (Nat.le_of_ble_eq_true rfl) ?_
  show zm_Z gX8_first post 0 [(0, .ref 0), (1, .int x1)] [] mem
  refine z_aload_n dX8_first_0 rfl 0 rfl ?_
  refine z_getr (ci := 8) (j := 0) (r := 1) (T := TX8) rfl rfl hX8 rfl (by decide) fkX8_10 dX8_first_1 ?_
  refine z_iload_n dX8_first_4 rfl 1 rfl ?_
  refine z_callVi (g' := gX1_hasCell) [.int x1] (q := 1) (ci := 1) (T := TX1) rfl rfl ⟨lkX8_90, pdX1_hasCell, by decide, by decide⟩ ⟨_, rfl, by decide⟩ rfl (Nat.le_of_ble_eq_true rfl) dX8_first_5 (zm_Call.mono kk (fun r1 w1 u1 k1 => ?_))
  refine z_if_eq (tgt := 22) dX8_first_8 (by decide) (fun h2 => ?_) (fun h2 => ?_)
  ·
    refine z_iconst (v := (-1)) dX8_first_22 zciconst_m1 ?_
    exact z_iret rfl dX8_first_23 (k1.1 h2)
  ·
    refine z_aload_n dX8_first_11 rfl 0 rfl ?_
    refine z_getr (ci := 8) (j := 6) (r := 15) (T := TX8) rfl rfl hX8 rfl (by decide) fkX8_58 dX8_first_12 ?_
    refine z_iload_n dX8_first_15 rfl 1 rfl ?_
    refine z_callVi (g' := gX3_hueInFirst) [.int x1] (q := 15) (ci := 3) (T := TX3) rfl rfl ⟨lkX8_219, pdX3_hueInFirst, by decide, by decide⟩ ⟨_, rfl, by decide⟩ rfl (Nat.le_of_ble_eq_true rfl) dX8_first_16 (zm_Call.mono (k1.2 h2) (fun r3 w3 u3 k3 => ?_))
    refine z_goto (tgt := 23) dX8_first_19 (by decide) ?_
    exact z_iret rfl dX8_first_23 k3
theorem dX8_toFirst_0 : decode cX8_toFirst 0 = .ok (.aload_n 0, 1) := by decide +kernel
theorem dX8_toFirst_1 : decode cX8_toFirst 1 = .ok (.getfield 58, 3) := by decide +kernel
theorem dX8_toFirst_4 : decode cX8_toFirst 4 = .ok (.invokevirtual 222, 3) := by decide +kernel
theorem dX8_toFirst_7 : decode cX8_toFirst 7 = .ok (.ireturn, 1) := by decide +kernel
theorem bX8_toFirst_0 (mem : zm_Mem) (post : zm_Post) (kk : zm_Call gX3_moveToFirst [.ref 15] mem (fun r1 w1 u1 => post r1 0 u1)) : zm_Call gX8_toFirst [.ref 0] mem post := by
  refine z_entry (by decide) (Nat.le_of_ble_eq_true rfl) ?_
  show zm_Z gX8_toFirst post 0 [(0, .ref 0)] [] mem
  refine z_aload_n dX8_toFirst_0 rfl 0 rfl ?_
  refine z_getr (ci := 8) (j := 6) (r := 15) (T := TX8) rfl rfl hX8 rfl (by decide) fkX8_58 dX8_toFirst_1 ?_
  refine z_callVi (g' := gX3_moveToFirst) [] (q := 15) (ci := 3) (T := TX3) rfl rfl ⟨lkX8_222, pdX3_moveToFirst, by decide, by decide⟩ ⟨_, rfl, by decide⟩ rfl (Nat.le_of_ble_eq_true rfl) dX8_toFirst_4 (zm_Call.mono kk (fun r1 w1 u1 k1 => ?_))
  exact z_iret rfl dX8_toFirst_7 k1
theorem dX8_pieces_0 : decode cX8_pieces 0 = .ok (.aload_n 0, 1) := by decide +kernel
theorem dX8_pieces_1 : decode cX8_pieces 1 = .ok (.getfield 65, 3) := by decide +kernel
theorem dX8_pieces_4 : decode cX8_pieces 4 = .ok (.iload_n 1, 1) := by decide +kernel
theorem dX8_pieces_5 : decode cX8_pieces 5 = .ok (.invokevirtual 225, 3) := by decide +kernel
theorem dX8_pieces_8 : decode cX8_pieces 8 = .ok (.ireturn, 1) := by decide +kernel
theorem bX8_pieces_0 (x1 : Int32) (mem : zm_Mem) (post : zm_Post) (kk : zm_Call gX6_total [.ref 16, .int x1] mem (fun r1 w1 u1 => post r1 0 u1)) : zm_Call gX8_pieces [.ref 0, .int x1] mem post := by
  refine z_entry (by decide) (Nat.le_of_ble_eq_true rfl) ?_
  show zm_Z gX8_pieces post 0 [(0, .ref 0), (1, .int x1)] [] mem
  refine z_aload_n dX8_pieces_0 rfl 0 rfl ?_
  refine z_getr (ci := 8) (j := 7) (r := 16) (T := TX8) rfl rfl hX8 rfl (by decide) fkX8_65 dX8_pieces_1 ?_
  refine z_iload_n dX8_pieces_4 rfl 1 rfl ?_
  refine z_callVi (g' := gX6_total) [.int x1] (q := 16) (ci := 6) (T := TX6) rfl rfl ⟨lkX8_225, pdX6_total, by decide, by decide⟩ ⟨_, rfl, by decide⟩ rfl (Nat.le_of_ble_eq_true rfl) dX8_pieces_5 (zm_Call.mono kk (fun r1 w1 u1 k1 => ?_))
  exact z_iret rfl dX8_pieces_8 k1
theorem dX8_piece_0 : decode cX8_piece 0 = .ok (.aload_n 0, 1) := by decide +kernel
theorem dX8_piece_1 : decode cX8_piece 1 = .ok (.getfield 10, 3) := by decide +kernel
theorem dX8_piece_4 : decode cX8_piece 4 = .ok (.iload_n 1, 1) := by decide +kernel
theorem dX8_piece_5 : decode cX8_piece 5 = .ok (.invokevirtual 90, 3) := by decide +kernel
theorem dX8_piece_8 : decode cX8_piece 8 = .ok (.ifCond .ne 5, 3) := by decide +kernel
theorem dX8_piece_11 : decode cX8_piece 11 = .ok (.iconst (-1), 1) := by decide +kernel
theorem dX8_piece_12 : decode cX8_piece 12 = .ok (.ireturn, 1) := by decide +kernel
theorem dX8_piece_13 : decode cX8_piece 13 = .ok (.aload_n 0, 1) := by decide +kernel
theorem dX8_piece_14 : decode cX8_piece 14 = .ok (.getfield 21, 3) := by decide +kernel
theorem dX8_piece_17 : decode cX8_piece 17 = .ok (.getfield 97, 3) := by decide +kernel
theorem dX8_piece_20 : decode cX8_piece 20 = .ok (.iload_n 1, 1) := by decide +kernel
theorem dX8_piece_21 : decode cX8_piece 21 = .ok (.iaload, 1) := by decide +kernel
theorem dX8_piece_22 : decode cX8_piece 22 = .ok (.bipush 9, 2) := by decide +kernel
theorem dX8_piece_24 : decode cX8_piece 24 = .ok (.if_icmp .ne 6, 3) := by decide +kernel
theorem dX8_piece_27 : decode cX8_piece 27 = .ok (.bipush (-3), 2) := by decide +kernel
theorem dX8_piece_29 : decode cX8_piece 29 = .ok (.ireturn, 1) := by decide +kernel
theorem dX8_piece_30 : decode cX8_piece 30 = .ok (.aload_n 0, 1) := by decide +kernel
theorem dX8_piece_31 : decode cX8_piece 31 = .ok (.getfield 65, 3) := by decide +kernel
theorem dX8_piece_34 : decode cX8_piece 34 = .ok (.iload_n 1, 1) := by decide +kernel
theorem dX8_piece_35 : decode cX8_piece 35 = .ok (.invokevirtual 227, 3) := by decide +kernel
theorem dX8_piece_38 : decode cX8_piece 38 = .ok (.ireturn, 1) := by decide +kernel
theorem bX8_piece_0 (x1 : Int32) (mem : zm_Mem) (post : zm_Post) (kk : zm_Call gX1_hasCell [.ref 1, .int x1] mem (fun r1 w1 u1 => ((¬ r1 = 0 → (vp_in x1 36 ∧ ((¬ (u1 3 (Int32.toNatClampNeg x1)) = 9 → zm_Call gX6_sizeAt [.ref 16, .int x1] u1 (fun r4 w4 u4 => post r4 0 u4)) ∧ ((u1 3 (Int32.toNatClampNeg x1)) = 9 → post (-3) 0 u1)))) ∧ (r1 = 0 → post (-1) 0 u1)))) : zm_Call gX8_piece [.ref 0, .int x1] mem post := by
  refine z_entry (by decide) (Nat.le_of_ble_eq_true rfl) ?_
  show zm_Z gX8_piece post 0 [(0, .ref 0), (1, .int x1)] [] mem
  refine z_aload_n dX8_piece_0 rfl 0 rfl ?_
  refine z_getr (ci := 8) (j := 0) (r := 1) (T := TX8) rfl rfl hX8 rfl (by decide) fkX8_10 dX8_piece_1 ?_
  refine z_iload_n dX8_piece_4 rfl 1 rfl ?_
  refine z_callVi (g' := gX1_hasCell) [.int x1] (q := 1) (ci := 1) (T := TX1) rfl rfl ⟨lkX8_90, pdX1_hasCell, by decide, by decide⟩ ⟨_, rfl, by decide⟩ rfl (Nat.le_of_ble_eq_true rfl) dX8_piece_5 (zm_Call.mono kk (fun r1 w1 u1 k1 => ?_))
  refine z_if_ne (tgt := 13) dX8_piece_8 (by decide) (fun h2 => ?_) (fun h2 => ?_)
  ·
    refine z_aload_n dX8_piece_13 rfl 0 rfl ?_
    refine z_getr (ci := 8) (j := 1) (r := 2) (T := TX8) rfl rfl hX8 rfl (by decide) fkX8_21 dX8_piece_14 ?_
    refine z_getrN (ci := 5) (j := 1) (r := 3) (T := TX5) rfl rfl hX5 rfl (by decide) fkX8_97 dX8_piece_17 ?_
    refine z_iload_n dX8_piece_20 rfl 1 rfl ?_
    refine z_iald (n := 36) rfl (k1.1 h2).1 dX8_piece_21 ?_
    refine z_bipush (v := 9) dX8_piece_22 zcbipush_9 ?_
    refine z_icmp_ne (tgt := 30) dX8_piece_24 (by decide) (fun h3 => ?_) (fun h3 => ?_)
    ·
      refine z_aload_n dX8_piece_30 rfl 0 rfl ?_
      refine z_getr (ci := 8) (j := 7) (r := 16) (T := TX8) rfl rfl hX8 rfl (by decide) fkX8_65 dX8_piece_31 ?_
      refine z_iload_n dX8_piece_34 rfl 1 rfl ?_
      refine z_callVi (g' := gX6_sizeAt) [.int x1] (q := 16) (ci := 6) (T := TX6) rfl rfl ⟨lkX8_227, pdX6_sizeAt, by decide, by decide⟩ ⟨_, rfl, by decide⟩ rfl (Nat.le_of_ble_eq_true rfl) dX8_piece_35 (zm_Call.mono ((k1.1 h2).2.1 h3) (fun r4 w4 u4 k4 => ?_))
      exact z_iret rfl dX8_piece_38 k4
    ·
      refine z_bipush (v := (-3)) dX8_piece_27 zcbipush_m3 ?_
      exact z_iret rfl dX8_piece_29 ((k1.1 h2).2.2 h3)
  ·
    refine z_iconst (v := (-1)) dX8_piece_11 zciconst_m1 ?_
    exact z_iret rfl dX8_piece_12 (k1.2 h2)
theorem dX8_count_0 : decode cX8_count 0 = .ok (.iload_n 1, 1) := by decide +kernel
theorem dX8_count_1 : decode cX8_count 1 = .ok (.tableswitch 75 0 4 #[35, 43, 51, 59, 67], 35) := by decide +kernel
theorem dX8_count_36 : decode cX8_count 36 = .ok (.aload_n 0, 1) := by decide +kernel
theorem dX8_count_37 : decode cX8_count 37 = .ok (.getfield 10, 3) := by decide +kernel
theorem dX8_count_40 : decode cX8_count 40 = .ok (.getfield 79, 3) := by decide +kernel
theorem dX8_count_43 : decode cX8_count 43 = .ok (.ireturn, 1) := by decide +kernel
theorem dX8_count_44 : decode cX8_count 44 = .ok (.aload_n 0, 1) := by decide +kernel
theorem dX8_count_45 : decode cX8_count 45 = .ok (.getfield 21, 3) := by decide +kernel
theorem dX8_count_48 : decode cX8_count 48 = .ok (.getfield 83, 3) := by decide +kernel
theorem dX8_count_51 : decode cX8_count 51 = .ok (.ireturn, 1) := by decide +kernel
theorem dX8_count_52 : decode cX8_count 52 = .ok (.aload_n 0, 1) := by decide +kernel
theorem dX8_count_53 : decode cX8_count 53 = .ok (.getfield 21, 3) := by decide +kernel
theorem dX8_count_56 : decode cX8_count 56 = .ok (.invokevirtual 230, 3) := by decide +kernel
theorem dX8_count_59 : decode cX8_count 59 = .ok (.ireturn, 1) := by decide +kernel
theorem dX8_count_60 : decode cX8_count 60 = .ok (.aload_n 0, 1) := by decide +kernel
theorem dX8_count_61 : decode cX8_count 61 = .ok (.getfield 44, 3) := by decide +kernel
theorem dX8_count_64 : decode cX8_count 64 = .ok (.getfield 184, 3) := by decide +kernel
theorem dX8_count_67 : decode cX8_count 67 = .ok (.ireturn, 1) := by decide +kernel
theorem dX8_count_68 : decode cX8_count 68 = .ok (.aload_n 0, 1) := by decide +kernel
theorem dX8_count_69 : decode cX8_count 69 = .ok (.getfield 21, 3) := by decide +kernel
theorem dX8_count_72 : decode cX8_count 72 = .ok (.invokevirtual 233, 3) := by decide +kernel
theorem dX8_count_75 : decode cX8_count 75 = .ok (.ireturn, 1) := by decide +kernel
theorem dX8_count_76 : decode cX8_count 76 = .ok (.bipush (-2), 2) := by decide +kernel
theorem dX8_count_78 : decode cX8_count 78 = .ok (.ireturn, 1) := by decide +kernel
theorem bX8_count_0 (x1 : Int32) (mem : zm_Mem) (post : zm_Post) (kk : (((x1 : Int32).toInt < 0 ∨ 4 < (x1 : Int32).toInt → post (-2) 0 mem) ∧ ((x1 : Int32).toInt = 0 → post (mem 1 2) 0 mem) ∧ ((x1 : Int32).toInt = 1 → post (mem 2 3) 0 mem) ∧ ((x1 : Int32).toInt = 2 → zm_Call gX5_hiddenCount [.ref 2] mem (fun r5 w5 u5 => post r5 0 u5)) ∧ ((x1 : Int32).toInt = 3 → post (mem 8 6) 0 mem) ∧ ((x1 : Int32).toInt = 4 → zm_Call gX5_usedHues [.ref 2] mem (fun r8 w8 u8 => post r8 0 u8)))) : zm_Call gX8_count [.ref 0, .int x1] mem post := by
  refine z_entry (by decide) (Nat.le_of_ble_eq_true rfl) ?_
  show zm_Z gX8_count post 0 [(0, .ref 0), (1, .int x1)] [] mem
  refine z_iload_n dX8_count_0 rfl 1 rfl ?_
  by_cases h1 : (x1 : Int32).toInt < 0 ∨ 4 < (x1 : Int32).toInt
  ·
    refine z_tableOut (tgt := 76) dX8_count_1 h1 (by decide) ?_
    refine z_bipush (v := (-2)) dX8_count_76 zcbipush_m2 ?_
    exact z_iret rfl dX8_count_78 (kk.1 h1)
  by_cases h2 : (x1 : Int32).toInt = 0
  ·
    refine z_tableIn (off := 35) (tgt := 36) dX8_count_1 (by omega) (by omega) (by rw [h2]; rfl) (by decide) ?_
    refine z_aload_n dX8_count_36 rfl 0 rfl ?_
    refine z_getr (ci := 8) (j := 0) (r := 1) (T := TX8) rfl rfl hX8 rfl (by decide) fkX8_10 dX8_count_37 ?_
    refine z_getiN (ci := 1) (j := 2) (T := TX1) rfl rfl hX1 rfl (by decide) fkX8_79 dX8_count_40 ?_
    exact z_iret rfl dX8_count_43 (kk.2.1 h2)
  by_cases h3 : (x1 : Int32).toInt = 1
  ·
    refine z_tableIn (off := 43) (tgt := 44) dX8_count_1 (by omega) (by omega) (by rw [h3]; rfl) (by decide) ?_
    refine z_aload_n dX8_count_44 rfl 0 rfl ?_
    refine z_getr (ci := 8) (j := 1) (r := 2) (T := TX8) rfl rfl hX8 rfl (by decide) fkX8_21 dX8_count_45 ?_
    refine z_getiN (ci := 5) (j := 3) (T := TX5) rfl rfl hX5 rfl (by decide) fkX8_83 dX8_count_48 ?_
    exact z_iret rfl dX8_count_51 (kk.2.2.1 h3)
  by_cases h4 : (x1 : Int32).toInt = 2
  ·
    refine z_tableIn (off := 51) (tgt := 52) dX8_count_1 (by omega) (by omega) (by rw [h4]; rfl) (by decide) ?_
    refine z_aload_n dX8_count_52 rfl 0 rfl ?_
    refine z_getr (ci := 8) (j := 1) (r := 2) (T := TX8) rfl rfl hX8 rfl (by decide) fkX8_21 dX8_count_53 ?_
    refine z_callVi (g' := gX5_hiddenCount) [] (q := 2) (ci := 5) (T := TX5) rfl rfl ⟨lkX8_230, pdX5_hiddenCount, by decide, by decide⟩ ⟨_, rfl, by decide⟩ rfl (Nat.le_of_ble_eq_true rfl) dX8_count_56 (zm_Call.mono (kk.2.2.2.1 h4) (fun r5 w5 u5 k5 => ?_))
    exact z_iret rfl dX8_count_59 k5
  by_cases h6 : (x1 : Int32).toInt = 3
  ·
    refine z_tableIn (off := 59) (tgt := 60) dX8_count_1 (by omega) (by omega) (by rw [h6]; rfl) (by decide) ?_
    refine z_aload_n dX8_count_60 rfl 0 rfl ?_
    refine z_getr (ci := 8) (j := 4) (r := 8) (T := TX8) rfl rfl hX8 rfl (by decide) fkX8_44 dX8_count_61 ?_
    refine z_getiN (ci := 7) (j := 6) (T := TX7) rfl rfl hX7 rfl (by decide) fkX8_184 dX8_count_64 ?_
    exact z_iret rfl dX8_count_67 (kk.2.2.2.2.1 h6)
  have h7 : (x1 : Int32).toInt = 4 := by omega
  refine z_tableIn (off := 67) (tgt := 68) dX8_count_1 (by omega) (by omega) (by rw [h7]; rfl) (by decide) ?_
  refine z_aload_n dX8_count_68 rfl 0 rfl ?_
  refine z_getr (ci := 8) (j := 1) (r := 2) (T := TX8) rfl rfl hX8 rfl (by decide) fkX8_21 dX8_count_69 ?_
  refine z_callVi (g' := gX5_usedHues) [] (q := 2) (ci := 5) (T := TX5) rfl rfl ⟨lkX8_233, pdX5_usedHues, by decide, by decide⟩ ⟨_, rfl, by decide⟩ rfl (Nat.le_of_ble_eq_true rfl) dX8_count_72 (zm_Call.mono (kk.2.2.2.2.2 h7) (fun r8 w8 u8 k8 => ?_))
  exact z_iret rfl dX8_count_75 k8
