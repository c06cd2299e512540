theorem dX5_isKeptBy_0 : decode cX5_isKeptBy 0 = .ok (.iconst 0, 1) := by decide +kernel
theorem dX5_isKeptBy_1 : decode cX5_isKeptBy 1 = .ok (.istore_n 2, 1) := by decide +kernel
theorem dX5_isKeptBy_2 : decode cX5_isKeptBy 2 = .ok (.iload_n 2, 1) := by decide +kernel
theorem dX5_isKeptBy_3 : decode cX5_isKeptBy 3 = .ok (.aload_n 0, 1) := by decide +kernel
theorem dX5_isKeptBy_4 : decode cX5_isKeptBy 4 = .ok (.getfield 22, 3) := by decide +kernel
theorem dX5_isKeptBy_7 : decode cX5_isKeptBy 7 = .ok (.getfield 30, 3) := by decide +kernel
theorem dX5_isKeptBy_10 : decode cX5_isKeptBy 10 = .ok (.if_icmp .ge 34, 3) := by decide +kernel
theorem dX5_isKeptBy_13 : decode cX5_isKeptBy 13 = .ok (.aload_n 0, 1) := by decide +kernel
theorem dX5_isKeptBy_14 : decode cX5_isKeptBy 14 = .ok (.getfield 9, 3) := by decide +kernel
theorem dX5_isKeptBy_17 : decode cX5_isKeptBy 17 = .ok (.aload_n 0, 1) := by decide +kernel
theorem dX5_isKeptBy_18 : decode cX5_isKeptBy 18 = .ok (.getfield 22, 3) := by decide +kernel
theorem dX5_isKeptBy_21 : decode cX5_isKeptBy 21 = .ok (.iload_n 1, 1) := by decide +kernel
theorem dX5_isKeptBy_22 : decode cX5_isKeptBy 22 = .ok (.iload_n 2, 1) := by decide +kernel
theorem dX5_isKeptBy_23 : decode cX5_isKeptBy 23 = .ok (.invokevirtual 44, 3) := by decide +kernel
theorem dX5_isKeptBy_26 : decode cX5_isKeptBy 26 = .ok (.iaload, 1) := by decide +kernel
theorem dX5_isKeptBy_27 : decode cX5_isKeptBy 27 = .ok (.aload_n 0, 1) := by decide +kernel
theorem dX5_isKeptBy_28 : decode cX5_isKeptBy 28 = .ok (.getfield 9, 3) := by decide +kernel
theorem dX5_isKeptBy_31 : decode cX5_isKeptBy 31 = .ok (.iload_n 2, 1) := by decide +kernel
theorem dX5_isKeptBy_32 : decode cX5_isKeptBy 32 = .ok (.iaload, 1) := by decide +kernel
theorem dX5_isKeptBy_33 : decode cX5_isKeptBy 33 = .ok (.if_icmp .eq 5, 3) := by decide +kernel
theorem dX5_isKeptBy_36 : decode cX5_isKeptBy 36 = .ok (.iconst 0, 1) := by decide +kernel
theorem dX5_isKeptBy_37 : decode cX5_isKeptBy 37 = .ok (.ireturn, 1) := by decide +kernel
theorem dX5_isKeptBy_38 : decode cX5_isKeptBy 38 = .ok (.iinc 2 1, 3) := by decide +kernel
theorem dX5_isKeptBy_41 : decode cX5_isKeptBy 41 = .ok (.goto (-39), 3) := by decide +kernel
theorem dX5_isKeptBy_44 : decode cX5_isKeptBy 44 = .ok (.iconst 1, 1) := by decide +kernel
theorem dX5_isKeptBy_45 : decode cX5_isKeptBy 45 = .ok (.ireturn, 1) := by decide +kernel
theorem bX5_isKeptBy_0 (x1 : Int32) (mem : zm_Mem) (post : zm_Post) (kk : zm_Z gX5_isKeptBy post 2 [(0, .ref 2), (1, .int x1), (2, .int 0)] [] mem) : zm_Call gX5_isKeptBy [.ref 2, .int x1] mem post := by
  refine z_entry (by decide) (Nat.le_of_ble_eq_true rfl) ?_
  show zm_Z gX5_isKeptBy post 0 [(0, .ref 2), (1, .int x1)] [] mem
  refine z_iconst (v := 0) dX5_isKeptBy_0 zciconst_0 ?_
  refine z_istore_n (lv' := [(2, .int 0), (0, .ref 2), (1, .int x1)]) dX5_isKeptBy_1 rfl (by decide) rfl ?_
  refine z_sub [1, 2, 0] rfl ?_
  exact kk
theorem bX5_isKeptBy_2 (x1 : Int32) (x2 : Int32) (mem : zm_Mem) (post : zm_Post) (kk : (((mem 1 2) ≤ x2 → post 1 0 mem) ∧ (¬ (mem 1 2) ≤ x2 → zm_Call gX1_target [.ref 1, .int x1, .int x2] mem (fun r2 w2 u2 => (vp_in r2 36 ∧ (vp_in x2 36 ∧ (((u2 3 (Int32.toNatClampNeg r2)) = (u2 3 (Int32.toNatClampNeg x2)) → zm_Z gX5_isKeptBy post 2 [(0, .ref 2), (1, .int x1), (2, .int (x2 + 1))] [] u2) ∧ (¬ (u2 3 (Int32.toNatClampNeg r2)) = (u2 3 (Int32.toNatClampNeg x2)) → post 0 0 u2)))))))) : zm_Z gX5_isKeptBy post 2 [(0, .ref 2), (1, .int x1), (2, .int x2)] [] mem := by
  refine z_iload_n dX5_isKeptBy_2 rfl 2 rfl ?_
  refine z_aload_n dX5_isKeptBy_3 rfl 0 rfl ?_
  refine z_getr (ci := 5) (j := 0) (r := 1) (T := TX5) rfl rfl hX5 rfl (by decide) fkX5_22 dX5_isKeptBy_4 ?_
  refine z_getiN (ci := 1) (j := 2) (T := TX1) rfl rfl hX1 rfl (by decide) fkX5_30 dX5_isKeptBy_7 ?_
  refine z_icmp_ge (tgt := 44) dX5_isKeptBy_10 (by decide) (fun h1 => ?_) (fun h1 => ?_)
  ·
    refine z_iconst (v := 1) dX5_isKeptBy_44 zciconst_1 ?_
    exact z_zret rfl (by decide) dX5_isKeptBy_45 (kk.1 h1)
  ·
    refine z_aload_n dX5_isKeptBy_13 rfl 0 rfl ?_
    refine z_getr (ci := 5) (j := 1) (r := 3) (T := TX5) rfl rfl hX5 rfl (by decide) fkX5_9 dX5_isKeptBy_14 ?_
    refine z_aload_n dX5_isKeptBy_17 rfl 0 rfl ?_
    refine z_getr (ci := 5) (j := 0) (r := 1) (T := TX5) rfl rfl hX5 rfl (by decide) fkX5_22 dX5_isKeptBy_18 ?_
    refine z_iload_n dX5_isKeptBy_21 rfl 1 rfl ?_
    refine z_iload_n dX5_isKeptBy_22 rfl 2 rfl ?_
    refine z_callVi (g' := gX1_target) [.int x1, .int x2] (q := 1) (ci := 1) (T := TX1) rfl rfl ⟨lkX5_44, pdX1_target, by decide, by decide⟩ ⟨_, rfl, by decide⟩ rfl (Nat.le_of_ble_eq_true rfl) dX5_isKeptBy_23 (zm_Call.mono (kk.2 h1) (fun r2 w2 u2 k2 => ?_))
    refine z_iald (n := 36) rfl k2.1 dX5_isKeptBy_26 ?_
    refine z_aload_n dX5_isKeptBy_27 rfl 0 rfl ?_
    refine z_getr (ci := 5) (j := 1) (r := 3) (T := TX5) rfl rfl hX5 rfl (by decide) fkX5_9 dX5_isKeptBy_28 ?_
    refine z_iload_n dX5_isKeptBy_31 rfl 2 rfl ?_
    refine z_iald (n := 36) rfl k2.2.1 dX5_isKeptBy_32 ?_
    refine z_icmp_eq (tgt := 38) dX5_isKeptBy_33 (by decide) (fun h3 => ?_) (fun h3 => ?_)
    ·
      refine z_iinc (v := x2 + 1) (lv' := [(2, .int (x2 + 1)), (0, .ref 2), (1, .int x1)]) dX5_isKeptBy_38 2 rfl (by rw [zciconst_1]) (by decide) rfl ?_
      refine z_goto (tgt := 2) dX5_isKeptBy_41 (by decide) ?_
      refine z_sub [1, 2, 0] rfl ?_
      exact (k2.2.2.1 h3)
    ·
      refine z_iconst (v := 0) dX5_isKeptBy_36 zciconst_0 ?_
      exact z_zret rfl (by decide) dX5_isKeptBy_37 (k2.2.2.2 h3)
theorem dX5_keepersOf_0 : decode cX5_keepersOf 0 = .ok (.aload_n 0, 1) := by decide +kernel
theorem dX5_keepersOf_1 : decode cX5_keepersOf 1 = .ok (.getfield 22, 3) := by decide +kernel
theorem dX5_keepersOf_4 : decode cX5_keepersOf 4 = .ok (.iload_n 1, 1) := by decide +kernel
theorem dX5_keepersOf_5 : decode cX5_keepersOf 5 = .ok (.invokevirtual 48, 3) := by decide +kernel
theorem dX5_keepersOf_8 : decode cX5_keepersOf 8 = .ok (.ifCond .ne 5, 3) := by decide +kernel
theorem dX5_keepersOf_11 : decode cX5_keepersOf 11 = .ok (.iconst 0, 1) := by decide +kernel
theorem dX5_keepersOf_12 : decode cX5_keepersOf 12 = .ok (.ireturn, 1) := by decide +kernel
theorem dX5_keepersOf_13 : decode cX5_keepersOf 13 = .ok (.iconst 0, 1) := by decide +kernel
theorem dX5_keepersOf_14 : decode cX5_keepersOf 14 = .ok (.istore_n 2, 1) := by decide +kernel
theorem dX5_keepersOf_15 : decode cX5_keepersOf 15 = .ok (.iload_n 1, 1) := by decide +kernel
theorem dX5_keepersOf_16 : decode cX5_keepersOf 16 = .ok (.aload_n 0, 1) := by decide +kernel
theorem dX5_keepersOf_17 : decode cX5_keepersOf 17 = .ok (.getfield 22, 3) := by decide +kernel
theorem dX5_keepersOf_20 : decode cX5_keepersOf 20 = .ok (.getfield 30, 3) := by decide +kernel
theorem dX5_keepersOf_23 : decode cX5_keepersOf 23 = .ok (.imul, 1) := by decide +kernel
theorem dX5_keepersOf_24 : decode cX5_keepersOf 24 = .ok (.istore_n 3, 1) := by decide +kernel
theorem dX5_keepersOf_25 : decode cX5_keepersOf 25 = .ok (.iconst 0, 1) := by decide +kernel
theorem dX5_keepersOf_26 : decode cX5_keepersOf 26 = .ok (.istore 4, 2) := by decide +kernel
theorem dX5_keepersOf_28 : decode cX5_keepersOf 28 = .ok (.iload 4, 2) := by decide +kernel
theorem dX5_keepersOf_30 : decode cX5_keepersOf 30 = .ok (.aload_n 0, 1) := by decide +kernel
theorem dX5_keepersOf_31 : decode cX5_keepersOf 31 = .ok (.getfield 22, 3) := by decide +kernel
theorem dX5_keepersOf_34 : decode cX5_keepersOf 34 = .ok (.getfield 30, 3) := by decide +kernel
theorem dX5_keepersOf_37 : decode cX5_keepersOf 37 = .ok (.if_icmp .ge 23, 3) := by decide +kernel
theorem dX5_keepersOf_40 : decode cX5_keepersOf 40 = .ok (.aload_n 0, 1) := by decide +kernel
theorem dX5_keepersOf_41 : decode cX5_keepersOf 41 = .ok (.iload_n 3, 1) := by decide +kernel
theorem dX5_keepersOf_42 : decode cX5_keepersOf 42 = .ok (.iload 4, 2) := by decide +kernel
theorem dX5_keepersOf_44 : decode cX5_keepersOf 44 = .ok (.iadd, 1) := by decide +kernel
theorem dX5_keepersOf_45 : decode cX5_keepersOf 45 = .ok (.invokevirtual 51, 3) := by decide +kernel
theorem dX5_keepersOf_48 : decode cX5_keepersOf 48 = .ok (.ifCond .eq 6, 3) := by decide +kernel
theorem dX5_keepersOf_51 : decode cX5_keepersOf 51 = .ok (.iinc 2 1, 3) := by decide +kernel
theorem dX5_keepersOf_54 : decode cX5_keepersOf 54 = .ok (.iinc 4 1, 3) := by decide +kernel
theorem dX5_keepersOf_57 : decode cX5_keepersOf 57 = .ok (.goto (-29), 3) := by decide +kernel
theorem dX5_keepersOf_60 : decode cX5_keepersOf 60 = .ok (.iload_n 2, 1) := by decide +kernel
theorem dX5_keepersOf_61 : decode cX5_keepersOf 61 = .ok (.ireturn, 1) := by decide +kernel
theorem bX5_keepersOf_0 (x1 : Int32) (mem : zm_Mem) (post : zm_Post) (kk : zm_Call gX1_hasTurn [.ref 1, .int x1] mem (fun r1 w1 u1 => ((¬ r1 = 0 → zm_Z gX5_keepersOf post 28 [(0, .ref 2), (2, .int 0), (3, .int (x1 * (u1 1 2))), (4, .int 0)] [] u1) ∧ (r1 = 0 → post 0 0 u1)))) : zm_Call gX5_keepersOf [.ref 2, .int x1] mem post := by
  refine z_entry (by decide) (Nat.le_of_ble_eq_true rfl) ?_
  show zm_Z gX5_keepersOf post 0 [(0, .ref 2), (1, .int x1)] [] mem
  refine z_aload_n dX5_keepersOf_0 rfl 0 rfl ?_
  refine z_getr (ci := 5) (j := 0) (r := 1) (T := TX5) rfl rfl hX5 rfl (by decide) fkX5_22 dX5_keepersOf_1 ?_
  refine z_iload_n dX5_keepersOf_4 rfl 1 rfl ?_
  refine z_callVi (g' := gX1_hasTurn) [.int x1] (q := 1) (ci := 1) (T := TX1) rfl rfl ⟨lkX5_48, pdX1_hasTurn, by decide, by decide⟩ ⟨_, rfl, by decide⟩ rfl (Nat.le_of_ble_eq_true rfl) dX5_keepersOf_5 (zm_Call.mono kk (fun r1 w1 u1 k1 => ?_))
  refine z_if_ne (tgt := 13) dX5_keepersOf_8 (by decide) (fun h2 => ?_) (fun h2 => ?_)
  ·
    refine z_iconst (v := 0) dX5_keepersOf_13 zciconst_0 ?_
    refine z_istore_n (lv' := [(2, .int 0), (0, .ref 2), (1, .int x1)]) dX5_keepersOf_14 rfl (by decide) rfl ?_
    refine z_iload_n dX5_keepersOf_15 rfl 2 rfl ?_
    refine z_aload_n dX5_keepersOf_16 rfl 1 rfl ?_
    refine z_getr (ci := 5) (j := 0) (r := 1) (T := TX5) rfl rfl hX5 rfl (by decide) fkX5_22 dX5_keepersOf_17 ?_
    refine z_getiN (ci := 1) (j := 2) (T := TX1) rfl rfl hX1 rfl (by decide) fkX5_30 dX5_keepersOf_20 ?_
    refine z_imul dX5_keepersOf_23 ?_
    refine z_istore_n (lv' := [(3, .int (x1 * (u1 1 2))), (2, .int 0), (0, .ref 2), (1, .int x1)]) dX5_keepersOf_24 rfl (by decide) rfl ?_
    refine z_iconst (v := 0) dX5_keepersOf_25 zciconst_0 ?_
    refine z_istore (lv' := [(4, .int 0), (3, .int (x1 * (u1 1 2))), (2, .int 0), (0, .ref 2), (1, .int x1)]) dX5_keepersOf_26 (by decide) rfl ?_
    refine z_sub [3, 2, 1, 0] rfl ?_
    exact (k1.1 h2)
  ·
    refine z_iconst (v := 0) dX5_keepersOf_11 zciconst_0 ?_
    exact z_iret rfl dX5_keepersOf_12 (k1.2 h2)
theorem bX5_keepersOf_28 (x2 : Int32) (x3 : Int32) (x4 : Int32) (mem : zm_Mem) (post : zm_Post) (kk : (((mem 1 2) ≤ x4 → post x2 0 mem) ∧ (¬ (mem 1 2) ≤ x4 → zm_Call gX5_isKeptBy [.ref 2, .int (x3 + x4)] mem (fun r2 w2 u2 => ((r2 = 0 → zm_Z gX5_keepersOf post 28 [(0, .ref 2), (2, .int x2), (3, .int x3), (4, .int (x4 + 1))] [] u2) ∧ (¬ r2 = 0 → zm_Z gX5_keepersOf post 28 [(0, .ref 2), (2, .int (x2 + 1)), (3, .int x3), (4, .int (x4 + 1))] [] u2)))))) : zm_Z gX5_keepersOf post 28 [(0, .ref 2), (2, .int x2), (3, .int x3), (4, .int x4)] [] mem := by
  refine z_iload dX5_keepersOf_28 3 rfl ?_
  refine z_aload_n dX5_keepersOf_30 rfl 0 rfl ?_
  refine z_getr (ci := 5) (j := 0) (r := 1) (T := TX5) rfl rfl hX5 rfl (by decide) fkX5_22 dX5_keepersOf_31 ?_
  refine z_getiN (ci := 1) (j := 2) (T := TX1) rfl rfl hX1 rfl (by decide) fkX5_30 dX5_keepersOf_34 ?_
  refine z_icmp_ge (tgt := 60) dX5_keepersOf_37 (by decide) (fun h1 => ?_) (fun h1 => ?_)
  ·
    refine z_iload_n dX5_keepersOf_60 rfl 1 rfl ?_
    exact z_iret rfl dX5_keepersOf_61 (kk.1 h1)
  ·
    refine z_aload_n dX5_keepersOf_40 rfl 0 rfl ?_
    refine z_iload_n dX5_keepersOf_41 rfl 2 rfl ?_
    refine z_iload dX5_keepersOf_42 3 rfl ?_
    refine z_iadd dX5_keepersOf_44 ?_
    refine z_callVi (g' := gX5_isKeptBy) [.int (x3 + x4)] (q := 2) (ci := 5) (T := TX5) rfl rfl ⟨lkX5_51, pdX5_isKeptBy, by decide, by decide⟩ ⟨_, rfl, by decide⟩ rfl (Nat.le_of_ble_eq_true rfl) dX5_keepersOf_45 (zm_Call.mono (kk.2 h1) (fun r2 w2 u2 k2 => ?_))
    refine z_if_eq (tgt := 54) dX5_keepersOf_48 (by decide) (fun h3 => ?_) (fun h3 => ?_)
    ·
      refine z_iinc (v := x4 + 1) (lv' := [(4, .int (x4 + 1)), (0, .ref 2), (2, .int x2), (3, .int x3)]) dX5_keepersOf_54 3 rfl (by rw [zciconst_1]) (by decide) rfl ?_
      refine z_goto (tgt := 28) dX5_keepersOf_57 (by decide) ?_
      refine z_sub [1, 2, 3, 0] rfl ?_
      exact (k2.1 h3)
    ·
      refine z_iinc (v := x2 + 1) (lv' := [(2, .int (x2 + 1)), (0, .ref 2), (3, .int x3), (4, .int x4)]) dX5_keepersOf_51 1 rfl (by rw [zciconst_1]) (by decide) rfl ?_
      refine z_iinc (v := x4 + 1) (lv' := [(4, .int (x4 + 1)), (2, .int (x2 + 1)), (0, .ref 2), (3, .int x3)]) dX5_keepersOf_54 3 rfl (by rw [zciconst_1]) (by decide) rfl ?_
      refine z_goto (tgt := 28) dX5_keepersOf_57 (by decide) ?_
      refine z_sub [2, 1, 3, 0] rfl ?_
      exact (k2.2 h3)
theorem dX5_keepersOfAll_0 : decode cX5_keepersOfAll 0 = .ok (.iconst 0, 1) := by decide +kernel
theorem dX5_keepersOfAll_1 : decode cX5_keepersOfAll 1 = .ok (.istore_n 1, 1) := by decide +kernel
theorem dX5_keepersOfAll_2 : decode cX5_keepersOfAll 2 = .ok (.iconst 0, 1) := by decide +kernel
theorem dX5_keepersOfAll_3 : decode cX5_keepersOfAll 3 = .ok (.istore_n 2, 1) := by decide +kernel
theorem dX5_keepersOfAll_4 : decode cX5_keepersOfAll 4 = .ok (.iload_n 2, 1) := by decide +kernel
theorem dX5_keepersOfAll_5 : decode cX5_keepersOfAll 5 = .ok (.bipush 8, 2) := by decide +kernel
theorem dX5_keepersOfAll_7 : decode cX5_keepersOfAll 7 = .ok (.if_icmp .ge 17, 3) := by decide +kernel
theorem dX5_keepersOfAll_10 : decode cX5_keepersOfAll 10 = .ok (.iload_n 1, 1) := by decide +kernel
theorem dX5_keepersOfAll_11 : decode cX5_keepersOfAll 11 = .ok (.aload_n 0, 1) := by decide +kernel
theorem dX5_keepersOfAll_12 : decode cX5_keepersOfAll 12 = .ok (.iload_n 2, 1) := by decide +kernel
theorem dX5_keepersOfAll_13 : decode cX5_keepersOfAll 13 = .ok (.invokevirtual 54, 3) := by decide +kernel
theorem dX5_keepersOfAll_16 : decode cX5_keepersOfAll 16 = .ok (.iadd, 1) := by decide +kernel
theorem dX5_keepersOfAll_17 : decode cX5_keepersOfAll 17 = .ok (.istore_n 1, 1) := by decide +kernel
theorem dX5_keepersOfAll_18 : decode cX5_keepersOfAll 18 = .ok (.iinc 2 1, 3) := by decide +kernel
theorem dX5_keepersOfAll_21 : decode cX5_keepersOfAll 21 = .ok (.goto (-17), 3) := by decide +kernel
theorem dX5_keepersOfAll_24 : decode cX5_keepersOfAll 24 = .ok (.iload_n 1, 1) := by decide +kernel
theorem dX5_keepersOfAll_25 : decode cX5_keepersOfAll 25 = .ok (.ireturn, 1) := by decide +kernel
theorem bX5_keepersOfAll_0 (mem : zm_Mem) (post : zm_Post) (kk : zm_Z gX5_keepersOfAll post 4 [(0, .ref 2), (1, .int 0), (2, .int 0)] [] mem) : zm_Call gX5_keepersOfAll [.ref 2] mem post := by
  refine z_entry (by decide) (Nat.le_of_ble_eq_true rfl) ?_
  show zm_Z gX5_keepersOfAll post 0 [(0, .ref 2)] [] mem
  refine z_iconst (v := 0) dX5_keepersOfAll_0 zciconst_0 ?_
  refine z_istore_n (lv' := [(1, .int 0), (0, .ref 2)]) dX5_keepersOfAll_1 rfl (by decide) rfl ?_
  refine z_iconst (v := 0) dX5_keepersOfAll_2 zciconst_0 ?_
  refine z_istore_n (lv' := [(2, .int 0), (1, .int 0), (0, .ref 2)]) dX5_keepersOfAll_3 rfl (by decide) rfl ?_
  refine z_sub [2, 1, 0] rfl ?_
  exact kk
theorem bX5_keepersOfAll_4 (x1 : Int32) (x2 : Int32) (mem : zm_Mem) (post : zm_Post) (kk : ((8 ≤ x2 → post x1 0 mem) ∧ (¬ 8 ≤ x2 → zm_Call gX5_keepersOf [.ref 2, .int x2] mem (fun r2 w2 u2 => zm_Z gX5_keepersOfAll post 4 [(0, .ref 2), (1, .int (x1 + r2)), (2, .int (x2 + 1))] [] u2)))) : zm_Z gX5_keepersOfAll post 4 [(0, .ref 2), (1, .int x1), (2, .int x2)] [] mem := by
  refine z_iload_n dX5_keepersOfAll_4 rfl 2 rfl ?_
  refine z_bipush (v := 8) dX5_keepersOfAll_5 zcbipush_8 ?_
  refine z_icmp_ge (tgt := 24) dX5_keepersOfAll_7 (by decide) (fun h1 => ?_) (fun h1 => ?_)
  ·
    refine z_iload_n dX5_keepersOfAll_24 rfl 1 rfl ?_
    exact z_iret rfl dX5_keepersOfAll_25 (kk.1 h1)
  ·
    refine z_iload_n dX5_keepersOfAll_10 rfl 1 rfl ?_
    refine z_aload_n dX5_keepersOfAll_11 rfl 0 rfl ?_
    refine z_iload_n dX5_keepersOfAll_12 rfl 2 rfl ?_
    refine z_callVi (g' := gX5_keepersOf) [.int x2] (q := 2) (ci := 5) (T := TX5) rfl rfl ⟨lkX5_54, pdX5_keepersOf, by decide, by decide⟩ ⟨_, rfl, by decide⟩ rfl (Nat.le_of_ble_eq_true rfl) dX5_keepersOfAll_13 (zm_Call.mono (kk.2 h1) (fun r2 w2 u2 k2 => ?_))
    refine z_iadd dX5_keepersOfAll_16 ?_
    refine z_istore_n (lv' := [(1, .int (x1 + r2)), (0, .ref 2), (2, .int x2)]) dX5_keepersOfAll_17 rfl (by decide) rfl ?_
    refine z_iinc (v := x2 + 1) (lv' := [(2, .int (x2 + 1)), (1, .int (x1 + r2)), (0, .ref 2)]) dX5_keepersOfAll_18 2 rfl (by rw [zciconst_1]) (by decide) rfl ?_
    refine z_goto (tgt := 4) dX5_keepersOfAll_21 (by decide) ?_
    refine z_sub [2, 1, 0] rfl ?_
    exact k2
theorem dX4_total_0 : decode cX4_total 0 = .ok (.iconst 1, 1) := by decide +kernel
theorem dX4_total_1 : decode cX4_total 1 = .ok (.istore_n 1, 1) := by decide +kernel
theorem dX4_total_2 : decode cX4_total 2 = .ok (.iconst 2, 1) := by decide +kernel
theorem dX4_total_3 : decode cX4_total 3 = .ok (.istore_n 2, 1) := by decide +kernel
theorem dX4_total_4 : decode cX4_total 4 = .ok (.iload_n 2, 1) := by decide +kernel
theorem dX4_total_5 : decode cX4_total 5 = .ok (.aload_n 0, 1) := by decide +kernel
theorem dX4_total_6 : decode cX4_total 6 = .ok (.getfield 19, 3) := by decide +kernel
theorem dX4_total_9 : decode cX4_total 9 = .ok (.getfield 23, 3) := by decide +kernel
theorem dX4_total_12 : decode cX4_total 12 = .ok (.if_icmp .gt 13, 3) := by decide +kernel
theorem dX4_total_15 : decode cX4_total 15 = .ok (.iload_n 1, 1) := by decide +kernel
theorem dX4_total_16 : decode cX4_total 16 = .ok (.iload_n 2, 1) := by decide +kernel
theorem dX4_total_17 : decode cX4_total 17 = .ok (.imul, 1) := by decide +kernel
theorem dX4_total_18 : decode cX4_total 18 = .ok (.istore_n 1, 1) := by decide +kernel
theorem dX4_total_19 : decode cX4_total 19 = .ok (.iinc 2 1, 3) := by decide +kernel
theorem dX4_total_22 : decode cX4_total 22 = .ok (.goto (-18), 3) := by decide +kernel
theorem dX4_total_25 : decode cX4_total 25 = .ok (.iload_n 1, 1) := by decide +kernel
theorem dX4_total_26 : decode cX4_total 26 = .ok (.ireturn, 1) := by decide +kernel
theorem bX4_total_0 (mem : zm_Mem) (post : zm_Post) (kk : zm_Z gX4_total post 4 [(0, .ref 6), (1, .int 1), (2, .int 2)] [] mem) : zm_Call gX4_total [.ref 6] mem post := by
  refine z_entry (by decide) (Nat.le_of_ble_eq_true rfl) ?_
  show zm_Z gX4_total post 0 [(0, .ref 6)] [] mem
  refine z_iconst (v := 1) dX4_total_0 zciconst_1 ?_
  refine z_istore_n (lv' := [(1, .int 1), (0, .ref 6)]) dX4_total_1 rfl (by decide) rfl ?_
  refine z_iconst (v := 2) dX4_total_2 zciconst_2 ?_
  refine z_istore_n (lv' := [(2, .int 2), (1, .int 1), (0, .ref 6)]) dX4_total_3 rfl (by decide) rfl ?_
  refine z_sub [2, 1, 0] rfl ?_
  exact kk
theorem bX4_total_4 (x1 : Int32) (x2 : Int32) (mem : zm_Mem) (post : zm_Post) (kk : (((mem 2 3) < x2 → post x1 0 mem) ∧ (¬ (mem 2 3) < x2 → zm_Z gX4_total post 4 [(0, .ref 6), (1, .int (x1 * x2)), (2, .int (x2 + 1))] [] mem))) : zm_Z gX4_total post 4 [(0, .ref 6), (1, .int x1), (2, .int x2)] [] mem := by
  refine z_iload_n dX4_total_4 rfl 2 rfl ?_
  refine z_aload_n dX4_total_5 rfl 0 rfl ?_
  refine z_getr (ci := 4) (j := 1) (r := 2) (T := TX4) rfl rfl hX4 rfl (by decide) fkX4_19 dX4_total_6 ?_
  refine z_getiN (ci := 5) (j := 3) (T := TX5) rfl rfl hX5 rfl (by decide) fkX4_23 dX4_total_9 ?_
  refine z_icmp_gt (tgt := 25) dX4_total_12 (by decide) (fun h1 => ?_) (fun h1 => ?_)
  ·
    refine z_iload_n dX4_total_25 rfl 1 rfl ?_
    exact z_iret rfl dX4_total_26 (kk.1 h1)
  ·
    refine z_iload_n dX4_total_15 rfl 1 rfl ?_
    refine z_iload_n dX4_total_16 rfl 2 rfl ?_
    refine z_imul dX4_total_17 ?_
    refine z_istore_n (lv' := [(1, .int (x1 * x2)), (0, .ref 6), (2, .int x2)]) dX4_total_18 rfl (by decide) rfl ?_
    refine z_iinc (v := x2 + 1) (lv' := [(2, .int (x2 + 1)), (1, .int (x1 * x2)), (0, .ref 6)]) dX4_total_19 2 rfl (by rw [zciconst_1]) (by decide) rfl ?_
    refine z_goto (tgt := 4) dX4_total_22 (by decide) ?_
    refine z_sub [2, 1, 0] rfl ?_
    exact (kk.2 h1)
theorem dX4_has_0 : decode cX4_has 0 = .ok (.iload_n 1, 1) := by decide +kernel
theorem dX4_has_1 : decode cX4_has 1 = .ok (.ifCond .lt 15, 3) := by decide +kernel
theorem dX4_has_4 : decode cX4_has 4 = .ok (.iload_n 1, 1) := by decide +kernel
theorem dX4_has_5 : decode cX4_has 5 = .ok (.aload_n 0, 1) := by decide +kernel
theorem dX4_has_6 : decode cX4_has 6 = .ok (.invokevirtual 29, 3) := by decide +kernel
theorem dX4_has_9 : decode cX4_has 9 = .ok (.if_icmp .ge 7, 3) := by decide +kernel
theorem dX4_has_12 : decode cX4_has 12 = .ok (.iconst 1, 1) := by decide +kernel
theorem dX4_has_13 : decode cX4_has 13 = .ok (.goto 4, 3) := by decide +kernel
theorem dX4_has_16 : decode cX4_has 16 = .ok (.iconst 0, 1) := by decide +kernel
theorem dX4_has_17 : decode cX4_has 17 = .ok (.ireturn, 1) := by decide +kernel
theorem bX4_has_0 (x1 : Int32) (mem : zm_Mem) (post : zm_Post) (kk : ((x1 < 0 → post 0 0 mem) ∧ (¬ x1 < 0 → zm_Call gX4_total [.ref 6] mem (fun r2 w2 u2 => ((r2 ≤ x1 → post 0 0 u2) ∧ (¬ r2 ≤ x1 → post 1 0 u2)))))) : zm_Call gX4_has [.ref 6, .int x1] mem post := by
  refine z_entry (by decide) (Nat.le_of_ble_eq_true rfl) ?_
  show zm_Z gX4_has post 0 [(0, .ref 6), (1, .int x1)] [] mem
  refine z_iload_n dX4_has_0 rfl 1 rfl ?_
  refine z_if_lt (tgt := 16) dX4_has_1 (by decide) (fun h1 => ?_) (fun h1 => ?_)
  ·
    refine z_iconst (v := 0) dX4_has_16 zciconst_0 ?_
    exact z_zret rfl (by decide) dX4_has_17 (kk.1 h1)
  ·
    refine z_iload_n dX4_has_4 rfl 1 rfl ?_
    refine z_aload_n dX4_has_5 rfl 0 rfl ?_
    refine z_callVi (g' := gX4_total) [] (q := 6) (ci := 4) (T := TX4) rfl rfl ⟨lkX4_29, pdX4_total, by decide, by decide⟩ ⟨_, rfl, by decide⟩ rfl (Nat.le_of_ble_eq_true rfl) dX4_has_6 (zm_Call.mono (kk.2 h1) (fun r2 w2 u2 k2 => ?_))
    refine z_icmp_ge (tgt := 16) dX4_has_9 (by decide) (fun h3 => ?_) (fun h3 => ?_)
    ·
      refine z_iconst (v := 0) dX4_has_16 zciconst_0 ?_
      exact z_zret rfl (by decide) dX4_has_17 (k2.1 h3)
    ·
      refine z_iconst (v := 1) dX4_has_12 zciconst_1 ?_
      refine z_goto (tgt := 17) dX4_has_13 (by decide) ?_
      exact z_zret rfl (by decide) dX4_has_17 (k2.2 h3)
theorem dX4_given_0 : decode cX4_given 0 = .ok (.iconst 4, 1) := by decide +kernel
theorem dX4_given_1 : decode cX4_given 1 = .ok (.aload_n 0, 1) := by decide +kernel
theorem dX4_given_2 : decode cX4_given 2 = .ok (.getfield 19, 3) := by decide +kernel
theorem dX4_given_5 : decode cX4_given 5 = .ok (.getfield 23, 3) := by decide +kernel
theorem dX4_given_8 : decode cX4_given 8 = .ok (.isub, 1) := by decide +kernel
theorem dX4_given_9 : decode cX4_given 9 = .ok (.istore_n 3, 1) := by decide +kernel
theorem dX4_given_10 : decode cX4_given 10 = .ok (.getstatic 33, 3) := by decide +kernel
theorem dX4_given_13 : decode cX4_given 13 = .ok (.iload_n 1, 1) := by decide +kernel
theorem dX4_given_14 : decode cX4_given 14 = .ok (.iconst 4, 1) := by decide +kernel
theorem dX4_given_15 : decode cX4_given 15 = .ok (.imul, 1) := by decide +kernel
theorem dX4_given_16 : decode cX4_given 16 = .ok (.iload_n 3, 1) := by decide +kernel
theorem dX4_given_17 : decode cX4_given 17 = .ok (.iadd, 1) := by decide +kernel
theorem dX4_given_18 : decode cX4_given 18 = .ok (.iload_n 2, 1) := by decide +kernel
theorem dX4_given_19 : decode cX4_given 19 = .ok (.iadd, 1) := by decide +kernel
theorem dX4_given_20 : decode cX4_given 20 = .ok (.iaload, 1) := by decide +kernel
theorem dX4_given_21 : decode cX4_given 21 = .ok (.iload_n 3, 1) := by decide +kernel
theorem dX4_given_22 : decode cX4_given 22 = .ok (.isub, 1) := by decide +kernel
theorem dX4_given_23 : decode cX4_given 23 = .ok (.ireturn, 1) := by decide +kernel
theorem dX4_isKeptBy_0 : decode cX4_isKeptBy 0 = .ok (.iconst 0, 1) := by decide +kernel
theorem dX4_isKeptBy_1 : decode cX4_isKeptBy 1 = .ok (.istore_n 3, 1) := by decide +kernel
theorem dX4_isKeptBy_2 : decode cX4_isKeptBy 2 = .ok (.iload_n 3, 1) := by decide +kernel
theorem dX4_isKeptBy_3 : decode cX4_isKeptBy 3 = .ok (.aload_n 0, 1) := by decide +kernel
theorem dX4_isKeptBy_4 : decode cX4_isKeptBy 4 = .ok (.getfield 15, 3) := by decide +kernel
theorem dX4_isKeptBy_7 : decode cX4_isKeptBy 7 = .ok (.getfield 36, 3) := by decide +kernel
theorem dX4_isKeptBy_10 : decode cX4_isKeptBy 10 = .ok (.if_icmp .ge 65, 3) := by decide +kernel
theorem dX4_isKeptBy_13 : decode cX4_isKeptBy 13 = .ok (.aload_n 0, 1) := by decide +kernel
theorem dX4_isKeptBy_14 : decode cX4_isKeptBy 14 = .ok (.getfield 19, 3) := by decide +kernel
theorem dX4_isKeptBy_17 : decode cX4_isKeptBy 17 = .ok (.getfield 41, 3) := by decide +kernel
theorem dX4_isKeptBy_20 : decode cX4_isKeptBy 20 = .ok (.iload_n 3, 1) := by decide +kernel
theorem dX4_isKeptBy_21 : decode cX4_isKeptBy 21 = .ok (.iaload, 1) := by decide +kernel
theorem dX4_isKeptBy_22 : decode cX4_isKeptBy 22 = .ok (.istore 4, 2) := by decide +kernel
theorem dX4_isKeptBy_24 : decode cX4_isKeptBy 24 = .ok (.iload 4, 2) := by decide +kernel
theorem dX4_isKeptBy_26 : decode cX4_isKeptBy 26 = .ok (.bipush 9, 2) := by decide +kernel
theorem dX4_isKeptBy_28 : decode cX4_isKeptBy 28 = .ok (.if_icmp .ne 8, 3) := by decide +kernel
theorem dX4_isKeptBy_31 : decode cX4_isKeptBy 31 = .ok (.bipush 9, 2) := by decide +kernel
theorem dX4_isKeptBy_33 : decode cX4_isKeptBy 33 = .ok (.goto 10, 3) := by decide +kernel
theorem dX4_isKeptBy_36 : decode cX4_isKeptBy 36 = .ok (.aload_n 0, 1) := by decide +kernel
theorem dX4_isKeptBy_37 : decode cX4_isKeptBy 37 = .ok (.iload_n 2, 1) := by decide +kernel
theorem dX4_isKeptBy_38 : decode cX4_isKeptBy 38 = .ok (.iload 4, 2) := by decide +kernel
theorem dX4_isKeptBy_40 : decode cX4_isKeptBy 40 = .ok (.invokevirtual 44, 3) := by decide +kernel
theorem dX4_isKeptBy_43 : decode cX4_isKeptBy 43 = .ok (.istore 5, 2) := by decide +kernel
theorem dX4_isKeptBy_45 : decode cX4_isKeptBy 45 = .ok (.aload_n 0, 1) := by decide +kernel
theorem dX4_isKeptBy_46 : decode cX4_isKeptBy 46 = .ok (.getfield 19, 3) := by decide +kernel
theorem dX4_isKeptBy_49 : decode cX4_isKeptBy 49 = .ok (.getfield 41, 3) := by decide +kernel
theorem dX4_isKeptBy_52 : decode cX4_isKeptBy 52 = .ok (.aload_n 0, 1) := by decide +kernel
theorem dX4_isKeptBy_53 : decode cX4_isKeptBy 53 = .ok (.getfield 15, 3) := by decide +kernel
theorem dX4_isKeptBy_56 : decode cX4_isKeptBy 56 = .ok (.iload_n 1, 1) := by decide +kernel
theorem dX4_isKeptBy_57 : decode cX4_isKeptBy 57 = .ok (.iload_n 3, 1) := by decide +kernel
theorem dX4_isKeptBy_58 : decode cX4_isKeptBy 58 = .ok (.invokevirtual 48, 3) := by decide +kernel
theorem dX4_isKeptBy_61 : decode cX4_isKeptBy 61 = .ok (.iaload, 1) := by decide +kernel
theorem dX4_isKeptBy_62 : decode cX4_isKeptBy 62 = .ok (.iload 5, 2) := by decide +kernel
theorem dX4_isKeptBy_64 : decode cX4_isKeptBy 64 = .ok (.if_icmp .eq 5, 3) := by decide +kernel
theorem dX4_isKeptBy_67 : decode cX4_isKeptBy 67 = .ok (.iconst 0, 1) := by decide +kernel
theorem dX4_isKeptBy_68 : decode cX4_isKeptBy 68 = .ok (.ireturn, 1) := by decide +kernel
theorem dX4_isKeptBy_69 : decode cX4_isKeptBy 69 = .ok (.iinc 3 1, 3) := by decide +kernel
theorem dX4_isKeptBy_72 : decode cX4_isKeptBy 72 = .ok (.goto (-70), 3) := by decide +kernel
theorem dX4_isKeptBy_75 : decode cX4_isKeptBy 75 = .ok (.iconst 1, 1) := by decide +kernel
theorem dX4_isKeptBy_76 : decode cX4_isKeptBy 76 = .ok (.ireturn, 1) := by decide +kernel
theorem bX4_isKeptBy_0 (x1 : Int32) (x2 : Int32) (mem : zm_Mem) (post : zm_Post) (kk : zm_Z gX4_isKeptBy post 2 [(0, .ref 6), (1, .int x1), (2, .int x2), (3, .int 0)] [] mem) : zm_Call gX4_isKeptBy [.ref 6, .int x1, .int x2] mem post := by
  refine z_entry (by decide) (Nat.le_of_ble_eq_true rfl) ?_
  show zm_Z gX4_isKeptBy post 0 [(0, .ref 6), (1, .int x1), (2, .int x2)] [] mem
  refine z_iconst (v := 0) dX4_isKeptBy_0 zciconst_0 ?_
  refine z_istore_n (lv' := [(3, .int 0), (0, .ref 6), (1, .int x1), (2, .int x2)]) dX4_isKeptBy_1 rfl (by decide) rfl ?_
  refine z_sub [1, 2, 3, 0] rfl ?_
  exact kk
theorem bX4_isKeptBy_2 (x1 : Int32) (x2 : Int32) (x3 : Int32) (mem : zm_Mem) (post : zm_Post) (kk : (((mem 1 2) ≤ x3 → post 1 0 mem) ∧ (¬ (mem 1 2) ≤ x3 → (vp_in x3 36 ∧ ((¬ (mem 3 (Int32.toNatClampNeg x3)) = 9 → zm_Call gX4_given [.ref 6, .int x2, .int (mem 3 (Int32.toNatClampNeg x3))] mem (fun r3 w3 u3 => zm_Z gX4_isKeptBy post 43 [(0, .ref 6), (1, .int x1), (2, .int x2), (3, .int x3)] [.int r3] u3)) ∧ ((mem 3 (Int32.toNatClampNeg x3)) = 9 → zm_Z gX4_isKeptBy post 43 [(0, .ref 6), (1, .int x1), (2, .int x2), (3, .int x3)] [.int 9] mem)))))) : zm_Z gX4_isKeptBy post 2 [(0, .ref 6), (1, .int x1), (2, .int x2), (3, .int x3)] [] mem := by
  refine z_iload_n dX4_isKeptBy_2 rfl 3 rfl ?_
  refine z_aload_n dX4_isKeptBy_3 rfl 0 rfl ?_
  refine z_getr (ci := 4) (j := 0) (r := 1) (T := TX4) rfl rfl hX4 rfl (by decide) fkX4_15 dX4_isKeptBy_4 ?_
  refine z_getiN (ci := 1) (j := 2) (T := TX1) rfl rfl hX1 rfl (by decide) fkX4_36 dX4_isKeptBy_7 ?_
  refine z_icmp_ge (tgt := 75) dX4_isKeptBy_10 (by decide) (fun h1 => ?_) (fun h1 => ?_)
  ·
    refine z_iconst (v := 1) dX4_isKeptBy_75 zciconst_1 ?_
    exact z_zret rfl (by decide) dX4_isKeptBy_76 (kk.1 h1)
  ·
    refine z_aload_n dX4_isKeptBy_13 rfl 0 rfl ?_
    refine z_getr (ci := 4) (j := 1) (r := 2) (T := TX4) rfl rfl hX4 rfl (by decide) fkX4_19 dX4_isKeptBy_14 ?_
    refine z_getrN (ci := 5) (j := 1) (r := 3) (T := TX5) rfl rfl hX5 rfl (by decide) fkX4_41 dX4_isKeptBy_17 ?_
    refine z_iload_n dX4_isKeptBy_20 rfl 3 rfl ?_
    refine z_iald (n := 36) rfl (kk.2 h1).1 dX4_isKeptBy_21 ?_
    refine z_istore (lv' := [(4, .int (mem 3 (Int32.toNatClampNeg x3))), (0, .ref 6), (1, .int x1), (2, .int x2), (3, .int x3)]) dX4_isKeptBy_22 (by decide) rfl ?_
    refine z_iload dX4_isKeptBy_24 0 rfl ?_
    refine z_bipush (v := 9) dX4_isKeptBy_26 zcbipush_9 ?_
    refine z_icmp_ne (tgt := 36) dX4_isKeptBy_28 (by decide) (fun h2 => ?_) (fun h2 => ?_)
    ·
      refine z_aload_n dX4_isKeptBy_36 rfl 1 rfl ?_
      refine z_iload_n dX4_isKeptBy_37 rfl 3 rfl ?_
      refine z_iload dX4_isKeptBy_38 0 rfl ?_
      refine z_callVi (g' := gX4_given) [.int x2, .int (mem 3 (Int32.toNatClampNeg x3))] (q := 6) (ci := 4) (T := TX4) rfl rfl ⟨lkX4_44, pdX4_given, by decide, by decide⟩ ⟨_, rfl, by decide⟩ rfl (Nat.le_of_ble_eq_true rfl) dX4_isKeptBy_40 (zm_Call.mono ((kk.2 h1).2.1 h2) (fun r3 w3 u3 k3 => ?_))
      refine z_sub [1, 2, 3, 4] rfl ?_
      exact k3
    ·
      refine z_bipush (v := 9) dX4_isKeptBy_31 zcbipush_9 ?_
      refine z_goto (tgt := 43) dX4_isKeptBy_33 (by decide) ?_
      refine z_sub [1, 2, 3, 4] rfl ?_
      exact ((kk.2 h1).2.2 h2)
theorem bX4_isKeptBy_43 (x1 : Int32) (x2 : Int32) (x3 : Int32) (s0 : Int32) (mem : zm_Mem) (post : zm_Post) (kk : zm_Call gX1_target [.ref 1, .int x1, .int x3] mem (fun r1 w1 u1 => (vp_in r1 36 ∧ (((u1 3 (Int32.toNatClampNeg r1)) = s0 → zm_Z gX4_isKeptBy post 2 [(0, .ref 6), (1, .int x1), (2, .int x2), (3, .int (x3 + 1))] [] u1) ∧ (¬ (u1 3 (Int32.toNatClampNeg r1)) = s0 → post 0 0 u1))))) : zm_Z gX4_isKeptBy post 43 [(0, .ref 6), (1, .int x1), (2, .int x2), (3, .int x3)] [.int s0] mem := by
  refine z_istore (lv' := [(5, .int s0), (0, .ref 6), (1, .int x1), (2, .int x2), (3, .int x3)]) dX4_isKeptBy_43 (by decide) rfl ?_
  refine z_aload_n dX4_isKeptBy_45 rfl 1 rfl ?_
  refine z_getr (ci := 4) (j := 1) (r := 2) (T := TX4) rfl rfl hX4 rfl (by decide) fkX4_19 dX4_isKeptBy_46 ?_
  refine z_getrN (ci := 5) (j := 1) (r := 3) (T := TX5) rfl rfl hX5 rfl (by decide) fkX4_41 dX4_isKeptBy_49 ?_
  refine z_aload_n dX4_isKeptBy_52 rfl 1 rfl ?_
  refine z_getr (ci := 4) (j := 0) (r := 1) (T := TX4) rfl rfl hX4 rfl (by decide) fkX4_15 dX4_isKeptBy_53 ?_
  refine z_iload_n dX4_isKeptBy_56 rfl 2 rfl ?_
  refine z_iload_n dX4_isKeptBy_57 rfl 4 rfl ?_
  refine z_callVi (g' := gX1_target) [.int x1, .int x3] (q := 1) (ci := 1) (T := TX1) rfl rfl ⟨lkX4_48, pdX1_target, by decide, by decide⟩ ⟨_, rfl, by decide⟩ rfl (Nat.le_of_ble_eq_true rfl) dX4_isKeptBy_58 (zm_Call.mono kk (fun r1 w1 u1 k1 => ?_))
  refine z_iald (n := 36) rfl k1.1 dX4_isKeptBy_61 ?_
  refine z_iload dX4_isKeptBy_62 0 rfl ?_
  refine z_icmp_eq (tgt := 69) dX4_isKeptBy_64 (by decide) (fun h2 => ?_) (fun h2 => ?_)
  ·
    refine z_iinc (v := x3 + 1) (lv' := [(3, .int (x3 + 1)), (5, .int s0), (0, .ref 6), (1, .int x1), (2, .int x2)]) dX4_isKeptBy_69 4 rfl (by rw [zciconst_1]) (by decide) rfl ?_
    refine z_goto (tgt := 2) dX4_isKeptBy_72 (by decide) ?_
    refine z_sub [2, 3, 4, 0] rfl ?_
    exact (k1.2.1 h2)
  ·
    refine z_iconst (v := 0) dX4_isKeptBy_67 zciconst_0 ?_
    exact z_zret rfl (by decide) dX4_isKeptBy_68 (k1.2.2 h2)
theorem dX4_askFor_0 : decode cX4_askFor 0 = .ok (.iconst 0, 1) := by decide +kernel
theorem dX4_askFor_1 : decode cX4_askFor 1 = .ok (.istore_n 2, 1) := by decide +kernel
theorem dX4_askFor_2 : decode cX4_askFor 2 = .ok (.iload_n 2, 1) := by decide +kernel
theorem dX4_askFor_3 : decode cX4_askFor 3 = .ok (.iconst 4, 1) := by decide +kernel
theorem dX4_askFor_4 : decode cX4_askFor 4 = .ok (.if_icmp .ge 17, 3) := by decide +kernel
theorem dX4_askFor_7 : decode cX4_askFor 7 = .ok (.aload_n 0, 1) := by decide +kernel
theorem dX4_askFor_8 : decode cX4_askFor 8 = .ok (.getfield 9, 3) := by decide +kernel
theorem dX4_askFor_11 : decode cX4_askFor 11 = .ok (.iload_n 2, 1) := by decide +kernel
theorem dX4_askFor_12 : decode cX4_askFor 12 = .ok (.bipush (-9), 2) := by decide +kernel
theorem dX4_askFor_14 : decode cX4_askFor 14 = .ok (.iastore, 1) := by decide +kernel
theorem dX4_askFor_15 : decode cX4_askFor 15 = .ok (.iinc 2 1, 3) := by decide +kernel
theorem dX4_askFor_18 : decode cX4_askFor 18 = .ok (.goto (-16), 3) := by decide +kernel
theorem dX4_askFor_21 : decode cX4_askFor 21 = .ok (.iconst 0, 1) := by decide +kernel
theorem dX4_askFor_22 : decode cX4_askFor 22 = .ok (.istore_n 2, 1) := by decide +kernel
theorem dX4_askFor_23 : decode cX4_askFor 23 = .ok (.iload_n 2, 1) := by decide +kernel
theorem dX4_askFor_24 : decode cX4_askFor 24 = .ok (.aload_n 0, 1) := by decide +kernel
theorem dX4_askFor_25 : decode cX4_askFor 25 = .ok (.getfield 15, 3) := by decide +kernel
theorem dX4_askFor_28 : decode cX4_askFor 28 = .ok (.getfield 36, 3) := by decide +kernel
theorem dX4_askFor_31 : decode cX4_askFor 31 = .ok (.if_icmp .ge 94, 3) := by decide +kernel
theorem dX4_askFor_34 : decode cX4_askFor 34 = .ok (.aload_n 0, 1) := by decide +kernel
theorem dX4_askFor_35 : decode cX4_askFor 35 = .ok (.getfield 19, 3) := by decide +kernel
theorem dX4_askFor_38 : decode cX4_askFor 38 = .ok (.getfield 41, 3) := by decide +kernel
theorem dX4_askFor_41 : decode cX4_askFor 41 = .ok (.iload_n 2, 1) := by decide +kernel
theorem dX4_askFor_42 : decode cX4_askFor 42 = .ok (.iaload, 1) := by decide +kernel
theorem dX4_askFor_43 : decode cX4_askFor 43 = .ok (.istore_n 3, 1) := by decide +kernel
theorem dX4_askFor_44 : decode cX4_askFor 44 = .ok (.aload_n 0, 1) := by decide +kernel
theorem dX4_askFor_45 : decode cX4_askFor 45 = .ok (.getfield 19, 3) := by decide +kernel
theorem dX4_askFor_48 : decode cX4_askFor 48 = .ok (.getfield 41, 3) := by decide +kernel
theorem dX4_askFor_51 : decode cX4_askFor 51 = .ok (.aload_n 0, 1) := by decide +kernel
theorem dX4_askFor_52 : decode cX4_askFor 52 = .ok (.getfield 15, 3) := by decide +kernel
theorem dX4_askFor_55 : decode cX4_askFor 55 = .ok (.iload_n 1, 1) := by decide +kernel
theorem dX4_askFor_56 : decode cX4_askFor 56 = .ok (.iload_n 2, 1) := by decide +kernel
theorem dX4_askFor_57 : decode cX4_askFor 57 = .ok (.invokevirtual 48, 3) := by decide +kernel
theorem dX4_askFor_60 : decode cX4_askFor 60 = .ok (.iaload, 1) := by decide +kernel
theorem dX4_askFor_61 : decode cX4_askFor 61 = .ok (.istore 4, 2) := by decide +kernel
theorem dX4_askFor_63 : decode cX4_askFor 63 = .ok (.iload_n 3, 1) := by decide +kernel
theorem dX4_askFor_64 : decode cX4_askFor 64 = .ok (.bipush 9, 2) := by decide +kernel
theorem dX4_askFor_66 : decode cX4_askFor 66 = .ok (.if_icmp .eq 10, 3) := by decide +kernel
theorem dX4_askFor_69 : decode cX4_askFor 69 = .ok (.iload 4, 2) := by decide +kernel
theorem dX4_askFor_71 : decode cX4_askFor 71 = .ok (.bipush 9, 2) := by decide +kernel
theorem dX4_askFor_73 : decode cX4_askFor 73 = .ok (.if_icmp .ne 11, 3) := by decide +kernel
theorem dX4_askFor_76 : decode cX4_askFor 76 = .ok (.iload_n 3, 1) := by decide +kernel
theorem dX4_askFor_77 : decode cX4_askFor 77 = .ok (.iload 4, 2) := by decide +kernel
theorem dX4_askFor_79 : decode cX4_askFor 79 = .ok (.if_icmp .eq 40, 3) := by decide +kernel
theorem dX4_askFor_82 : decode cX4_askFor 82 = .ok (.iconst 0, 1) := by decide +kernel
theorem dX4_askFor_83 : decode cX4_askFor 83 = .ok (.ireturn, 1) := by decide +kernel
theorem dX4_askFor_84 : decode cX4_askFor 84 = .ok (.aload_n 0, 1) := by decide +kernel
theorem dX4_askFor_85 : decode cX4_askFor 85 = .ok (.getfield 9, 3) := by decide +kernel
theorem dX4_askFor_88 : decode cX4_askFor 88 = .ok (.iload_n 3, 1) := by decide +kernel
theorem dX4_askFor_89 : decode cX4_askFor 89 = .ok (.iaload, 1) := by decide +kernel
theorem dX4_askFor_90 : decode cX4_askFor 90 = .ok (.bipush (-9), 2) := by decide +kernel
theorem dX4_askFor_92 : decode cX4_askFor 92 = .ok (.if_icmp .ne 14, 3) := by decide +kernel
theorem dX4_askFor_95 : decode cX4_askFor 95 = .ok (.aload_n 0, 1) := by decide +kernel
theorem dX4_askFor_96 : decode cX4_askFor 96 = .ok (.getfield 9, 3) := by decide +kernel
theorem dX4_askFor_99 : decode cX4_askFor 99 = .ok (.iload_n 3, 1) := by decide +kernel
theorem dX4_askFor_100 : decode cX4_askFor 100 = .ok (.iload 4, 2) := by decide +kernel
theorem dX4_askFor_102 : decode cX4_askFor 102 = .ok (.iastore, 1) := by decide +kernel
theorem dX4_askFor_103 : decode cX4_askFor 103 = .ok (.goto 16, 3) := by decide +kernel
theorem dX4_askFor_106 : decode cX4_askFor 106 = .ok (.aload_n 0, 1) := by decide +kernel
theorem dX4_askFor_107 : decode cX4_askFor 107 = .ok (.getfield 9, 3) := by decide +kernel
theorem dX4_askFor_110 : decode cX4_askFor 110 = .ok (.iload_n 3, 1) := by decide +kernel
theorem dX4_askFor_111 : decode cX4_askFor 111 = .ok (.iaload, 1) := by decide +kernel
theorem dX4_askFor_112 : decode cX4_askFor 112 = .ok (.iload 4, 2) := by decide +kernel
theorem dX4_askFor_114 : decode cX4_askFor 114 = .ok (.if_icmp .eq 5, 3) := by decide +kernel
theorem dX4_askFor_117 : decode cX4_askFor 117 = .ok (.iconst 0, 1) := by decide +kernel
theorem dX4_askFor_118 : decode cX4_askFor 118 = .ok (.ireturn, 1) := by decide +kernel
theorem dX4_askFor_119 : decode cX4_askFor 119 = .ok (.iinc 2 1, 3) := by decide +kernel
theorem dX4_askFor_122 : decode cX4_askFor 122 = .ok (.goto (-99), 3) := by decide +kernel
theorem dX4_askFor_125 : decode cX4_askFor 125 = .ok (.iconst 1, 1) := by decide +kernel
theorem dX4_askFor_126 : decode cX4_askFor 126 = .ok (.ireturn, 1) := by decide +kernel
theorem bX4_askFor_0 (x1 : Int32) (mem : zm_Mem) (post : zm_Post) (kk : zm_Z gX4_askFor post 2 [(0, .ref 6), (1, .int x1), (2, .int 0)] [] mem) : zm_Call gX4_askFor [.ref 6, .int x1] mem post := by
  refine z_entry (by decide) (Nat.le_of_ble_eq_true rfl) ?_
  show zm_Z gX4_askFor post 0 [(0, .ref 6), (1, .int x1)] [] mem
  refine z_iconst (v := 0) dX4_askFor_0 zciconst_0 ?_
  refine z_istore_n (lv' := [(2, .int 0), (0, .ref 6), (1, .int x1)]) dX4_askFor_1 rfl (by decide) rfl ?_
  refine z_sub [1, 2, 0] rfl ?_
  exact kk
theorem bX4_askFor_2 (x1 : Int32) (x2 : Int32) (mem : zm_Mem) (post : zm_Post) (kk : ((4 ≤ x2 → zm_Z gX4_askFor post 23 [(0, .ref 6), (1, .int x1), (2, .int 0)] [] mem) ∧ (¬ 4 ≤ x2 → (vp_in x2 4 ∧ zm_Z gX4_askFor post 2 [(0, .ref 6), (1, .int x1), (2, .int (x2 + 1))] [] (zm_st mem 7 (Int32.toNatClampNeg x2) (-9)))))) : zm_Z gX4_askFor post 2 [(0, .ref 6), (1, .int x1), (2, .int x2)] [] mem := by
  refine z_iload_n dX4_askFor_2 rfl 2 rfl ?_
  refine z_iconst (v := 4) dX4_askFor_3 zciconst_4 ?_
  refine z_icmp_ge (tgt := 21) dX4_askFor_4 (by decide) (fun h1 => ?_) (fun h1 => ?_)
  ·
    refine z_iconst (v := 0) dX4_askFor_21 zciconst_0 ?_
    refine z_istore_n (lv' := [(2, .int 0), (0, .ref 6), (1, .int x1)]) dX4_askFor_22 rfl (by decide) rfl ?_
    refine z_sub [1, 2, 0] rfl ?_
    exact (kk.1 h1)
  ·
    refine z_aload_n dX4_askFor_7 rfl 0 rfl ?_
    refine z_getr (ci := 4) (j := 2) (r := 7) (T := TX4) rfl rfl hX4 rfl (by decide) fkX4_9 dX4_askFor_8 ?_
    refine z_iload_n dX4_askFor_11 rfl 2 rfl ?_
    refine z_bipush (v := (-9)) dX4_askFor_12 zcbipush_m9 ?_
    refine z_iast (n := 4) rfl (kk.2 h1).1 dX4_askFor_14 ?_
    refine z_iinc (v := x2 + 1) (lv' := [(2, .int (x2 + 1)), (0, .ref 6), (1, .int x1)]) dX4_askFor_15 2 rfl (by rw [zciconst_1]) (by decide) rfl ?_
    refine z_goto (tgt := 2) dX4_askFor_18 (by decide) ?_
    refine z_sub [1, 2, 0] rfl ?_
    exact (kk.2 h1).2
theorem bX4_askFor_23 (x1 : Int32) (x2 : Int32) (mem : zm_Mem) (post : zm_Post) (kk : (((mem 1 2) ≤ x2 → post 1 0 mem) ∧ (¬ (mem 1 2) ≤ x2 → (vp_in x2 36 ∧ zm_Call gX1_target [.ref 1, .int x1, .int x2] mem (fun r2 w2 u2 => (vp_in r2 36 ∧ (((mem 3 (Int32.toNatClampNeg x2)) = 9 → zm_Z gX4_askFor post 76 [(0, .ref 6), (1, .int x1), (2, .int x2), (3, .int (mem 3 (Int32.toNatClampNeg x2))), (4, .int (u2 3 (Int32.toNatClampNeg r2)))] [] u2) ∧ (¬ (mem 3 (Int32.toNatClampNeg x2)) = 9 → ((¬ (u2 3 (Int32.toNatClampNeg r2)) = 9 → (vp_in (mem 3 (Int32.toNatClampNeg x2)) 4 ∧ ((¬ (u2 7 (Int32.toNatClampNeg (mem 3 (Int32.toNatClampNeg x2)))) = (-9) → (vp_in (mem 3 (Int32.toNatClampNeg x2)) 4 ∧ (((u2 7 (Int32.toNatClampNeg (mem 3 (Int32.toNatClampNeg x2)))) = (u2 3 (Int32.toNatClampNeg r2)) → zm_Z gX4_askFor post 23 [(0, .ref 6), (1, .int x1), (2, .int (x2 + 1))] [] u2) ∧ (¬ (u2 7 (Int32.toNatClampNeg (mem 3 (Int32.toNatClampNeg x2)))) = (u2 3 (Int32.toNatClampNeg r2)) → post 0 0 u2)))) ∧ ((u2 7 (Int32.toNatClampNeg (mem 3 (Int32.toNatClampNeg x2)))) = (-9) → (vp_in (mem 3 (Int32.toNatClampNeg x2)) 4 ∧ zm_Z gX4_askFor post 23 [(0, .ref 6), (1, .int x1), (2, .int (x2 + 1))] [] (zm_st u2 7 (Int32.toNatClampNeg (mem 3 (Int32.toNatClampNeg x2))) (u2 3 (Int32.toNatClampNeg r2)))))))) ∧ ((u2 3 (Int32.toNatClampNeg r2)) = 9 → zm_Z gX4_askFor post 76 [(0, .ref 6), (1, .int x1), (2, .int x2), (3, .int (mem 3 (Int32.toNatClampNeg x2))), (4, .int (u2 3 (Int32.toNatClampNeg r2)))] [] u2)))))))))) : zm_Z gX4_askFor post 23 [(0, .ref 6), (1, .int x1), (2, .int x2)] [] mem := by
  refine z_iload_n dX4_askFor_23 rfl 2 rfl ?_
  refine z_aload_n dX4_askFor_24 rfl 0 rfl ?_
  refine z_getr (ci := 4) (j := 0) (r := 1) (T := TX4) rfl rfl hX4 rfl (by decide) fkX4_15 dX4_askFor_25 ?_
  refine z_getiN (ci := 1) (j := 2) (T := TX1) rfl rfl hX1 rfl (by decide) fkX4_36 dX4_askFor_28 ?_
  refine z_icmp_ge (tgt := 125) dX4_askFor_31 (by decide) (fun h1 => ?_) (fun h1 => ?_)
  ·
    refine z_iconst (v := 1) dX4_askFor_125 zciconst_1 ?_
    exact z_zret rfl (by decide) dX4_askFor_126 (kk.1 h1)
  ·
    refine z_aload_n dX4_askFor_34 rfl 0 rfl ?_
    refine z_getr (ci := 4) (j := 1) (r := 2) (T := TX4) rfl rfl hX4 rfl (by decide) fkX4_19 dX4_askFor_35 ?_
    refine z_getrN (ci := 5) (j := 1) (r := 3) (T := TX5) rfl rfl hX5 rfl (by decide) fkX4_41 dX4_askFor_38 ?_
    refine z_iload_n dX4_askFor_41 rfl 2 rfl ?_
    refine z_iald (n := 36) rfl (kk.2 h1).1 dX4_askFor_42 ?_
    refine z_istore_n (lv' := [(3, .int (mem 3 (Int32.toNatClampNeg x2))), (0, .ref 6), (1, .int x1), (2, .int x2)]) dX4_askFor_43 rfl (by decide) rfl ?_
    refine z_aload_n dX4_askFor_44 rfl 1 rfl ?_
    refine z_getr (ci := 4) (j := 1) (r := 2) (T := TX4) rfl rfl hX4 rfl (by decide) fkX4_19 dX4_askFor_45 ?_
    refine z_getrN (ci := 5) (j := 1) (r := 3) (T := TX5) rfl rfl hX5 rfl (by decide) fkX4_41 dX4_askFor_48 ?_
    refine z_aload_n dX4_askFor_51 rfl 1 rfl ?_
    refine z_getr (ci := 4) (j := 0) (r := 1) (T := TX4) rfl rfl hX4 rfl (by decide) fkX4_15 dX4_askFor_52 ?_
    refine z_iload_n dX4_askFor_55 rfl 2 rfl ?_
    refine z_iload_n dX4_askFor_56 rfl 3 rfl ?_
    refine z_callVi (g' := gX1_target) [.int x1, .int x2] (q := 1) (ci := 1) (T := TX1) rfl rfl ⟨lkX4_48, pdX1_target, by decide, by decide⟩ ⟨_, rfl, by decide⟩ rfl (Nat.le_of_ble_eq_true rfl) dX4_askFor_57 (zm_Call.mono (kk.2 h1).2 (fun r2 w2 u2 k2 => ?_))
    refine z_iald (n := 36) rfl k2.1 dX4_askFor_60 ?_
    refine z_istore (lv' := [(4, .int (u2 3 (Int32.toNatClampNeg r2))), (3, .int (mem 3 (Int32.toNatClampNeg x2))), (0, .ref 6), (1, .int x1), (2, .int x2)]) dX4_askFor_61 (by decide) rfl ?_
    refine z_iload_n dX4_askFor_63 rfl 1 rfl ?_
    refine z_bipush (v := 9) dX4_askFor_64 zcbipush_9 ?_
    refine z_icmp_eq (tgt := 76) dX4_askFor_66 (by decide) (fun h3 => ?_) (fun h3 => ?_)
    ·
      refine z_sub [2, 3, 4, 1, 0] rfl ?_
      exact (k2.2.1 h3)
    ·
      refine z_iload dX4_askFor_69 0 rfl ?_
      refine z_bipush (v := 9) dX4_askFor_71 zcbipush_9 ?_
      refine z_icmp_ne (tgt := 84) dX4_askFor_73 (by decide) (fun h4 => ?_) (fun h4 => ?_)
      ·
        refine z_aload_n dX4_askFor_84 rfl 2 rfl ?_
        refine z_getr (ci := 4) (j := 2) (r := 7) (T := TX4) rfl rfl hX4 rfl (by decide) fkX4_9 dX4_askFor_85 ?_
        refine z_iload_n dX4_askFor_88 rfl 1 rfl ?_
        refine z_iald (n := 4) rfl ((k2.2.2 h3).1 h4).1 dX4_askFor_89 ?_
        refine z_bipush (v := (-9)) dX4_askFor_90 zcbipush_m9 ?_
        refine z_icmp_ne (tgt := 106) dX4_askFor_92 (by decide) (fun h5 => ?_) (fun h5 => ?_)
        ·
          refine z_aload_n dX4_askFor_106 rfl 2 rfl ?_
          refine z_getr (ci := 4) (j := 2) (r := 7) (T := TX4) rfl rfl hX4 rfl (by decide) fkX4_9 dX4_askFor_107 ?_
          refine z_iload_n dX4_askFor_110 rfl 1 rfl ?_
          refine z_iald (n := 4) rfl (((k2.2.2 h3).1 h4).2.1 h5).1 dX4_askFor_111 ?_
          refine z_iload dX4_askFor_112 0 rfl ?_
          refine z_icmp_eq (tgt := 119) dX4_askFor_114 (by decide) (fun h6 => ?_) (fun h6 => ?_)
          ·
            refine z_iinc (v := x2 + 1) (lv' := [(2, .int (x2 + 1)), (4, .int (u2 3 (Int32.toNatClampNeg r2))), (3, .int (mem 3 (Int32.toNatClampNeg x2))), (0, .ref 6), (1, .int x1)]) dX4_askFor_119 4 rfl (by rw [zciconst_1]) (by decide) rfl ?_
            refine z_goto (tgt := 23) dX4_askFor_122 (by decide) ?_
            refine z_sub [3, 4, 0] rfl ?_
            exact ((((k2.2.2 h3).1 h4).2.1 h5).2.1 h6)
          ·
            refine z_iconst (v := 0) dX4_askFor_117 zciconst_0 ?_
            exact z_zret rfl (by decide) dX4_askFor_118 ((((k2.2.2 h3).1 h4).2.1 h5).2.2 h6)
        ·
          refine z_aload_n dX4_askFor_95 rfl 2 rfl ?_
          refine z_getr (ci := 4) (j := 2) (r := 7) (T := TX4) rfl rfl hX4 rfl (by decide) fkX4_9 dX4_askFor_96 ?_
          refine z_iload_n dX4_askFor_99 rfl 1 rfl ?_
          refine z_iload dX4_askFor_100 0 rfl ?_
          refine z_iast (n := 4) rfl (((k2.2.2 h3).1 h4).2.2 h5).1 dX4_askFor_102 ?_
          refine z_goto (tgt := 119) dX4_askFor_103 (by decide) ?_
          refine z_iinc (v := x2 + 1) (lv' := [(2, .int (x2 + 1)), (4, .int (u2 3 (Int32.toNatClampNeg r2))), (3, .int (mem 3 (Int32.toNatClampNeg x2))), (0, .ref 6), (1, .int x1)]) dX4_askFor_119 4 rfl (by rw [zciconst_1]) (by decide) rfl ?_
          refine z_goto (tgt := 23) dX4_askFor_122 (by decide) ?_
          refine z_sub [3, 4, 0] rfl ?_
          exact (((k2.2.2 h3).1 h4).2.2 h5).2
      ·
        refine z_sub [2, 3, 4, 1, 0] rfl ?_
        exact ((k2.2.2 h3).2 h4)
theorem bX4_askFor_76 (x1 : Int32) (x2 : Int32) (x3 : Int32) (x4 : Int32) (mem : zm_Mem) (post : zm_Post) (kk : ((x3 = x4 → zm_Z gX4_askFor post 23 [(0, .ref 6), (1, .int x1), (2, .int (x2 + 1))] [] mem) ∧ (¬ x3 = x4 → post 0 0 mem))) : zm_Z gX4_askFor post 76 [(0, .ref 6), (1, .int x1), (2, .int x2), (3, .int x3), (4, .int x4)] [] mem := by
  refine z_iload_n dX4_askFor_76 rfl 3 rfl ?_
  refine z_iload dX4_askFor_77 4 rfl ?_
  refine z_icmp_eq (tgt := 119) dX4_askFor_79 (by decide) (fun h1 => ?_) (fun h1 => ?_)
  ·
    refine z_iinc (v := x2 + 1) (lv' := [(2, .int (x2 + 1)), (0, .ref 6), (1, .int x1), (3, .int x3), (4, .int x4)]) dX4_askFor_119 2 rfl (by rw [zciconst_1]) (by decide) rfl ?_
    refine z_goto (tgt := 23) dX4_askFor_122 (by decide) ?_
    refine z_sub [1, 2, 0] rfl ?_
    exact (kk.1 h1)
  ·
    refine z_iconst (v := 0) dX4_askFor_82 zciconst_0 ?_
    exact z_zret rfl (by decide) dX4_askFor_83 (kk.2 h1)
theorem dX4_givesWhatIsAsked_0 : decode cX4_givesWhatIsAsked 0 = .ok (.iconst 0, 1) := by decide +kernel
theorem dX4_givesWhatIsAsked_1 : decode cX4_givesWhatIsAsked 1 = .ok (.istore_n 2, 1) := by decide +kernel
theorem dX4_givesWhatIsAsked_2 : decode cX4_givesWhatIsAsked 2 = .ok (.iload_n 2, 1) := by decide +kernel
theorem dX4_givesWhatIsAsked_3 : decode cX4_givesWhatIsAsked 3 = .ok (.aload_n 0, 1) := by decide +kernel
theorem dX4_givesWhatIsAsked_4 : decode cX4_givesWhatIsAsked 4 = .ok (.getfield 19, 3) := by decide +kernel
theorem dX4_givesWhatIsAsked_7 : decode cX4_givesWhatIsAsked 7 = .ok (.getfield 23, 3) := by decide +kernel
theorem dX4_givesWhatIsAsked_10 : decode cX4_givesWhatIsAsked 10 = .ok (.if_icmp .ge 37, 3) := by decide +kernel
theorem dX4_givesWhatIsAsked_13 : decode cX4_givesWhatIsAsked 13 = .ok (.aload_n 0, 1) := by decide +kernel
theorem dX4_givesWhatIsAsked_14 : decode cX4_givesWhatIsAsked 14 = .ok (.getfield 9, 3) := by decide +kernel
theorem dX4_givesWhatIsAsked_17 : decode cX4_givesWhatIsAsked 17 = .ok (.iload_n 2, 1) := by decide +kernel
theorem dX4_givesWhatIsAsked_18 : decode cX4_givesWhatIsAsked 18 = .ok (.iaload, 1) := by decide +kernel
theorem dX4_givesWhatIsAsked_19 : decode cX4_givesWhatIsAsked 19 = .ok (.bipush (-9), 2) := by decide +kernel
theorem dX4_givesWhatIsAsked_21 : decode cX4_givesWhatIsAsked 21 = .ok (.if_icmp .eq 20, 3) := by decide +kernel
theorem dX4_givesWhatIsAsked_24 : decode cX4_givesWhatIsAsked 24 = .ok (.aload_n 0, 1) := by decide +kernel
theorem dX4_givesWhatIsAsked_25 : decode cX4_givesWhatIsAsked 25 = .ok (.getfield 9, 3) := by decide +kernel
theorem dX4_givesWhatIsAsked_28 : decode cX4_givesWhatIsAsked 28 = .ok (.iload_n 2, 1) := by decide +kernel
theorem dX4_givesWhatIsAsked_29 : decode cX4_givesWhatIsAsked 29 = .ok (.iaload, 1) := by decide +kernel
theorem dX4_givesWhatIsAsked_30 : decode cX4_givesWhatIsAsked 30 = .ok (.aload_n 0, 1) := by decide +kernel
theorem dX4_givesWhatIsAsked_31 : decode cX4_givesWhatIsAsked 31 = .ok (.iload_n 1, 1) := by decide +kernel
theorem dX4_givesWhatIsAsked_32 : decode cX4_givesWhatIsAsked 32 = .ok (.iload_n 2, 1) := by decide +kernel
theorem dX4_givesWhatIsAsked_33 : decode cX4_givesWhatIsAsked 33 = .ok (.invokevirtual 44, 3) := by decide +kernel
theorem dX4_givesWhatIsAsked_36 : decode cX4_givesWhatIsAsked 36 = .ok (.if_icmp .eq 5, 3) := by decide +kernel
theorem dX4_givesWhatIsAsked_39 : decode cX4_givesWhatIsAsked 39 = .ok (.iconst 0, 1) := by decide +kernel
theorem dX4_givesWhatIsAsked_40 : decode cX4_givesWhatIsAsked 40 = .ok (.ireturn, 1) := by decide +kernel
theorem dX4_givesWhatIsAsked_41 : decode cX4_givesWhatIsAsked 41 = .ok (.iinc 2 1, 3) := by decide +kernel
theorem dX4_givesWhatIsAsked_44 : decode cX4_givesWhatIsAsked 44 = .ok (.goto (-42), 3) := by decide +kernel
theorem dX4_givesWhatIsAsked_47 : decode cX4_givesWhatIsAsked 47 = .ok (.iconst 1, 1) := by decide +kernel
theorem dX4_givesWhatIsAsked_48 : decode cX4_givesWhatIsAsked 48 = .ok (.ireturn, 1) := by decide +kernel
theorem bX4_givesWhatIsAsked_0 (x1 : Int32) (mem : zm_Mem) (post : zm_Post) (kk : zm_Z gX4_givesWhatIsAsked post 2 [(0, .ref 6), (1, .int x1), (2, .int 0)] [] mem) : zm_Call gX4_givesWhatIsAsked [.ref 6, .int x1] mem post := by
  refine z_entry (by decide) (Nat.le_of_ble_eq_true rfl) ?_
  show zm_Z gX4_givesWhatIsAsked post 0 [(0, .ref 6), (1, .int x1)] [] mem
  refine z_iconst (v := 0) dX4_givesWhatIsAsked_0 zciconst_0 ?_
  refine z_istore_n (lv' := [(2, .int 0), (0, .ref 6), (1, .int x1)]) dX4_givesWhatIsAsked_1 rfl (by decide) rfl ?_
  refine z_sub [1, 2, 0] rfl ?_
  exact kk
theorem bX4_givesWhatIsAsked_2 (x1 : Int32) (x2 : Int32) (mem : zm_Mem) (post : zm_Post) (kk : (((mem 2 3) ≤ x2 → post 1 0 mem) ∧ (¬ (mem 2 3) ≤ x2 → (vp_in x2 4 ∧ (((mem 7 (Int32.toNatClampNeg x2)) = (-9) → zm_Z gX4_givesWhatIsAsked post 2 [(0, .ref 6), (1, .int x1), (2, .int (x2 + 1))] [] mem) ∧ (¬ (mem 7 (Int32.toNatClampNeg x2)) = (-9) → (vp_in x2 4 ∧ zm_Call gX4_given [.ref 6, .int x1, .int x2] mem (fun r3 w3 u3 => (((mem 7 (Int32.toNatClampNeg x2)) = r3 → zm_Z gX4_givesWhatIsAsked post 2 [(0, .ref 6), (1, .int x1), (2, .int (x2 + 1))] [] u3) ∧ (¬ (mem 7 (Int32.toNatClampNeg x2)) = r3 → post 0 0 u3)))))))))) : zm_Z gX4_givesWhatIsAsked post 2 [(0, .ref 6), (1, .int x1), (2, .int x2)] [] mem := by
  refine z_iload_n dX4_givesWhatIsAsked_2 rfl 2 rfl ?_
  refine z_aload_n dX4_givesWhatIsAsked_3 rfl 0 rfl ?_
  refine z_getr (ci := 4) (j := 1) (r := 2) (T := TX4) rfl rfl hX4 rfl (by decide) fkX4_19 dX4_givesWhatIsAsked_4 ?_
  refine z_getiN (ci := 5) (j := 3) (T := TX5) rfl rfl hX5 rfl (by decide) fkX4_23 dX4_givesWhatIsAsked_7 ?_
  refine z_icmp_ge (tgt := 47) dX4_givesWhatIsAsked_10 (by decide) (fun h1 => ?_) (fun h1 => ?_)
  ·
    refine z_iconst (v := 1) dX4_givesWhatIsAsked_47 zciconst_1 ?_
    exact z_zret rfl (by decide) dX4_givesWhatIsAsked_48 (kk.1 h1)
  ·
    refine z_aload_n dX4_givesWhatIsAsked_13 rfl 0 rfl ?_
    refine z_getr (ci := 4) (j := 2) (r := 7) (T := TX4) rfl rfl hX4 rfl (by decide) fkX4_9 dX4_givesWhatIsAsked_14 ?_
    refine z_iload_n dX4_givesWhatIsAsked_17 rfl 2 rfl ?_
    refine z_iald (n := 4) rfl (kk.2 h1).1 dX4_givesWhatIsAsked_18 ?_
    refine z_bipush (v := (-9)) dX4_givesWhatIsAsked_19 zcbipush_m9 ?_
    refine z_icmp_eq (tgt := 41) dX4_givesWhatIsAsked_21 (by decide) (fun h2 => ?_) (fun h2 => ?_)
    ·
      refine z_iinc (v := x2 + 1) (lv' := [(2, .int (x2 + 1)), (0, .ref 6), (1, .int x1)]) dX4_givesWhatIsAsked_41 2 rfl (by rw [zciconst_1]) (by decide) rfl ?_
      refine z_goto (tgt := 2) dX4_givesWhatIsAsked_44 (by decide) ?_
      refine z_sub [1, 2, 0] rfl ?_
      exact ((kk.2 h1).2.1 h2)
    ·
      refine z_aload_n dX4_givesWhatIsAsked_24 rfl 0 rfl ?_
      refine z_getr (ci := 4) (j := 2) (r := 7) (T := TX4) rfl rfl hX4 rfl (by decide) fkX4_9 dX4_givesWhatIsAsked_25 ?_
      refine z_iload_n dX4_givesWhatIsAsked_28 rfl 2 rfl ?_
      refine z_iald (n := 4) rfl ((kk.2 h1).2.2 h2).1 dX4_givesWhatIsAsked_29 ?_
      refine z_aload_n dX4_givesWhatIsAsked_30 rfl 0 rfl ?_
      refine z_iload_n dX4_givesWhatIsAsked_31 rfl 1 rfl ?_
      refine z_iload_n dX4_givesWhatIsAsked_32 rfl 2 rfl ?_
      refine z_callVi (g' := gX4_given) [.int x1, .int x2] (q := 6) (ci := 4) (T := TX4) rfl rfl ⟨lkX4_44, pdX4_given, by decide, by decide⟩ ⟨_, rfl, by decide⟩ rfl (Nat.le_of_ble_eq_true rfl) dX4_givesWhatIsAsked_33 (zm_Call.mono ((kk.2 h1).2.2 h2).2 (fun r3 w3 u3 k3 => ?_))
      refine z_icmp_eq (tgt := 41) dX4_givesWhatIsAsked_36 (by decide) (fun h4 => ?_) (fun h4 => ?_)
      ·
        refine z_iinc (v := x2 + 1) (lv' := [(2, .int (x2 + 1)), (0, .ref 6), (1, .int x1)]) dX4_givesWhatIsAsked_41 2 rfl (by rw [zciconst_1]) (by decide) rfl ?_
        refine z_goto (tgt := 2) dX4_givesWhatIsAsked_44 (by decide) ?_
        refine z_sub [1, 2, 0] rfl ?_
        exact (k3.1 h4)
      ·
        refine z_iconst (v := 0) dX4_givesWhatIsAsked_39 zciconst_0 ?_
        exact z_zret rfl (by decide) dX4_givesWhatIsAsked_40 (k3.2 h4)
theorem dX4_leastFor_0 : decode cX4_leastFor 0 = .ok (.aload_n 0, 1) := by decide +kernel
theorem dX4_leastFor_1 : decode cX4_leastFor 1 = .ok (.iload_n 1, 1) := by decide +kernel
theorem dX4_leastFor_2 : decode cX4_leastFor 2 = .ok (.invokevirtual 51, 3) := by decide +kernel
theorem dX4_leastFor_5 : decode cX4_leastFor 5 = .ok (.ifCond .ne 6, 3) := by decide +kernel
theorem dX4_leastFor_8 : decode cX4_leastFor 8 = .ok (.bipush (-9), 2) := by decide +kernel
theorem dX4_leastFor_10 : decode cX4_leastFor 10 = .ok (.ireturn, 1) := by decide +kernel
theorem dX4_leastFor_11 : decode cX4_leastFor 11 = .ok (.aload_n 0, 1) := by decide +kernel
theorem dX4_leastFor_12 : decode cX4_leastFor 12 = .ok (.invokevirtual 29, 3) := by decide +kernel
theorem dX4_leastFor_15 : decode cX4_leastFor 15 = .ok (.istore_n 2, 1) := by decide +kernel
theorem dX4_leastFor_16 : decode cX4_leastFor 16 = .ok (.iconst 0, 1) := by decide +kernel
theorem dX4_leastFor_17 : decode cX4_leastFor 17 = .ok (.istore_n 3, 1) := by decide +kernel
theorem dX4_leastFor_18 : decode cX4_leastFor 18 = .ok (.iload_n 3, 1) := by decide +kernel
theorem dX4_leastFor_19 : decode cX4_leastFor 19 = .ok (.iload_n 2, 1) := by decide +kernel
theorem dX4_leastFor_20 : decode cX4_leastFor 20 = .ok (.if_icmp .ge 19, 3) := by decide +kernel
theorem dX4_leastFor_23 : decode cX4_leastFor 23 = .ok (.aload_n 0, 1) := by decide +kernel
theorem dX4_leastFor_24 : decode cX4_leastFor 24 = .ok (.iload_n 3, 1) := by decide +kernel
theorem dX4_leastFor_25 : decode cX4_leastFor 25 = .ok (.invokevirtual 55, 3) := by decide +kernel
theorem dX4_leastFor_28 : decode cX4_leastFor 28 = .ok (.ifCond .eq 5, 3) := by decide +kernel
theorem dX4_leastFor_31 : decode cX4_leastFor 31 = .ok (.iload_n 3, 1) := by decide +kernel
theorem dX4_leastFor_32 : decode cX4_leastFor 32 = .ok (.ireturn, 1) := by decide +kernel
theorem dX4_leastFor_33 : decode cX4_leastFor 33 = .ok (.iinc 3 1, 3) := by decide +kernel
theorem dX4_leastFor_36 : decode cX4_leastFor 36 = .ok (.goto (-18), 3) := by decide +kernel
theorem dX4_leastFor_39 : decode cX4_leastFor 39 = .ok (.bipush (-9), 2) := by decide +kernel
theorem dX4_leastFor_41 : decode cX4_leastFor 41 = .ok (.ireturn, 1) := by decide +kernel
theorem bX4_leastFor_0 (x1 : Int32) (mem : zm_Mem) (post : zm_Post) (kk : zm_Call gX4_askFor [.ref 6, .int x1] mem (fun r1 w1 u1 => ((¬ r1 = 0 → zm_Call gX4_total [.ref 6] u1 (fun r3 w3 u3 => zm_Z gX4_leastFor post 18 [(0, .ref 6), (2, .int r3), (3, .int 0)] [] u3)) ∧ (r1 = 0 → post (-9) 0 u1)))) : zm_Call gX4_leastFor [.ref 6, .int x1] mem post := by
  refine z_entry (by decide) (Nat.le_of_ble_eq_true rfl) ?_
  show zm_Z gX4_leastFor post 0 [(0, .ref 6), (1, .int x1)] [] mem
  refine z_aload_n dX4_leastFor_0 rfl 0 rfl ?_
  refine z_iload_n dX4_leastFor_1 rfl 1 rfl ?_
  refine z_callVi (g' := gX4_askFor) [.int x1] (q := 6) (ci := 4) (T := TX4) rfl rfl ⟨lkX4_51, pdX4_askFor, by decide, by decide⟩ ⟨_, rfl, by decide⟩ rfl (Nat.le_of_ble_eq_true rfl) dX4_leastFor_2 (zm_Call.mono kk (fun r1 w1 u1 k1 => ?_))
  refine z_if_ne (tgt := 11) dX4_leastFor_5 (by decide) (fun h2 => ?_) (fun h2 => ?_)
  ·
    refine z_aload_n dX4_leastFor_11 rfl 0 rfl ?_
    refine z_callVi (g' := gX4_total) [] (q := 6) (ci := 4) (T := TX4) rfl rfl ⟨lkX4_29, pdX4_total, by decide, by decide⟩ ⟨_, rfl, by decide⟩ rfl (Nat.le_of_ble_eq_true rfl) dX4_leastFor_12 (zm_Call.mono (k1.1 h2) (fun r3 w3 u3 k3 => ?_))
    refine z_istore_n (lv' := [(2, .int r3), (0, .ref 6), (1, .int x1)]) dX4_leastFor_15 rfl (by decide) rfl ?_
    refine z_iconst (v := 0) dX4_leastFor_16 zciconst_0 ?_
    refine z_istore_n (lv' := [(3, .int 0), (2, .int r3), (0, .ref 6), (1, .int x1)]) dX4_leastFor_17 rfl (by decide) rfl ?_
    refine z_sub [2, 1, 0] rfl ?_
    exact k3
  ·
    refine z_bipush (v := (-9)) dX4_leastFor_8 zcbipush_m9 ?_
    exact z_iret rfl dX4_leastFor_10 (k1.2 h2)
theorem bX4_leastFor_18 (x2 : Int32) (x3 : Int32) (mem : zm_Mem) (post : zm_Post) (kk : ((x2 ≤ x3 → post (-9) 0 mem) ∧ (¬ x2 ≤ x3 → zm_Call gX4_givesWhatIsAsked [.ref 6, .int x3] mem (fun r2 w2 u2 => ((r2 = 0 → zm_Z gX4_leastFor post 18 [(0, .ref 6), (2, .int x2), (3, .int (x3 + 1))] [] u2) ∧ (¬ r2 = 0 → post x3 0 u2)))))) : zm_Z gX4_leastFor post 18 [(0, .ref 6), (2, .int x2), (3, .int x3)] [] mem := by
  refine z_iload_n dX4_leastFor_18 rfl 2 rfl ?_
  refine z_iload_n dX4_leastFor_19 rfl 1 rfl ?_
  refine z_icmp_ge (tgt := 39) dX4_leastFor_20 (by decide) (fun h1 => ?_) (fun h1 => ?_)
  ·
    refine z_bipush (v := (-9)) dX4_leastFor_39 zcbipush_m9 ?_
    exact z_iret rfl dX4_leastFor_41 (kk.1 h1)
  ·
    refine z_aload_n dX4_leastFor_23 rfl 0 rfl ?_
    refine z_iload_n dX4_leastFor_24 rfl 2 rfl ?_
    refine z_callVi (g' := gX4_givesWhatIsAsked) [.int x3] (q := 6) (ci := 4) (T := TX4) rfl rfl ⟨lkX4_55, pdX4_givesWhatIsAsked, by decide, by decide⟩ ⟨_, rfl, by decide⟩ rfl (Nat.le_of_ble_eq_true rfl) dX4_leastFor_25 (zm_Call.mono (kk.2 h1) (fun r2 w2 u2 k2 => ?_))
    refine z_if_eq (tgt := 33) dX4_leastFor_28 (by decide) (fun h3 => ?_) (fun h3 => ?_)
    ·
      refine z_iinc (v := x3 + 1) (lv' := [(3, .int (x3 + 1)), (0, .ref 6), (2, .int x2)]) dX4_leastFor_33 2 rfl (by rw [zciconst_1]) (by decide) rfl ?_
      refine z_goto (tgt := 18) dX4_leastFor_36 (by decide) ?_
      refine z_sub [1, 2, 0] rfl ?_
      exact (k2.1 h3)
    ·
      refine z_iload_n dX4_leastFor_31 rfl 2 rfl ?_
      exact z_iret rfl dX4_leastFor_32 (k2.2 h3)
theorem dX4_movesWithSome_0 : decode cX4_movesWithSome 0 = .ok (.iconst 0, 1) := by decide +kernel
theorem dX4_movesWithSome_1 : decode cX4_movesWithSome 1 = .ok (.istore_n 1, 1) := by decide +kernel
theorem dX4_movesWithSome_2 : decode cX4_movesWithSome 2 = .ok (.iconst 0, 1) := by decide +kernel
theorem dX4_movesWithSome_3 : decode cX4_movesWithSome 3 = .ok (.istore_n 2, 1) := by decide +kernel
theorem dX4_movesWithSome_4 : decode cX4_movesWithSome 4 = .ok (.iload_n 2, 1) := by decide +kernel
theorem dX4_movesWithSome_5 : decode cX4_movesWithSome 5 = .ok (.aload_n 0, 1) := by decide +kernel
theorem dX4_movesWithSome_6 : decode cX4_movesWithSome 6 = .ok (.getfield 15, 3) := by decide +kernel
theorem dX4_movesWithSome_9 : decode cX4_movesWithSome 9 = .ok (.invokevirtual 58, 3) := by decide +kernel
theorem dX4_movesWithSome_12 : decode cX4_movesWithSome 12 = .ok (.if_icmp .ge 33, 3) := by decide +kernel
theorem dX4_movesWithSome_15 : decode cX4_movesWithSome 15 = .ok (.aload_n 0, 1) := by decide +kernel
theorem dX4_movesWithSome_16 : decode cX4_movesWithSome 16 = .ok (.getfield 15, 3) := by decide +kernel
theorem dX4_movesWithSome_19 : decode cX4_movesWithSome 19 = .ok (.iload_n 2, 1) := by decide +kernel
theorem dX4_movesWithSome_20 : decode cX4_movesWithSome 20 = .ok (.invokevirtual 61, 3) := by decide +kernel
theorem dX4_movesWithSome_23 : decode cX4_movesWithSome 23 = .ok (.ifCond .eq 16, 3) := by decide +kernel
theorem dX4_movesWithSome_26 : decode cX4_movesWithSome 26 = .ok (.aload_n 0, 1) := by decide +kernel
theorem dX4_movesWithSome_27 : decode cX4_movesWithSome 27 = .ok (.iload_n 2, 1) := by decide +kernel
theorem dX4_movesWithSome_28 : decode cX4_movesWithSome 28 = .ok (.invokevirtual 64, 3) := by decide +kernel
theorem dX4_movesWithSome_31 : decode cX4_movesWithSome 31 = .ok (.bipush (-9), 2) := by decide +kernel
theorem dX4_movesWithSome_33 : decode cX4_movesWithSome 33 = .ok (.if_icmp .eq 6, 3) := by decide +kernel
theorem dX4_movesWithSome_36 : decode cX4_movesWithSome 36 = .ok (.iinc 1 1, 3) := by decide +kernel
theorem dX4_movesWithSome_39 : decode cX4_movesWithSome 39 = .ok (.iinc 2 1, 3) := by decide +kernel
theorem dX4_movesWithSome_42 : decode cX4_movesWithSome 42 = .ok (.goto (-38), 3) := by decide +kernel
theorem dX4_movesWithSome_45 : decode cX4_movesWithSome 45 = .ok (.iload_n 1, 1) := by decide +kernel
theorem dX4_movesWithSome_46 : decode cX4_movesWithSome 46 = .ok (.ireturn, 1) := by decide +kernel
theorem bX4_movesWithSome_0 (mem : zm_Mem) (post : zm_Post) (kk : zm_Z gX4_movesWithSome post 4 [(0, .ref 6), (1, .int 0), (2, .int 0)] [] mem) : zm_Call gX4_movesWithSome [.ref 6] mem post := by
  refine z_entry (by decide) (Nat.le_of_ble_eq_true rfl) ?_
  show zm_Z gX4_movesWithSome post 0 [(0, .ref 6)] [] mem
  refine z_iconst (v := 0) dX4_movesWithSome_0 zciconst_0 ?_
  refine z_istore_n (lv' := [(1, .int 0), (0, .ref 6)]) dX4_movesWithSome_1 rfl (by decide) rfl ?_
  refine z_iconst (v := 0) dX4_movesWithSome_2 zciconst_0 ?_
  refine z_istore_n (lv' := [(2, .int 0), (1, .int 0), (0, .ref 6)]) dX4_movesWithSome_3 rfl (by decide) rfl ?_
  refine z_sub [2, 1, 0] rfl ?_
  exact kk
theorem bX4_movesWithSome_4 (x1 : Int32) (x2 : Int32) (mem : zm_Mem) (post : zm_Post) (kk : zm_Call gX1_numbers [.ref 1] mem (fun r1 w1 u1 => ((r1 ≤ x2 → post x1 0 u1) ∧ (¬ r1 ≤ x2 → zm_Call gX1_hasMove [.ref 1, .int x2] u1 (fun r3 w3 u3 => ((r3 = 0 → zm_Z gX4_movesWithSome post 4 [(0, .ref 6), (1, .int x1), (2, .int (x2 + 1))] [] u3) ∧ (¬ r3 = 0 → zm_Call gX4_leastFor [.ref 6, .int x2] u3 (fun r5 w5 u5 => ((r5 = (-9) → zm_Z gX4_movesWithSome post 4 [(0, .ref 6), (1, .int x1), (2, .int (x2 + 1))] [] u5) ∧ (¬ r5 = (-9) → zm_Z gX4_movesWithSome post 4 [(0, .ref 6), (1, .int (x1 + 1)), (2, .int (x2 + 1))] [] u5)))))))))) : zm_Z gX4_movesWithSome post 4 [(0, .ref 6), (1, .int x1), (2, .int x2)] [] mem := by
  refine z_iload_n dX4_movesWithSome_4 rfl 2 rfl ?_
  refine z_aload_n dX4_movesWithSome_5 rfl 0 rfl ?_
  refine z_getr (ci := 4) (j := 0) (r := 1) (T := TX4) rfl rfl hX4 rfl (by decide) fkX4_15 dX4_movesWithSome_6 ?_
  refine z_callVi (g' := gX1_numbers) [] (q := 1) (ci := 1) (T := TX1) rfl rfl ⟨lkX4_58, pdX1_numbers, by decide, by decide⟩ ⟨_, rfl, by decide⟩ rfl (Nat.le_of_ble_eq_true rfl) dX4_movesWithSome_9 (zm_Call.mono kk (fun r1 w1 u1 k1 => ?_))
  refine z_icmp_ge (tgt := 45) dX4_movesWithSome_12 (by decide) (fun h2 => ?_) (fun h2 => ?_)
  ·
    refine z_iload_n dX4_movesWithSome_45 rfl 1 rfl ?_
    exact z_iret rfl dX4_movesWithSome_46 (k1.1 h2)
  ·
    refine z_aload_n dX4_movesWithSome_15 rfl 0 rfl ?_
    refine z_getr (ci := 4) (j := 0) (r := 1) (T := TX4) rfl rfl hX4 rfl (by decide) fkX4_15 dX4_movesWithSome_16 ?_
    refine z_iload_n dX4_movesWithSome_19 rfl 2 rfl ?_
    refine z_callVi (g' := gX1_hasMove) [.int x2] (q := 1) (ci := 1) (T := TX1) rfl rfl ⟨lkX4_61, pdX1_hasMove, by decide, by decide⟩ ⟨_, rfl, by decide⟩ rfl (Nat.le_of_ble_eq_true rfl) dX4_movesWithSome_20 (zm_Call.mono (k1.2 h2) (fun r3 w3 u3 k3 => ?_))
    refine z_if_eq (tgt := 39) dX4_movesWithSome_23 (by decide) (fun h4 => ?_) (fun h4 => ?_)
    ·
      refine z_iinc (v := x2 + 1) (lv' := [(2, .int (x2 + 1)), (0, .ref 6), (1, .int x1)]) dX4_movesWithSome_39 2 rfl (by rw [zciconst_1]) (by decide) rfl ?_
      refine z_goto (tgt := 4) dX4_movesWithSome_42 (by decide) ?_
      refine z_sub [1, 2, 0] rfl ?_
      exact (k3.1 h4)
    ·
      refine z_aload_n dX4_movesWithSome_26 rfl 0 rfl ?_
      refine z_iload_n dX4_movesWithSome_27 rfl 2 rfl ?_
      refine z_callVi (g' := gX4_leastFor) [.int x2] (q := 6) (ci := 4) (T := TX4) rfl rfl ⟨lkX4_64, pdX4_leastFor, by decide, by decide⟩ ⟨_, rfl, by decide⟩ rfl (Nat.le_of_ble_eq_true rfl) dX4_movesWithSome_28 (zm_Call.mono (k3.2 h4) (fun r5 w5 u5 k5 => ?_))
      refine z_bipush (v := (-9)) dX4_movesWithSome_31 zcbipush_m9 ?_
      refine z_icmp_eq (tgt := 39) dX4_movesWithSome_33 (by decide) (fun h6 => ?_) (fun h6 => ?_)
      ·
        refine z_iinc (v := x2 + 1) (lv' := [(2, .int (x2 + 1)), (0, .ref 6), (1, .int x1)]) dX4_movesWithSome_39 2 rfl (by rw [zciconst_1]) (by decide) rfl ?_
        refine z_goto (tgt := 4) dX4_movesWithSome_42 (by decide) ?_
        refine z_sub [1, 2, 0] rfl ?_
        exact (k5.1 h6)
      ·
        refine z_iinc (v := x1 + 1) (lv' := [(1, .int (x1 + 1)), (0, .ref 6), (2, .int x2)]) dX4_movesWithSome_36 1 rfl (by rw [zciconst_1]) (by decide) rfl ?_
        refine z_iinc (v := x2 + 1) (lv' := [(2, .int (x2 + 1)), (1, .int (x1 + 1)), (0, .ref 6)]) dX4_movesWithSome_39 2 rfl (by rw [zciconst_1]) (by decide) rfl ?_
        refine z_goto (tgt := 4) dX4_movesWithSome_42 (by decide) ?_
        refine z_sub [2, 1, 0] rfl ?_
        exact (k5.2 h6)
theorem dX5_clear_0 : decode cX5_clear 0 = .ok (.iconst 0, 1) := by decide +kernel
theorem dX5_clear_1 : decode cX5_clear 1 = .ok (.istore_n 1, 1) := by decide +kernel
theorem dX5_clear_2 : decode cX5_clear 2 = .ok (.iload_n 1, 1) := by decide +kernel
theorem dX5_clear_3 : decode cX5_clear 3 = .ok (.bipush 36, 2) := by decide +kernel
theorem dX5_clear_5 : decode cX5_clear 5 = .ok (.if_icmp .ge 16, 3) := by decide +kernel
theorem dX5_clear_8 : decode cX5_clear 8 = .ok (.aload_n 0, 1) := by decide +kernel
theorem dX5_clear_9 : decode cX5_clear 9 = .ok (.getfield 9, 3) := by decide +kernel
theorem dX5_clear_12 : decode cX5_clear 12 = .ok (.iload_n 1, 1) := by decide +kernel
theorem dX5_clear_13 : decode cX5_clear 13 = .ok (.iconst 0, 1) := by decide +kernel
theorem dX5_clear_14 : decode cX5_clear 14 = .ok (.iastore, 1) := by decide +kernel
theorem dX5_clear_15 : decode cX5_clear 15 = .ok (.iinc 1 1, 3) := by decide +kernel
theorem dX5_clear_18 : decode cX5_clear 18 = .ok (.goto (-16), 3) := by decide +kernel
theorem dX5_clear_21 : decode cX5_clear 21 = .ok (.return_, 1) := by decide +kernel
theorem bX5_clear_0 (mem : zm_Mem) (post : zm_Post) (kk : zm_Z gX5_clear post 2 [(0, .ref 2), (1, .int 0)] [] mem) : zm_Call gX5_clear [.ref 2] mem post := by
  refine z_entry (by decide) (Nat.le_of_ble_eq_true rfl) ?_
  show zm_Z gX5_clear post 0 [(0, .ref 2)] [] mem
  refine z_iconst (v := 0) dX5_clear_0 zciconst_0 ?_
  refine z_istore_n (lv' := [(1, .int 0), (0, .ref 2)]) dX5_clear_1 rfl (by decide) rfl ?_
  refine z_sub [1, 0] rfl ?_
  exact kk
theorem bX5_clear_2 (x1 : Int32) (mem : zm_Mem) (post : zm_Post) (kk : ((36 ≤ x1 → post 0 0 mem) ∧ (¬ 36 ≤ x1 → (vp_in x1 36 ∧ zm_Z gX5_clear post 2 [(0, .ref 2), (1, .int (x1 + 1))] [] (zm_st mem 3 (Int32.toNatClampNeg x1) 0))))) : zm_Z gX5_clear post 2 [(0, .ref 2), (1, .int x1)] [] mem := by
  refine z_iload_n dX5_clear_2 rfl 1 rfl ?_
  refine z_bipush (v := 36) dX5_clear_3 zcbipush_36 ?_
  refine z_icmp_ge (tgt := 21) dX5_clear_5 (by decide) (fun h1 => ?_) (fun h1 => ?_)
  ·
    exact z_vret rfl dX5_clear_21 (kk.1 h1)
  ·
    refine z_aload_n dX5_clear_8 rfl 0 rfl ?_
    refine z_getr (ci := 5) (j := 1) (r := 3) (T := TX5) rfl rfl hX5 rfl (by decide) fkX5_9 dX5_clear_9 ?_
    refine z_iload_n dX5_clear_12 rfl 1 rfl ?_
    refine z_iconst (v := 0) dX5_clear_13 zciconst_0 ?_
    refine z_iast (n := 36) rfl (kk.2 h1).1 dX5_clear_14 ?_
    refine z_iinc (v := x1 + 1) (lv' := [(1, .int (x1 + 1)), (0, .ref 2)]) dX5_clear_15 1 rfl (by rw [zciconst_1]) (by decide) rfl ?_
    refine z_goto (tgt := 2) dX5_clear_18 (by decide) ?_
    refine z_sub [1, 0] rfl ?_
    exact (kk.2 h1).2
theorem dX5_isHue_0 : decode cX5_isHue 0 = .ok (.iload_n 1, 1) := by decide +kernel
theorem dX5_isHue_1 : decode cX5_isHue 1 = .ok (.ifCond .lt 15, 3) := by decide +kernel
theorem dX5_isHue_4 : decode cX5_isHue 4 = .ok (.iload_n 1, 1) := by decide +kernel
theorem dX5_isHue_5 : decode cX5_isHue 5 = .ok (.aload_n 0, 1) := by decide +kernel
theorem dX5_isHue_6 : decode cX5_isHue 6 = .ok (.getfield 18, 3) := by decide +kernel
theorem dX5_isHue_9 : decode cX5_isHue 9 = .ok (.if_icmp .ge 7, 3) := by decide +kernel
theorem dX5_isHue_12 : decode cX5_isHue 12 = .ok (.iconst 1, 1) := by decide +kernel
theorem dX5_isHue_13 : decode cX5_isHue 13 = .ok (.goto 4, 3) := by decide +kernel
theorem dX5_isHue_16 : decode cX5_isHue 16 = .ok (.iconst 0, 1) := by decide +kernel
theorem dX5_isHue_17 : decode cX5_isHue 17 = .ok (.ireturn, 1) := by decide +kernel
theorem bX5_isHue_0 (x1 : Int32) (mem : zm_Mem) (post : zm_Post) (kk : ((x1 < 0 → post 0 0 mem) ∧ (¬ x1 < 0 → (((mem 2 3) ≤ x1 → post 0 0 mem) ∧ (¬ (mem 2 3) ≤ x1 → post 1 0 mem))))) : zm_Call gX5_isHue [.ref 2, .int x1] mem post := by
  refine z_entry (by decide) (Nat.le_of_ble_eq_true rfl) ?_
  show zm_Z gX5_isHue post 0 [(0, .ref 2), (1, .int x1)] [] mem
  refine z_iload_n dX5_isHue_0 rfl 1 rfl ?_
  refine z_if_lt (tgt := 16) dX5_isHue_1 (by decide) (fun h1 => ?_) (fun h1 => ?_)
  ·
    refine z_iconst (v := 0) dX5_isHue_16 zciconst_0 ?_
    exact z_zret rfl (by decide) dX5_isHue_17 (kk.1 h1)
  ·
    refine z_iload_n dX5_isHue_4 rfl 1 rfl ?_
    refine z_aload_n dX5_isHue_5 rfl 0 rfl ?_
    refine z_geti (ci := 5) (j := 3) (T := TX5) rfl rfl hX5 rfl (by decide) fkX5_18 dX5_isHue_6 ?_
    refine z_icmp_ge (tgt := 16) dX5_isHue_9 (by decide) (fun h2 => ?_) (fun h2 => ?_)
    ·
      refine z_iconst (v := 0) dX5_isHue_16 zciconst_0 ?_
      exact z_zret rfl (by decide) dX5_isHue_17 ((kk.2 h1).1 h2)
    ·
      refine z_iconst (v := 1) dX5_isHue_12 zciconst_1 ?_
      refine z_goto (tgt := 17) dX5_isHue_13 (by decide) ?_
      exact z_zret rfl (by decide) dX5_isHue_17 ((kk.2 h1).2 h2)
theorem dX5_allows_0 : decode cX5_allows 0 = .ok (.aload_n 0, 1) := by decide +kernel
theorem dX5_allows_1 : decode cX5_allows 1 = .ok (.iload_n 1, 1) := by decide +kernel
theorem dX5_allows_2 : decode cX5_allows 2 = .ok (.invokevirtual 26, 3) := by decide +kernel
theorem dX5_allows_5 : decode cX5_allows 5 = .ok (.ifCond .ne 9, 3) := by decide +kernel
theorem dX5_allows_8 : decode cX5_allows 8 = .ok (.iload_n 1, 1) := by decide +kernel
theorem dX5_allows_9 : decode cX5_allows 9 = .ok (.bipush 9, 2) := by decide +kernel
theorem dX5_allows_11 : decode cX5_allows 11 = .ok (.if_icmp .ne 7, 3) := by decide +kernel
theorem dX5_allows_14 : decode cX5_allows 14 = .ok (.iconst 1, 1) := by decide +kernel
theorem dX5_allows_15 : decode cX5_allows 15 = .ok (.goto 4, 3) := by decide +kernel
theorem dX5_allows_18 : decode cX5_allows 18 = .ok (.iconst 0, 1) := by decide +kernel
theorem dX5_allows_19 : decode cX5_allows 19 = .ok (.ireturn, 1) := by decide +kernel
theorem bX5_allows_0 (x1 : Int32) (mem : zm_Mem) (post : zm_Post) (kk : zm_Call gX5_isHue [.ref 2, .int x1] mem (fun r1 w1 u1 => ((¬ r1 = 0 → post 1 0 u1) ∧ (r1 = 0 → ((¬ x1 = 9 → post 0 0 u1) ∧ (x1 = 9 → post 1 0 u1)))))) : zm_Call gX5_allows [.ref 2, .int x1] mem post := by
  refine z_entry (by decide) (Nat.le_of_ble_eq_true rfl) ?_
  show zm_Z gX5_allows post 0 [(0, .ref 2), (1, .int x1)] [] mem
  refine z_aload_n dX5_allows_0 rfl 0 rfl ?_
  refine z_iload_n dX5_allows_1 rfl 1 rfl ?_
  refine z_callVi (g' := gX5_isHue) [.int x1] (q := 2) (ci := 5) (T := TX5) rfl rfl ⟨lkX5_26, pdX5_isHue, by decide, by decide⟩ ⟨_, rfl, by decide⟩ rfl (Nat.le_of_ble_eq_true rfl) dX5_allows_2 (zm_Call.mono kk (fun r1 w1 u1 k1 => ?_))
  refine z_if_ne (tgt := 14) dX5_allows_5 (by decide) (fun h2 => ?_) (fun h2 => ?_)
  ·
    refine z_iconst (v := 1) dX5_allows_14 zciconst_1 ?_
    refine z_goto (tgt := 19) dX5_allows_15 (by decide) ?_
    exact z_zret rfl (by decide) dX5_allows_19 (k1.1 h2)
  ·
    refine z_iload_n dX5_allows_8 rfl 1 rfl ?_
    refine z_bipush (v := 9) dX5_allows_9 zcbipush_9 ?_
    refine z_icmp_ne (tgt := 18) dX5_allows_11 (by decide) (fun h3 => ?_) (fun h3 => ?_)
    ·
      refine z_iconst (v := 0) dX5_allows_18 zciconst_0 ?_
      exact z_zret rfl (by decide) dX5_allows_19 ((k1.2 h2).1 h3)
    ·
      refine z_iconst (v := 1) dX5_allows_14 zciconst_1 ?_
      refine z_goto (tgt := 19) dX5_allows_15 (by decide) ?_
      exact z_zret rfl (by decide) dX5_allows_19 ((k1.2 h2).2 h3)
theorem dX5_allowHues_0 : decode cX5_allowHues 0 = .ok (.aload_n 0, 1) := by decide +kernel
theorem dX5_allowHues_1 : decode cX5_allowHues 1 = .ok (.iload_n 1, 1) := by decide +kernel
theorem dX5_allowHues_2 : decode cX5_allowHues 2 = .ok (.putfield 18, 3) := by decide +kernel
theorem dX5_allowHues_5 : decode cX5_allowHues 5 = .ok (.iconst 0, 1) := by decide +kernel
theorem dX5_allowHues_6 : decode cX5_allowHues 6 = .ok (.istore_n 2, 1) := by decide +kernel
theorem dX5_allowHues_7 : decode cX5_allowHues 7 = .ok (.iload_n 2, 1) := by decide +kernel
theorem dX5_allowHues_8 : decode cX5_allowHues 8 = .ok (.aload_n 0, 1) := by decide +kernel
theorem dX5_allowHues_9 : decode cX5_allowHues 9 = .ok (.getfield 22, 3) := by decide +kernel
theorem dX5_allowHues_12 : decode cX5_allowHues 12 = .ok (.getfield 30, 3) := by decide +kernel
theorem dX5_allowHues_15 : decode cX5_allowHues 15 = .ok (.if_icmp .ge 29, 3) := by decide +kernel
theorem dX5_allowHues_18 : decode cX5_allowHues 18 = .ok (.aload_n 0, 1) := by decide +kernel
theorem dX5_allowHues_19 : decode cX5_allowHues 19 = .ok (.aload_n 0, 1) := by decide +kernel
theorem dX5_allowHues_20 : decode cX5_allowHues 20 = .ok (.getfield 9, 3) := by decide +kernel
theorem dX5_allowHues_23 : decode cX5_allowHues 23 = .ok (.iload_n 2, 1) := by decide +kernel
theorem dX5_allowHues_24 : decode cX5_allowHues 24 = .ok (.iaload, 1) := by decide +kernel
theorem dX5_allowHues_25 : decode cX5_allowHues 25 = .ok (.invokevirtual 35, 3) := by decide +kernel
theorem dX5_allowHues_28 : decode cX5_allowHues 28 = .ok (.ifCond .ne 10, 3) := by decide +kernel
theorem dX5_allowHues_31 : decode cX5_allowHues 31 = .ok (.aload_n 0, 1) := by decide +kernel
theorem dX5_allowHues_32 : decode cX5_allowHues 32 = .ok (.getfield 9, 3) := by decide +kernel
theorem dX5_allowHues_35 : decode cX5_allowHues 35 = .ok (.iload_n 2, 1) := by decide +kernel
theorem dX5_allowHues_36 : decode cX5_allowHues 36 = .ok (.iconst 0, 1) := by decide +kernel
theorem dX5_allowHues_37 : decode cX5_allowHues 37 = .ok (.iastore, 1) := by decide +kernel
theorem dX5_allowHues_38 : decode cX5_allowHues 38 = .ok (.iinc 2 1, 3) := by decide +kernel
theorem dX5_allowHues_41 : decode cX5_allowHues 41 = .ok (.goto (-34), 3) := by decide +kernel
theorem dX5_allowHues_44 : decode cX5_allowHues 44 = .ok (.return_, 1) := by decide +kernel
theorem bX5_allowHues_0 (x1 : Int32) (mem : zm_Mem) (post : zm_Post) (kk : zm_Z gX5_allowHues post 7 [(0, .ref 2), (2, .int 0)] [] (zm_st mem 2 3 x1)) : zm_Call gX5_allowHues [.ref 2, .int x1] mem post := by
  refine z_entry (by decide) (Nat.le_of_ble_eq_true rfl) ?_
  show zm_Z gX5_allowHues post 0 [(0, .ref 2), (1, .int x1)] [] mem
  refine z_aload_n dX5_allowHues_0 rfl 0 rfl ?_
  refine z_iload_n dX5_allowHues_1 rfl 1 rfl ?_
  refine z_put (ci := 5) (j := 3) (T := TX5) (ty0 := tyX5) rfl rfl hX5 tyX5_ok nmX5 rfl (by decide) fkX5_18 rfl rfl rfl dX5_allowHues_2 ?_
  refine z_iconst (v := 0) dX5_allowHues_5 zciconst_0 ?_
  refine z_istore_n (lv' := [(2, .int 0), (0, .ref 2), (1, .int x1)]) dX5_allowHues_6 rfl (by decide) rfl ?_
  refine z_sub [1, 0] rfl ?_
  exact kk
theorem bX5_allowHues_7 (x2 : Int32) (mem : zm_Mem) (post : zm_Post) (kk : (((mem 1 2) ≤ x2 → post 0 0 mem) ∧ (¬ (mem 1 2) ≤ x2 → (vp_in x2 36 ∧ zm_Call gX5_allows [.ref 2, .int (mem 3 (Int32.toNatClampNeg x2))] mem (fun r2 w2 u2 => ((¬ r2 = 0 → zm_Z gX5_allowHues post 7 [(0, .ref 2), (2, .int (x2 + 1))] [] u2) ∧ (r2 = 0 → (vp_in x2 36 ∧ zm_Z gX5_allowHues post 7 [(0, .ref 2), (2, .int (x2 + 1))] [] (zm_st u2 3 (Int32.toNatClampNeg x2) 0))))))))) : zm_Z gX5_allowHues post 7 [(0, .ref 2), (2, .int x2)] [] mem := by
  refine z_iload_n dX5_allowHues_7 rfl 1 rfl ?_
  refine z_aload_n dX5_allowHues_8 rfl 0 rfl ?_
  refine z_getr (ci := 5) (j := 0) (r := 1) (T := TX5) rfl rfl hX5 rfl (by decide) fkX5_22 dX5_allowHues_9 ?_
  refine z_getiN (ci := 1) (j := 2) (T := TX1) rfl rfl hX1 rfl (by decide) fkX5_30 dX5_allowHues_12 ?_
  refine z_icmp_ge (tgt := 44) dX5_allowHues_15 (by decide) (fun h1 => ?_) (fun h1 => ?_)
  ·
    exact z_vret rfl dX5_allowHues_44 (kk.1 h1)
  ·
    refine z_aload_n dX5_allowHues_18 rfl 0 rfl ?_
    refine z_aload_n dX5_allowHues_19 rfl 0 rfl ?_
    refine z_getr (ci := 5) (j := 1) (r := 3) (T := TX5) rfl rfl hX5 rfl (by decide) fkX5_9 dX5_allowHues_20 ?_
    refine z_iload_n dX5_allowHues_23 rfl 1 rfl ?_
    refine z_iald (n := 36) rfl (kk.2 h1).1 dX5_allowHues_24 ?_
    refine z_callVi (g' := gX5_allows) [.int (mem 3 (Int32.toNatClampNeg x2))] (q := 2) (ci := 5) (T := TX5) rfl rfl ⟨lkX5_35, pdX5_allows, by decide, by decide⟩ ⟨_, rfl, by decide⟩ rfl (Nat.le_of_ble_eq_true rfl) dX5_allowHues_25 (zm_Call.mono (kk.2 h1).2 (fun r2 w2 u2 k2 => ?_))
    refine z_if_ne (tgt := 38) dX5_allowHues_28 (by decide) (fun h3 => ?_) (fun h3 => ?_)
    ·
      refine z_iinc (v := x2 + 1) (lv' := [(2, .int (x2 + 1)), (0, .ref 2)]) dX5_allowHues_38 1 rfl (by rw [zciconst_1]) (by decide) rfl ?_
      refine z_goto (tgt := 7) dX5_allowHues_41 (by decide) ?_
      refine z_sub [1, 0] rfl ?_
      exact (k2.1 h3)
    ·
      refine z_aload_n dX5_allowHues_31 rfl 0 rfl ?_
      refine z_getr (ci := 5) (j := 1) (r := 3) (T := TX5) rfl rfl hX5 rfl (by decide) fkX5_9 dX5_allowHues_32 ?_
      refine z_iload_n dX5_allowHues_35 rfl 1 rfl ?_
      refine z_iconst (v := 0) dX5_allowHues_36 zciconst_0 ?_
      refine z_iast (n := 36) rfl (k2.2 h3).1 dX5_allowHues_37 ?_
      refine z_iinc (v := x2 + 1) (lv' := [(2, .int (x2 + 1)), (0, .ref 2)]) dX5_allowHues_38 1 rfl (by rw [zciconst_1]) (by decide) rfl ?_
      refine z_goto (tgt := 7) dX5_allowHues_41 (by decide) ?_
      refine z_sub [1, 0] rfl ?_
      exact (k2.2 h3).2
theorem dX5_allowsFigures_0 : decode cX5_allowsFigures 0 = .ok (.iload_n 2, 1) := by decide +kernel
theorem dX5_allowsFigures_1 : decode cX5_allowsFigures 1 = .ok (.ifCond .ge 5, 3) := by decide +kernel
theorem dX5_allowsFigures_4 : decode cX5_allowsFigures 4 = .ok (.iconst 0, 1) := by decide +kernel
theorem dX5_allowsFigures_5 : decode cX5_allowsFigures 5 = .ok (.ireturn, 1) := by decide +kernel
theorem dX5_allowsFigures_6 : decode cX5_allowsFigures 6 = .ok (.iload_n 2, 1) := by decide +kernel
theorem dX5_allowsFigures_7 : decode cX5_allowsFigures 7 = .ok (.istore_n 3, 1) := by decide +kernel
theorem dX5_allowsFigures_8 : decode cX5_allowsFigures 8 = .ok (.iconst 0, 1) := by decide +kernel
theorem dX5_allowsFigures_9 : decode cX5_allowsFigures 9 = .ok (.istore 4, 2) := by decide +kernel
theorem dX5_allowsFigures_11 : decode cX5_allowsFigures 11 = .ok (.iload 4, 2) := by decide +kernel
theorem dX5_allowsFigures_13 : decode cX5_allowsFigures 13 = .ok (.iload_n 1, 1) := by decide +kernel
theorem dX5_allowsFigures_14 : decode cX5_allowsFigures 14 = .ok (.if_icmp .ge 27, 3) := by decide +kernel
theorem dX5_allowsFigures_17 : decode cX5_allowsFigures 17 = .ok (.aload_n 0, 1) := by decide +kernel
theorem dX5_allowsFigures_18 : decode cX5_allowsFigures 18 = .ok (.iload_n 3, 1) := by decide +kernel
theorem dX5_allowsFigures_19 : decode cX5_allowsFigures 19 = .ok (.bipush 10, 2) := by decide +kernel
theorem dX5_allowsFigures_21 : decode cX5_allowsFigures 21 = .ok (.irem, 1) := by decide +kernel
theorem dX5_allowsFigures_22 : decode cX5_allowsFigures 22 = .ok (.invokevirtual 35, 3) := by decide +kernel
theorem dX5_allowsFigures_25 : decode cX5_allowsFigures 25 = .ok (.ifCond .ne 5, 3) := by decide +kernel
theorem dX5_allowsFigures_28 : decode cX5_allowsFigures 28 = .ok (.iconst 0, 1) := by decide +kernel
theorem dX5_allowsFigures_29 : decode cX5_allowsFigures 29 = .ok (.ireturn, 1) := by decide +kernel
theorem dX5_allowsFigures_30 : decode cX5_allowsFigures 30 = .ok (.iload_n 3, 1) := by decide +kernel
theorem dX5_allowsFigures_31 : decode cX5_allowsFigures 31 = .ok (.bipush 10, 2) := by decide +kernel
theorem dX5_allowsFigures_33 : decode cX5_allowsFigures 33 = .ok (.idiv, 1) := by decide +kernel
theorem dX5_allowsFigures_34 : decode cX5_allowsFigures 34 = .ok (.istore_n 3, 1) := by decide +kernel
theorem dX5_allowsFigures_35 : decode cX5_allowsFigures 35 = .ok (.iinc 4 1, 3) := by decide +kernel
theorem dX5_allowsFigures_38 : decode cX5_allowsFigures 38 = .ok (.goto (-27), 3) := by decide +kernel
theorem dX5_allowsFigures_41 : decode cX5_allowsFigures 41 = .ok (.iload_n 3, 1) := by decide +kernel
theorem dX5_allowsFigures_42 : decode cX5_allowsFigures 42 = .ok (.ifCond .ne 7, 3) := by decide +kernel
theorem dX5_allowsFigures_45 : decode cX5_allowsFigures 45 = .ok (.iconst 1, 1) := by decide +kernel
theorem dX5_allowsFigures_46 : decode cX5_allowsFigures 46 = .ok (.goto 4, 3) := by decide +kernel
theorem dX5_allowsFigures_49 : decode cX5_allowsFigures 49 = .ok (.iconst 0, 1) := by decide +kernel
theorem dX5_allowsFigures_50 : decode cX5_allowsFigures 50 = .ok (.ireturn, 1) := by decide +kernel
theorem bX5_allowsFigures_0 (x1 : Int32) (x2 : Int32) (mem : zm_Mem) (post : zm_Post) (kk : ((0 ≤ x2 → zm_Z gX5_allowsFigures post 11 [(0, .ref 2), (1, .int x1), (3, .int x2), (4, .int 0)] [] mem) ∧ (¬ 0 ≤ x2 → post 0 0 mem))) : zm_Call gX5_allowsFigures [.ref 2, .int x1, .int x2] mem post := by
  refine z_entry (by decide) (Nat.le_of_ble_eq_true rfl) ?_
  show zm_Z gX5_allowsFigures post 0 [(0, .ref 2), (1, .int x1), (2, .int x2)] [] mem
  refine z_iload_n dX5_allowsFigures_0 rfl 2 rfl ?_
  refine z_if_ge (tgt := 6) dX5_allowsFigures_1 (by decide) (fun h1 => ?_) (fun h1 => ?_)
  ·
    refine z_iload_n dX5_allowsFigures_6 rfl 2 rfl ?_
    refine z_istore_n (lv' := [(3, .int x2), (0, .ref 2), (1, .int x1), (2, .int x2)]) dX5_allowsFigures_7 rfl (by decide) rfl ?_
    refine z_iconst (v := 0) dX5_allowsFigures_8 zciconst_0 ?_
    refine z_istore (lv' := [(4, .int 0), (3, .int x2), (0, .ref 2), (1, .int x1), (2, .int x2)]) dX5_allowsFigures_9 (by decide) rfl ?_
    refine z_sub [2, 3, 1, 0] rfl ?_
    exact (kk.1 h1)
  ·
    refine z_iconst (v := 0) dX5_allowsFigures_4 zciconst_0 ?_
    exact z_zret rfl (by decide) dX5_allowsFigures_5 (kk.2 h1)
theorem bX5_allowsFigures_11 (x1 : Int32) (x3 : Int32) (x4 : Int32) (mem : zm_Mem) (post : zm_Post) (kk : ((x1 ≤ x4 → ((¬ x3 = 0 → post 0 0 mem) ∧ (x3 = 0 → post 1 0 mem))) ∧ (¬ x1 ≤ x4 → zm_Call gX5_allows [.ref 2, .int (x3 - x3 / 10 * 10)] mem (fun r3 w3 u3 => ((¬ r3 = 0 → zm_Z gX5_allowsFigures post 11 [(0, .ref 2), (1, .int x1), (3, .int (x3 / 10)), (4, .int (x4 + 1))] [] u3) ∧ (r3 = 0 → post 0 0 u3)))))) : zm_Z gX5_allowsFigures post 11 [(0, .ref 2), (1, .int x1), (3, .int x3), (4, .int x4)] [] mem := by
  refine z_iload dX5_allowsFigures_11 3 rfl ?_
  refine z_iload_n dX5_allowsFigures_13 rfl 1 rfl ?_
  refine z_icmp_ge (tgt := 41) dX5_allowsFigures_14 (by decide) (fun h1 => ?_) (fun h1 => ?_)
  ·
    refine z_iload_n dX5_allowsFigures_41 rfl 2 rfl ?_
    refine z_if_ne (tgt := 49) dX5_allowsFigures_42 (by decide) (fun h2 => ?_) (fun h2 => ?_)
    ·
      refine z_iconst (v := 0) dX5_allowsFigures_49 zciconst_0 ?_
      exact z_zret rfl (by decide) dX5_allowsFigures_50 ((kk.1 h1).1 h2)
    ·
      refine z_iconst (v := 1) dX5_allowsFigures_45 zciconst_1 ?_
      refine z_goto (tgt := 50) dX5_allowsFigures_46 (by decide) ?_
      exact z_zret rfl (by decide) dX5_allowsFigures_50 ((kk.1 h1).2 h2)
  ·
    refine z_aload_n dX5_allowsFigures_17 rfl 0 rfl ?_
    refine z_iload_n dX5_allowsFigures_18 rfl 2 rfl ?_
    refine z_bipush (v := 10) dX5_allowsFigures_19 zcbipush_10 ?_
    refine z_irem dX5_allowsFigures_21 (by decide) ?_
    refine z_callVi (g' := gX5_allows) [.int (x3 - x3 / 10 * 10)] (q := 2) (ci := 5) (T := TX5) rfl rfl ⟨lkX5_35, pdX5_allows, by decide, by decide⟩ ⟨_, rfl, by decide⟩ rfl (Nat.le_of_ble_eq_true rfl) dX5_allowsFigures_22 (zm_Call.mono (kk.2 h1) (fun r3 w3 u3 k3 => ?_))
    refine z_if_ne (tgt := 30) dX5_allowsFigures_25 (by decide) (fun h4 => ?_) (fun h4 => ?_)
    ·
      refine z_iload_n dX5_allowsFigures_30 rfl 2 rfl ?_
      refine z_bipush (v := 10) dX5_allowsFigures_31 zcbipush_10 ?_
      refine z_idiv dX5_allowsFigures_33 (by decide) ?_
      refine z_istore_n (lv' := [(3, .int (x3 / 10)), (0, .ref 2), (1, .int x1), (4, .int x4)]) dX5_allowsFigures_34 rfl (by decide) rfl ?_
      refine z_iinc (v := x4 + 1) (lv' := [(4, .int (x4 + 1)), (3, .int (x3 / 10)), (0, .ref 2), (1, .int x1)]) dX5_allowsFigures_35 3 rfl (by rw [zciconst_1]) (by decide) rfl ?_
      refine z_goto (tgt := 11) dX5_allowsFigures_38 (by decide) ?_
      refine z_sub [2, 3, 1, 0] rfl ?_
      exact (k3.1 h4)
    ·
      refine z_iconst (v := 0) dX5_allowsFigures_28 zciconst_0 ?_
      exact z_zret rfl (by decide) dX5_allowsFigures_29 (k3.2 h4)
theorem dX5_dyeFigures_0 : decode cX5_dyeFigures 0 = .ok (.iconst 0, 1) := by decide +kernel
theorem dX5_dyeFigures_1 : decode cX5_dyeFigures 1 = .ok (.istore 4, 2) := by decide +kernel
theorem dX5_dyeFigures_3 : decode cX5_dyeFigures 3 = .ok (.iload_n 3, 1) := by decide +kernel
theorem dX5_dyeFigures_4 : decode cX5_dyeFigures 4 = .ok (.istore 5, 2) := by decide +kernel
theorem dX5_dyeFigures_6 : decode cX5_dyeFigures 6 = .ok (.iload_n 1, 1) := by decide +kernel
theorem dX5_dyeFigures_7 : decode cX5_dyeFigures 7 = .ok (.iload_n 2, 1) := by decide +kernel
theorem dX5_dyeFigures_8 : decode cX5_dyeFigures 8 = .ok (.iadd, 1) := by decide +kernel
theorem dX5_dyeFigures_9 : decode cX5_dyeFigures 9 = .ok (.iconst 1, 1) := by decide +kernel
theorem dX5_dyeFigures_10 : decode cX5_dyeFigures 10 = .ok (.isub, 1) := by decide +kernel
theorem dX5_dyeFigures_11 : decode cX5_dyeFigures 11 = .ok (.istore 6, 2) := by decide +kernel
theorem dX5_dyeFigures_13 : decode cX5_dyeFigures 13 = .ok (.iload 6, 2) := by decide +kernel
theorem dX5_dyeFigures_15 : decode cX5_dyeFigures 15 = .ok (.iload_n 1, 1) := by decide +kernel
theorem dX5_dyeFigures_16 : decode cX5_dyeFigures 16 = .ok (.if_icmp .lt 46, 3) := by decide +kernel
theorem dX5_dyeFigures_19 : decode cX5_dyeFigures 19 = .ok (.aload_n 0, 1) := by decide +kernel
theorem dX5_dyeFigures_20 : decode cX5_dyeFigures 20 = .ok (.getfield 9, 3) := by decide +kernel
theorem dX5_dyeFigures_23 : decode cX5_dyeFigures 23 = .ok (.iload 6, 2) := by decide +kernel
theorem dX5_dyeFigures_25 : decode cX5_dyeFigures 25 = .ok (.iaload, 1) := by decide +kernel
theorem dX5_dyeFigures_26 : decode cX5_dyeFigures 26 = .ok (.iload 5, 2) := by decide +kernel
theorem dX5_dyeFigures_28 : decode cX5_dyeFigures 28 = .ok (.bipush 10, 2) := by decide +kernel
theorem dX5_dyeFigures_30 : decode cX5_dyeFigures 30 = .ok (.irem, 1) := by decide +kernel
theorem dX5_dyeFigures_31 : decode cX5_dyeFigures 31 = .ok (.if_icmp .eq 6, 3) := by decide +kernel
theorem dX5_dyeFigures_34 : decode cX5_dyeFigures 34 = .ok (.iinc 4 1, 3) := by decide +kernel
theorem dX5_dyeFigures_37 : decode cX5_dyeFigures 37 = .ok (.aload_n 0, 1) := by decide +kernel
theorem dX5_dyeFigures_38 : decode cX5_dyeFigures 38 = .ok (.getfield 9, 3) := by decide +kernel
theorem dX5_dyeFigures_41 : decode cX5_dyeFigures 41 = .ok (.iload 6, 2) := by decide +kernel
theorem dX5_dyeFigures_43 : decode cX5_dyeFigures 43 = .ok (.iload 5, 2) := by decide +kernel
theorem dX5_dyeFigures_45 : decode cX5_dyeFigures 45 = .ok (.bipush 10, 2) := by decide +kernel
theorem dX5_dyeFigures_47 : decode cX5_dyeFigures 47 = .ok (.irem, 1) := by decide +kernel
theorem dX5_dyeFigures_48 : decode cX5_dyeFigures 48 = .ok (.iastore, 1) := by decide +kernel
theorem dX5_dyeFigures_49 : decode cX5_dyeFigures 49 = .ok (.iload 5, 2) := by decide +kernel
theorem dX5_dyeFigures_51 : decode cX5_dyeFigures 51 = .ok (.bipush 10, 2) := by decide +kernel
theorem dX5_dyeFigures_53 : decode cX5_dyeFigures 53 = .ok (.idiv, 1) := by decide +kernel
theorem dX5_dyeFigures_54 : decode cX5_dyeFigures 54 = .ok (.istore 5, 2) := by decide +kernel
theorem dX5_dyeFigures_56 : decode cX5_dyeFigures 56 = .ok (.iinc 6 (-1), 3) := by decide +kernel
theorem dX5_dyeFigures_59 : decode cX5_dyeFigures 59 = .ok (.goto (-46), 3) := by decide +kernel
theorem dX5_dyeFigures_62 : decode cX5_dyeFigures 62 = .ok (.iload 4, 2) := by decide +kernel
theorem dX5_dyeFigures_64 : decode cX5_dyeFigures 64 = .ok (.ireturn, 1) := by decide +kernel
theorem bX5_dyeFigures_0 (x1 : Int32) (x2 : Int32) (x3 : Int32) (mem : zm_Mem) (post : zm_Post) (kk : zm_Z gX5_dyeFigures post 13 [(0, .ref 2), (1, .int x1), (4, .int 0), (5, .int x3), (6, .int ((x1 + x2) - 1))] [] mem) : zm_Call gX5_dyeFigures [.ref 2, .int x1, .int x2, .int x3] mem post := by
  refine z_entry (by decide) (Nat.le_of_ble_eq_true rfl) ?_
  show zm_Z gX5_dyeFigures post 0 [(0, .ref 2), (1, .int x1), (2, .int x2), (3, .int x3)] [] mem
  refine z_iconst (v := 0) dX5_dyeFigures_0 zciconst_0 ?_
  refine z_istore (lv' := [(4, .int 0), (0, .ref 2), (1, .int x1), (2, .int x2), (3, .int x3)]) dX5_dyeFigures_1 (by decide) rfl ?_
  refine z_iload_n dX5_dyeFigures_3 rfl 4 rfl ?_
  refine z_istore (lv' := [(5, .int x3), (4, .int 0), (0, .ref 2), (1, .int x1), (2, .int x2), (3, .int x3)]) dX5_dyeFigures_4 (by decide) rfl ?_
  refine z_iload_n dX5_dyeFigures_6 rfl 3 rfl ?_
  refine z_iload_n dX5_dyeFigures_7 rfl 4 rfl ?_
  refine z_iadd dX5_dyeFigures_8 ?_
  refine z_iconst (v := 1) dX5_dyeFigures_9 zciconst_1 ?_
  refine z_isub dX5_dyeFigures_10 ?_
  refine z_istore (lv' := [(6, .int ((x1 + x2) - 1)), (5, .int x3), (4, .int 0), (0, .ref 2), (1, .int x1), (2, .int x2), (3, .int x3)]) dX5_dyeFigures_11 (by decide) rfl ?_
  refine z_sub [3, 4, 2, 1, 0] rfl ?_
  exact kk
theorem bX5_dyeFigures_13 (x1 : Int32) (x4 : Int32) (x5 : Int32) (x6 : Int32) (mem : zm_Mem) (post : zm_Post) (kk : ((x6 < x1 → post x4 0 mem) ∧ (¬ x6 < x1 → (vp_in x6 36 ∧ (((mem 3 (Int32.toNatClampNeg x6)) = (x5 - x5 / 10 * 10) → zm_Z gX5_dyeFigures post 37 [(0, .ref 2), (1, .int x1), (4, .int x4), (5, .int x5), (6, .int x6)] [] mem) ∧ (¬ (mem 3 (Int32.toNatClampNeg x6)) = (x5 - x5 / 10 * 10) → zm_Z gX5_dyeFigures post 37 [(0, .ref 2), (1, .int x1), (4, .int (x4 + 1)), (5, .int x5), (6, .int x6)] [] mem)))))) : zm_Z gX5_dyeFigures post 13 [(0, .ref 2), (1, .int x1), (4, .int x4), (5, .int x5), (6, .int x6)] [] mem := by
  refine z_iload dX5_dyeFigures_13 4 rfl ?_
  refine z_iload_n dX5_dyeFigures_15 rfl 1 rfl ?_
  refine z_icmp_lt (tgt := 62) dX5_dyeFigures_16 (by decide) (fun h1 => ?_) (fun h1 => ?_)
  ·
    refine z_iload dX5_dyeFigures_62 2 rfl ?_
    exact z_iret rfl dX5_dyeFigures_64 (kk.1 h1)
  ·
    refine z_aload_n dX5_dyeFigures_19 rfl 0 rfl ?_
    refine z_getr (ci := 5) (j := 1) (r := 3) (T := TX5) rfl rfl hX5 rfl (by decide) fkX5_9 dX5_dyeFigures_20 ?_
    refine z_iload dX5_dyeFigures_23 4 rfl ?_
    refine z_iald (n := 36) rfl (kk.2 h1).1 dX5_dyeFigures_25 ?_
    refine z_iload dX5_dyeFigures_26 3 rfl ?_
    refine z_bipush (v := 10) dX5_dyeFigures_28 zcbipush_10 ?_
    refine z_irem dX5_dyeFigures_30 (by decide) ?_
    refine z_icmp_eq (tgt := 37) dX5_dyeFigures_31 (by decide) (fun h2 => ?_) (fun h2 => ?_)
    ·
      exact ((kk.2 h1).2.1 h2)
    ·
      refine z_iinc (v := x4 + 1) (lv' := [(4, .int (x4 + 1)), (0, .ref 2), (1, .int x1), (5, .int x5), (6, .int x6)]) dX5_dyeFigures_34 2 rfl (by rw [zciconst_1]) (by decide) rfl ?_
      refine z_sub [1, 2, 0, 3, 4] rfl ?_
      exact ((kk.2 h1).2.2 h2)
theorem bX5_dyeFigures_37 (x1 : Int32) (x4 : Int32) (x5 : Int32) (x6 : Int32) (mem : zm_Mem) (post : zm_Post) (kk : (vp_in x6 36 ∧ zm_Z gX5_dyeFigures post 13 [(0, .ref 2), (1, .int x1), (4, .int x4), (5, .int (x5 / 10)), (6, .int (x6 + (-1)))] [] (zm_st mem 3 (Int32.toNatClampNeg x6) (x5 - x5 / 10 * 10)))) : zm_Z gX5_dyeFigures post 37 [(0, .ref 2), (1, .int x1), (4, .int x4), (5, .int x5), (6, .int x6)] [] mem := by
  refine z_aload_n dX5_dyeFigures_37 rfl 0 rfl ?_
  refine z_getr (ci := 5) (j := 1) (r := 3) (T := TX5) rfl rfl hX5 rfl (by decide) fkX5_9 dX5_dyeFigures_38 ?_
  refine z_iload dX5_dyeFigures_41 4 rfl ?_
  refine z_iload dX5_dyeFigures_43 3 rfl ?_
  refine z_bipush (v := 10) dX5_dyeFigures_45 zcbipush_10 ?_
  refine z_irem dX5_dyeFigures_47 (by decide) ?_
  refine z_iast (n := 36) rfl kk.1 dX5_dyeFigures_48 ?_
  refine z_iload dX5_dyeFigures_49 3 rfl ?_
  refine z_bipush (v := 10) dX5_dyeFigures_51 zcbipush_10 ?_
  refine z_idiv dX5_dyeFigures_53 (by decide) ?_
  refine z_istore (lv' := [(5, .int (x5 / 10)), (0, .ref 2), (1, .int x1), (4, .int x4), (6, .int x6)]) dX5_dyeFigures_54 (by decide) rfl ?_
  refine z_iinc (v := x6 + (-1)) (lv' := [(6, .int (x6 + (-1))), (5, .int (x5 / 10)), (0, .ref 2), (1, .int x1), (4, .int x4)]) dX5_dyeFigures_56 4 rfl (by rw [zciconst_m1]) (by decide) rfl ?_
  refine z_goto (tgt := 13) dX5_dyeFigures_59 (by decide) ?_
  refine z_sub [2, 3, 4, 1, 0] rfl ?_
  exact kk.2
theorem dX5_hiddenCount_0 : decode cX5_hiddenCount 0 = .ok (.iconst 0, 1) := by decide +kernel
theorem dX5_hiddenCount_1 : decode cX5_hiddenCount 1 = .ok (.istore_n 1, 1) := by decide +kernel
theorem dX5_hiddenCount_2 : decode cX5_hiddenCount 2 = .ok (.iconst 0, 1) := by decide +kernel
theorem dX5_hiddenCount_3 : decode cX5_hiddenCount 3 = .ok (.istore_n 2, 1) := by decide +kernel
theorem dX5_hiddenCount_4 : decode cX5_hiddenCount 4 = .ok (.iload_n 2, 1) := by decide +kernel
theorem dX5_hiddenCount_5 : decode cX5_hiddenCount 5 = .ok (.aload_n 0, 1) := by decide +kernel
theorem dX5_hiddenCount_6 : decode cX5_hiddenCount 6 = .ok (.getfield 22, 3) := by decide +kernel
theorem dX5_hiddenCount_9 : decode cX5_hiddenCount 9 = .ok (.getfield 30, 3) := by decide +kernel
theorem dX5_hiddenCount_12 : decode cX5_hiddenCount 12 = .ok (.if_icmp .ge 23, 3) := by decide +kernel
theorem dX5_hiddenCount_15 : decode cX5_hiddenCount 15 = .ok (.aload_n 0, 1) := by decide +kernel
theorem dX5_hiddenCount_16 : decode cX5_hiddenCount 16 = .ok (.getfield 9, 3) := by decide +kernel
theorem dX5_hiddenCount_19 : decode cX5_hiddenCount 19 = .ok (.iload_n 2, 1) := by decide +kernel
theorem dX5_hiddenCount_20 : decode cX5_hiddenCount 20 = .ok (.iaload, 1) := by decide +kernel
theorem dX5_hiddenCount_21 : decode cX5_hiddenCount 21 = .ok (.bipush 9, 2) := by decide +kernel
theorem dX5_hiddenCount_23 : decode cX5_hiddenCount 23 = .ok (.if_icmp .ne 6, 3) := by decide +kernel
theorem dX5_hiddenCount_26 : decode cX5_hiddenCount 26 = .ok (.iinc 1 1, 3) := by decide +kernel
theorem dX5_hiddenCount_29 : decode cX5_hiddenCount 29 = .ok (.iinc 2 1, 3) := by decide +kernel
theorem dX5_hiddenCount_32 : decode cX5_hiddenCount 32 = .ok (.goto (-28), 3) := by decide +kernel
theorem dX5_hiddenCount_35 : decode cX5_hiddenCount 35 = .ok (.iload_n 1, 1) := by decide +kernel
theorem dX5_hiddenCount_36 : decode cX5_hiddenCount 36 = .ok (.ireturn, 1) := by decide +kernel
theorem bX5_hiddenCount_0 (mem : zm_Mem) (post : zm_Post) (kk : zm_Z gX5_hiddenCount post 4 [(0, .ref 2), (1, .int 0), (2, .int 0)] [] mem) : zm_Call gX5_hiddenCount [.ref 2] mem post := by
  refine z_entry (by decide) (Nat.le_of_ble_eq_true rfl) ?_
  show zm_Z gX5_hiddenCount post 0 [(0, .ref 2)] [] mem
  refine z_iconst (v := 0) dX5_hiddenCount_0 zciconst_0 ?_
  refine z_istore_n (lv' := [(1, .int 0), (0, .ref 2)]) dX5_hiddenCount_1 rfl (by decide) rfl ?_
  refine z_iconst (v := 0) dX5_hiddenCount_2 zciconst_0 ?_
  refine z_istore_n (lv' := [(2, .int 0), (1, .int 0), (0, .ref 2)]) dX5_hiddenCount_3 rfl (by decide) rfl ?_
  refine z_sub [2, 1, 0] rfl ?_
  exact kk
theorem bX5_hiddenCount_4 (x1 : Int32) (x2 : Int32) (mem : zm_Mem) (post : zm_Post) (kk : (((mem 1 2) ≤ x2 → post x1 0 mem) ∧ (¬ (mem 1 2) ≤ x2 → (vp_in x2 36 ∧ ((¬ (mem 3 (Int32.toNatClampNeg x2)) = 9 → zm_Z gX5_hiddenCount post 4 [(0, .ref 2), (1, .int x1), (2, .int (x2 + 1))] [] mem) ∧ ((mem 3 (Int32.toNatClampNeg x2)) = 9 → zm_Z gX5_hiddenCount post 4 [(0, .ref 2), (1, .int (x1 + 1)), (2, .int (x2 + 1))] [] mem)))))) : zm_Z gX5_hiddenCount post 4 [(0, .ref 2), (1, .int x1), (2, .int x2)] [] mem := by
  refine z_iload_n dX5_hiddenCount_4 rfl 2 rfl ?_
  refine z_aload_n dX5_hiddenCount_5 rfl 0 rfl ?_
  refine z_getr (ci := 5) (j := 0) (r := 1) (T := TX5) rfl rfl hX5 rfl (by decide) fkX5_22 dX5_hiddenCount_6 ?_
  refine z_getiN (ci := 1) (j := 2) (T := TX1) rfl rfl hX1 rfl (by decide) fkX5_30 dX5_hiddenCount_9 ?_
  refine z_icmp_ge (tgt := 35) dX5_hiddenCount_12 (by decide) (fun h1 => ?_) (fun h1 => ?_)
  ·
    refine z_iload_n dX5_hiddenCount_35 rfl 1 rfl ?_
    exact z_iret rfl dX5_hiddenCount_36 (kk.1 h1)
  ·
    refine z_aload_n dX5_hiddenCount_15 rfl 0 rfl ?_
    refine z_getr (ci := 5) (j := 1) (r := 3) (T := TX5) rfl rfl hX5 rfl (by decide) fkX5_9 dX5_hiddenCount_16 ?_
    refine z_iload_n dX5_hiddenCount_19 rfl 2 rfl ?_
    refine z_iald (n := 36) rfl (kk.2 h1).1 dX5_hiddenCount_20 ?_
    refine z_bipush (v := 9) dX5_hiddenCount_21 zcbipush_9 ?_
    refine z_icmp_ne (tgt := 29) dX5_hiddenCount_23 (by decide) (fun h2 => ?_) (fun h2 => ?_)
    ·
      refine z_iinc (v := x2 + 1) (lv' := [(2, .int (x2 + 1)), (0, .ref 2), (1, .int x1)]) dX5_hiddenCount_29 2 rfl (by rw [zciconst_1]) (by decide) rfl ?_
      refine z_goto (tgt := 4) dX5_hiddenCount_32 (by decide) ?_
      refine z_sub [1, 2, 0] rfl ?_
      exact ((kk.2 h1).2.1 h2)
    ·
      refine z_iinc (v := x1 + 1) (lv' := [(1, .int (x1 + 1)), (0, .ref 2), (2, .int x2)]) dX5_hiddenCount_26 1 rfl (by rw [zciconst_1]) (by decide) rfl ?_
      refine z_iinc (v := x2 + 1) (lv' := [(2, .int (x2 + 1)), (1, .int (x1 + 1)), (0, .ref 2)]) dX5_hiddenCount_29 2 rfl (by rw [zciconst_1]) (by decide) rfl ?_
      refine z_goto (tgt := 4) dX5_hiddenCount_32 (by decide) ?_
      refine z_sub [2, 1, 0] rfl ?_
      exact ((kk.2 h1).2.2 h2)
theorem dX5_usedHues_0 : decode cX5_usedHues 0 = .ok (.iconst 0, 1) := by decide +kernel
theorem dX5_usedHues_1 : decode cX5_usedHues 1 = .ok (.istore_n 1, 1) := by decide +kernel
theorem dX5_usedHues_2 : decode cX5_usedHues 2 = .ok (.iconst 0, 1) := by decide +kernel
theorem dX5_usedHues_3 : decode cX5_usedHues 3 = .ok (.istore_n 2, 1) := by decide +kernel
theorem dX5_usedHues_4 : decode cX5_usedHues 4 = .ok (.iload_n 2, 1) := by decide +kernel
theorem dX5_usedHues_5 : decode cX5_usedHues 5 = .ok (.aload_n 0, 1) := by decide +kernel
theorem dX5_usedHues_6 : decode cX5_usedHues 6 = .ok (.getfield 22, 3) := by decide +kernel
theorem dX5_usedHues_9 : decode cX5_usedHues 9 = .ok (.getfield 30, 3) := by decide +kernel
theorem dX5_usedHues_12 : decode cX5_usedHues 12 = .ok (.if_icmp .ge 31, 3) := by decide +kernel
theorem dX5_usedHues_15 : decode cX5_usedHues 15 = .ok (.aload_n 0, 1) := by decide +kernel
theorem dX5_usedHues_16 : decode cX5_usedHues 16 = .ok (.getfield 9, 3) := by decide +kernel
theorem dX5_usedHues_19 : decode cX5_usedHues 19 = .ok (.iload_n 2, 1) := by decide +kernel
theorem dX5_usedHues_20 : decode cX5_usedHues 20 = .ok (.iaload, 1) := by decide +kernel
theorem dX5_usedHues_21 : decode cX5_usedHues 21 = .ok (.bipush 9, 2) := by decide +kernel
theorem dX5_usedHues_23 : decode cX5_usedHues 23 = .ok (.if_icmp .eq 14, 3) := by decide +kernel
theorem dX5_usedHues_26 : decode cX5_usedHues 26 = .ok (.iload_n 1, 1) := by decide +kernel
theorem dX5_usedHues_27 : decode cX5_usedHues 27 = .ok (.iconst 1, 1) := by decide +kernel
theorem dX5_usedHues_28 : decode cX5_usedHues 28 = .ok (.aload_n 0, 1) := by decide +kernel
theorem dX5_usedHues_29 : decode cX5_usedHues 29 = .ok (.getfield 9, 3) := by decide +kernel
theorem dX5_usedHues_32 : decode cX5_usedHues 32 = .ok (.iload_n 2, 1) := by decide +kernel
theorem dX5_usedHues_33 : decode cX5_usedHues 33 = .ok (.iaload, 1) := by decide +kernel
theorem dX5_usedHues_34 : decode cX5_usedHues 34 = .ok (.ishl, 1) := by decide +kernel
theorem dX5_usedHues_35 : decode cX5_usedHues 35 = .ok (.ior, 1) := by decide +kernel
theorem dX5_usedHues_36 : decode cX5_usedHues 36 = .ok (.istore_n 1, 1) := by decide +kernel
theorem dX5_usedHues_37 : decode cX5_usedHues 37 = .ok (.iinc 2 1, 3) := by decide +kernel
theorem dX5_usedHues_40 : decode cX5_usedHues 40 = .ok (.goto (-36), 3) := by decide +kernel
theorem dX5_usedHues_43 : decode cX5_usedHues 43 = .ok (.iload_n 1, 1) := by decide +kernel
theorem dX5_usedHues_44 : decode cX5_usedHues 44 = .ok (.invokestatic 38, 3) := by decide +kernel
theorem dX5_usedHues_47 : decode cX5_usedHues 47 = .ok (.ireturn, 1) := by decide +kernel
theorem bX5_usedHues_0 (mem : zm_Mem) (post : zm_Post) (kk : zm_Z gX5_usedHues post 4 [(0, .ref 2), (1, .int 0), (2, .int 0)] [] mem) : zm_Call gX5_usedHues [.ref 2] mem post := by
  refine z_entry (by decide) (Nat.le_of_ble_eq_true rfl) ?_
  show zm_Z gX5_usedHues post 0 [(0, .ref 2)] [] mem
  refine z_iconst (v := 0) dX5_usedHues_0 zciconst_0 ?_
  refine z_istore_n (lv' := [(1, .int 0), (0, .ref 2)]) dX5_usedHues_1 rfl (by decide) rfl ?_
  refine z_iconst (v := 0) dX5_usedHues_2 zciconst_0 ?_
  refine z_istore_n (lv' := [(2, .int 0), (1, .int 0), (0, .ref 2)]) dX5_usedHues_3 rfl (by decide) rfl ?_
  refine z_sub [2, 1, 0] rfl ?_
  exact kk
theorem bX5_usedHues_4 (x1 : Int32) (x2 : Int32) (mem : zm_Mem) (post : zm_Post) (kk : (((mem 1 2) ≤ x2 → zm_Call gJ6_bitCount_0f7a4 [.int x1] mem (fun r2 w2 u2 => post r2 0 u2)) ∧ (¬ (mem 1 2) ≤ x2 → (vp_in x2 36 ∧ (((mem 3 (Int32.toNatClampNeg x2)) = 9 → zm_Z gX5_usedHues post 4 [(0, .ref 2), (1, .int x1), (2, .int (x2 + 1))] [] mem) ∧ (¬ (mem 3 (Int32.toNatClampNeg x2)) = 9 → (vp_in x2 36 ∧ zm_Z gX5_usedHues post 4 [(0, .ref 2), (1, .int (x1 ||| ((1 : Int32) <<< (((mem 3 (Int32.toNatClampNeg x2)) : Int32) &&& 31)))), (2, .int (x2 + 1))] [] mem))))))) : zm_Z gX5_usedHues post 4 [(0, .ref 2), (1, .int x1), (2, .int x2)] [] mem := by
  refine z_iload_n dX5_usedHues_4 rfl 2 rfl ?_
  refine z_aload_n dX5_usedHues_5 rfl 0 rfl ?_
  refine z_getr (ci := 5) (j := 0) (r := 1) (T := TX5) rfl rfl hX5 rfl (by decide) fkX5_22 dX5_usedHues_6 ?_
  refine z_getiN (ci := 1) (j := 2) (T := TX1) rfl rfl hX1 rfl (by decide) fkX5_30 dX5_usedHues_9 ?_
  refine z_icmp_ge (tgt := 43) dX5_usedHues_12 (by decide) (fun h1 => ?_) (fun h1 => ?_)
  ·
    refine z_iload_n dX5_usedHues_43 rfl 1 rfl ?_
    refine z_callSi (g' := gJ6_bitCount_0f7a4) (st := []) [.int x1] ⟨lkX5_38, pdJ6_bitCount_0f7a4, by decide, by decide⟩ ⟨_, rfl, by decide⟩ rfl (Nat.le_of_ble_eq_true rfl) dX5_usedHues_44 (zm_Call.mono (kk.1 h1) (fun r2 w2 u2 k2 => ?_))
    exact z_iret rfl dX5_usedHues_47 k2
  ·
    refine z_aload_n dX5_usedHues_15 rfl 0 rfl ?_
    refine z_getr (ci := 5) (j := 1) (r := 3) (T := TX5) rfl rfl hX5 rfl (by decide) fkX5_9 dX5_usedHues_16 ?_
    refine z_iload_n dX5_usedHues_19 rfl 2 rfl ?_
    refine z_iald (n := 36) rfl (kk.2 h1).1 dX5_usedHues_20 ?_
    refine z_bipush (v := 9) dX5_usedHues_21 zcbipush_9 ?_
    refine z_icmp_eq (tgt := 37) dX5_usedHues_23 (by decide) (fun h3 => ?_) (fun h3 => ?_)
    ·
      refine z_iinc (v := x2 + 1) (lv' := [(2, .int (x2 + 1)), (0, .ref 2), (1, .int x1)]) dX5_usedHues_37 2 rfl (by rw [zciconst_1]) (by decide) rfl ?_
      refine z_goto (tgt := 4) dX5_usedHues_40 (by decide) ?_
      refine z_sub [1, 2, 0] rfl ?_
      exact ((kk.2 h1).2.1 h3)
    ·
      refine z_iload_n dX5_usedHues_26 rfl 1 rfl ?_
      refine z_iconst (v := 1) dX5_usedHues_27 zciconst_1 ?_
      refine z_aload_n dX5_usedHues_28 rfl 0 rfl ?_
      refine z_getr (ci := 5) (j := 1) (r := 3) (T := TX5) rfl rfl hX5 rfl (by decide) fkX5_9 dX5_usedHues_29 ?_
      refine z_iload_n dX5_usedHues_32 rfl 2 rfl ?_
      refine z_iald (n := 36) rfl ((kk.2 h1).2.2 h3).1 dX5_usedHues_33 ?_
      refine z_ishl dX5_usedHues_34 ?_
      refine z_ior dX5_usedHues_35 ?_
      refine z_istore_n (lv' := [(1, .int (x1 ||| ((1 : Int32) <<< (((mem 3 (Int32.toNatClampNeg x2)) : Int32) &&& 31)))), (0, .ref 2), (2, .int x2)]) dX5_usedHues_36 rfl (by decide) rfl ?_
      refine z_iinc (v := x2 + 1) (lv' := [(2, .int (x2 + 1)), (1, .int (x1 ||| ((1 : Int32) <<< (((mem 3 (Int32.toNatClampNeg x2)) : Int32) &&& 31)))), (0, .ref 2)]) dX5_usedHues_37 2 rfl (by rw [zciconst_1]) (by decide) rfl ?_
      refine z_goto (tgt := 4) dX5_usedHues_40 (by decide) ?_
      refine z_sub [2, 1, 0] rfl ?_
      exact ((kk.2 h1).2.2 h3).2
theorem dX5_keeperNumber_0 : decode cX5_keeperNumber 0 = .ok (.iload_n 1, 1) := by decide +kernel
theorem dX5_keeperNumber_1 : decode cX5_keeperNumber 1 = .ok (.ifCond .lt 14, 3) := by decide +kernel
theorem dX5_keeperNumber_4 : decode cX5_keeperNumber 4 = .ok (.iload_n 1, 1) := by decide +kernel
theorem dX5_keeperNumber_5 : decode cX5_keeperNumber 5 = .ok (.aload_n 0, 1) := by decide +kernel
theorem dX5_keeperNumber_6 : decode cX5_keeperNumber 6 = .ok (.getfield 22, 3) := by decide +kernel
theorem dX5_keeperNumber_9 : decode cX5_keeperNumber 9 = .ok (.invokevirtual 57, 3) := by decide +kernel
theorem dX5_keeperNumber_12 : decode cX5_keeperNumber 12 = .ok (.if_icmp .lt 6, 3) := by decide +kernel
theorem dX5_keeperNumber_15 : decode cX5_keeperNumber 15 = .ok (.bipush (-9), 2) := by decide +kernel
theorem dX5_keeperNumber_17 : decode cX5_keeperNumber 17 = .ok (.ireturn, 1) := by decide +kernel
theorem dX5_keeperNumber_18 : decode cX5_keeperNumber 18 = .ok (.iconst 0, 1) := by decide +kernel
theorem dX5_keeperNumber_19 : decode cX5_keeperNumber 19 = .ok (.istore_n 2, 1) := by decide +kernel
theorem dX5_keeperNumber_20 : decode cX5_keeperNumber 20 = .ok (.iconst 0, 1) := by decide +kernel
theorem dX5_keeperNumber_21 : decode cX5_keeperNumber 21 = .ok (.istore_n 3, 1) := by decide +kernel
theorem dX5_keeperNumber_22 : decode cX5_keeperNumber 22 = .ok (.iload_n 3, 1) := by decide +kernel
theorem dX5_keeperNumber_23 : decode cX5_keeperNumber 23 = .ok (.aload_n 0, 1) := by decide +kernel
theorem dX5_keeperNumber_24 : decode cX5_keeperNumber 24 = .ok (.getfield 22, 3) := by decide +kernel
theorem dX5_keeperNumber_27 : decode cX5_keeperNumber 27 = .ok (.invokevirtual 61, 3) := by decide +kernel
theorem dX5_keeperNumber_30 : decode cX5_keeperNumber 30 = .ok (.if_icmp .ge 38, 3) := by decide +kernel
theorem dX5_keeperNumber_33 : decode cX5_keeperNumber 33 = .ok (.aload_n 0, 1) := by decide +kernel
theorem dX5_keeperNumber_34 : decode cX5_keeperNumber 34 = .ok (.getfield 22, 3) := by decide +kernel
theorem dX5_keeperNumber_37 : decode cX5_keeperNumber 37 = .ok (.iload_n 3, 1) := by decide +kernel
theorem dX5_keeperNumber_38 : decode cX5_keeperNumber 38 = .ok (.invokevirtual 64, 3) := by decide +kernel
theorem dX5_keeperNumber_41 : decode cX5_keeperNumber 41 = .ok (.ifCond .eq 21, 3) := by decide +kernel
theorem dX5_keeperNumber_44 : decode cX5_keeperNumber 44 = .ok (.aload_n 0, 1) := by decide +kernel
theorem dX5_keeperNumber_45 : decode cX5_keeperNumber 45 = .ok (.iload_n 3, 1) := by decide +kernel
theorem dX5_keeperNumber_46 : decode cX5_keeperNumber 46 = .ok (.invokevirtual 51, 3) := by decide +kernel
theorem dX5_keeperNumber_49 : decode cX5_keeperNumber 49 = .ok (.ifCond .eq 13, 3) := by decide +kernel
theorem dX5_keeperNumber_52 : decode cX5_keeperNumber 52 = .ok (.iload_n 2, 1) := by decide +kernel
theorem dX5_keeperNumber_53 : decode cX5_keeperNumber 53 = .ok (.iload_n 1, 1) := by decide +kernel
theorem dX5_keeperNumber_54 : decode cX5_keeperNumber 54 = .ok (.if_icmp .ne 5, 3) := by decide +kernel
theorem dX5_keeperNumber_57 : decode cX5_keeperNumber 57 = .ok (.iload_n 3, 1) := by decide +kernel
theorem dX5_keeperNumber_58 : decode cX5_keeperNumber 58 = .ok (.ireturn, 1) := by decide +kernel
theorem dX5_keeperNumber_59 : decode cX5_keeperNumber 59 = .ok (.iinc 2 1, 3) := by decide +kernel
theorem dX5_keeperNumber_62 : decode cX5_keeperNumber 62 = .ok (.iinc 3 1, 3) := by decide +kernel
theorem dX5_keeperNumber_65 : decode cX5_keeperNumber 65 = .ok (.goto (-43), 3) := by decide +kernel
theorem dX5_keeperNumber_68 : decode cX5_keeperNumber 68 = .ok (.bipush (-9), 2) := by decide +kernel
theorem dX5_keeperNumber_70 : decode cX5_keeperNumber 70 = .ok (.ireturn, 1) := by decide +kernel
theorem bX5_keeperNumber_0 (x1 : Int32) (mem : zm_Mem) (post : zm_Post) (kk : ((x1 < 0 → post (-9) 0 mem) ∧ (¬ x1 < 0 → zm_Call gX1_moveCount [.ref 1] mem (fun r2 w2 u2 => ((x1 < r2 → zm_Z gX5_keeperNumber post 22 [(0, .ref 2), (1, .int x1), (2, .int 0), (3, .int 0)] [] u2) ∧ (¬ x1 < r2 → post (-9) 0 u2)))))) : zm_Call gX5_keeperNumber [.ref 2, .int x1] mem post := by
  refine z_entry (by decide) (Nat.le_of_ble_eq_true rfl) ?_
  show zm_Z gX5_keeperNumber post 0 [(0, .ref 2), (1, .int x1)] [] mem
  refine z_iload_n dX5_keeperNumber_0 rfl 1 rfl ?_
  refine z_if_lt (tgt := 15) dX5_keeperNumber_1 (by decide) (fun h1 => ?_) (fun h1 => ?_)
  ·
    refine z_bipush (v := (-9)) dX5_keeperNumber_15 zcbipush_m9 ?_
    exact z_iret rfl dX5_keeperNumber_17 (kk.1 h1)
  ·
    refine z_iload_n dX5_keeperNumber_4 rfl 1 rfl ?_
    refine z_aload_n dX5_keeperNumber_5 rfl 0 rfl ?_
    refine z_getr (ci := 5) (j := 0) (r := 1) (T := TX5) rfl rfl hX5 rfl (by decide) fkX5_22 dX5_keeperNumber_6 ?_
    refine z_callVi (g' := gX1_moveCount) [] (q := 1) (ci := 1) (T := TX1) rfl rfl ⟨lkX5_57, pdX1_moveCount, by decide, by decide⟩ ⟨_, rfl, by decide⟩ rfl (Nat.le_of_ble_eq_true rfl) dX5_keeperNumber_9 (zm_Call.mono (kk.2 h1) (fun r2 w2 u2 k2 => ?_))
    refine z_icmp_lt (tgt := 18) dX5_keeperNumber_12 (by decide) (fun h3 => ?_) (fun h3 => ?_)
    ·
      refine z_iconst (v := 0) dX5_keeperNumber_18 zciconst_0 ?_
      refine z_istore_n (lv' := [(2, .int 0), (0, .ref 2), (1, .int x1)]) dX5_keeperNumber_19 rfl (by decide) rfl ?_
      refine z_iconst (v := 0) dX5_keeperNumber_20 zciconst_0 ?_
      refine z_istore_n (lv' := [(3, .int 0), (2, .int 0), (0, .ref 2), (1, .int x1)]) dX5_keeperNumber_21 rfl (by decide) rfl ?_
      refine z_sub [2, 3, 1, 0] rfl ?_
      exact (k2.1 h3)
    ·
      refine z_bipush (v := (-9)) dX5_keeperNumber_15 zcbipush_m9 ?_
      exact z_iret rfl dX5_keeperNumber_17 (k2.2 h3)
theorem bX5_keeperNumber_22 (x1 : Int32) (x2 : Int32) (x3 : Int32) (mem : zm_Mem) (post : zm_Post) (kk : zm_Call gX1_numbers [.ref 1] mem (fun r1 w1 u1 => ((r1 ≤ x3 → post (-9) 0 u1) ∧ (¬ r1 ≤ x3 → zm_Call gX1_hasMove [.ref 1, .int x3] u1 (fun r3 w3 u3 => ((r3 = 0 → zm_Z gX5_keeperNumber post 22 [(0, .ref 2), (1, .int x1), (2, .int x2), (3, .int (x3 + 1))] [] u3) ∧ (¬ r3 = 0 → zm_Call gX5_isKeptBy [.ref 2, .int x3] u3 (fun r5 w5 u5 => ((r5 = 0 → zm_Z gX5_keeperNumber post 22 [(0, .ref 2), (1, .int x1), (2, .int x2), (3, .int (x3 + 1))] [] u5) ∧ (¬ r5 = 0 → ((¬ x2 = x1 → zm_Z gX5_keeperNumber post 22 [(0, .ref 2), (1, .int x1), (2, .int (x2 + 1)), (3, .int (x3 + 1))] [] u5) ∧ (x2 = x1 → post x3 0 u5)))))))))))) : zm_Z gX5_keeperNumber post 22 [(0, .ref 2), (1, .int x1), (2, .int x2), (3, .int x3)] [] mem := by
  refine z_iload_n dX5_keeperNumber_22 rfl 3 rfl ?_
  refine z_aload_n dX5_keeperNumber_23 rfl 0 rfl ?_
  refine z_getr (ci := 5) (j := 0) (r := 1) (T := TX5) rfl rfl hX5 rfl (by decide) fkX5_22 dX5_keeperNumber_24 ?_
  refine z_callVi (g' := gX1_numbers) [] (q := 1) (ci := 1) (T := TX1) rfl rfl ⟨lkX5_61, pdX1_numbers, by decide, by decide⟩ ⟨_, rfl, by decide⟩ rfl (Nat.le_of_ble_eq_true rfl) dX5_keeperNumber_27 (zm_Call.mono kk (fun r1 w1 u1 k1 => ?_))
  refine z_icmp_ge (tgt := 68) dX5_keeperNumber_30 (by decide) (fun h2 => ?_) (fun h2 => ?_)
  ·
    refine z_bipush (v := (-9)) dX5_keeperNumber_68 zcbipush_m9 ?_
    exact z_iret rfl dX5_keeperNumber_70 (k1.1 h2)
  ·
    refine z_aload_n dX5_keeperNumber_33 rfl 0 rfl ?_
    refine z_getr (ci := 5) (j := 0) (r := 1) (T := TX5) rfl rfl hX5 rfl (by decide) fkX5_22 dX5_keeperNumber_34 ?_
    refine z_iload_n dX5_keeperNumber_37 rfl 3 rfl ?_
    refine z_callVi (g' := gX1_hasMove) [.int x3] (q := 1) (ci := 1) (T := TX1) rfl rfl ⟨lkX5_64, pdX1_hasMove, by decide, by decide⟩ ⟨_, rfl, by decide⟩ rfl (Nat.le_of_ble_eq_true rfl) dX5_keeperNumber_38 (zm_Call.mono (k1.2 h2) (fun r3 w3 u3 k3 => ?_))
    refine z_if_eq (tgt := 62) dX5_keeperNumber_41 (by decide) (fun h4 => ?_) (fun h4 => ?_)
    ·
      refine z_iinc (v := x3 + 1) (lv' := [(3, .int (x3 + 1)), (0, .ref 2), (1, .int x1), (2, .int x2)]) dX5_keeperNumber_62 3 rfl (by rw [zciconst_1]) (by decide) rfl ?_
      refine z_goto (tgt := 22) dX5_keeperNumber_65 (by decide) ?_
      refine z_sub [1, 2, 3, 0] rfl ?_
      exact (k3.1 h4)
    ·
      refine z_aload_n dX5_keeperNumber_44 rfl 0 rfl ?_
      refine z_iload_n dX5_keeperNumber_45 rfl 3 rfl ?_
      refine z_callVi (g' := gX5_isKeptBy) [.int x3] (q := 2) (ci := 5) (T := TX5) rfl rfl ⟨lkX5_51, pdX5_isKeptBy, by decide, by decide⟩ ⟨_, rfl, by decide⟩ rfl (Nat.le_of_ble_eq_true rfl) dX5_keeperNumber_46 (zm_Call.mono (k3.2 h4) (fun r5 w5 u5 k5 => ?_))
      refine z_if_eq (tgt := 62) dX5_keeperNumber_49 (by decide) (fun h6 => ?_) (fun h6 => ?_)
      ·
        refine z_iinc (v := x3 + 1) (lv' := [(3, .int (x3 + 1)), (0, .ref 2), (1, .int x1), (2, .int x2)]) dX5_keeperNumber_62 3 rfl (by rw [zciconst_1]) (by decide) rfl ?_
        refine z_goto (tgt := 22) dX5_keeperNumber_65 (by decide) ?_
        refine z_sub [1, 2, 3, 0] rfl ?_
        exact (k5.1 h6)
      ·
        refine z_iload_n dX5_keeperNumber_52 rfl 2 rfl ?_
        refine z_iload_n dX5_keeperNumber_53 rfl 1 rfl ?_
        refine z_icmp_ne (tgt := 59) dX5_keeperNumber_54 (by decide) (fun h7 => ?_) (fun h7 => ?_)
        ·
          refine z_iinc (v := x2 + 1) (lv' := [(2, .int (x2 + 1)), (0, .ref 2), (1, .int x1), (3, .int x3)]) dX5_keeperNumber_59 2 rfl (by rw [zciconst_1]) (by decide) rfl ?_
          refine z_iinc (v := x3 + 1) (lv' := [(3, .int (x3 + 1)), (2, .int (x2 + 1)), (0, .ref 2), (1, .int x1)]) dX5_keeperNumber_62 3 rfl (by rw [zciconst_1]) (by decide) rfl ?_
          refine z_goto (tgt := 22) dX5_keeperNumber_65 (by decide) ?_
          refine z_sub [2, 3, 1, 0] rfl ?_
          exact ((k5.2 h6).1 h7)
        ·
          refine z_iload_n dX5_keeperNumber_57 rfl 3 rfl ?_
          exact z_iret rfl dX5_keeperNumber_58 ((k5.2 h6).2 h7)
theorem dX5_moveBy_0 : decode cX5_moveBy 0 = .ok (.iconst 0, 1) := by decide +kernel
theorem dX5_moveBy_1 : decode cX5_moveBy 1 = .ok (.istore_n 2, 1) := by decide +kernel
theorem dX5_moveBy_2 : decode cX5_moveBy 2 = .ok (.iload_n 2, 1) := by decide +kernel
theorem dX5_moveBy_3 : decode cX5_moveBy 3 = .ok (.aload_n 0, 1) := by decide +kernel
theorem dX5_moveBy_4 : decode cX5_moveBy 4 = .ok (.getfield 22, 3) := by decide +kernel
theorem dX5_moveBy_7 : decode cX5_moveBy 7 = .ok (.getfield 30, 3) := by decide +kernel
theorem dX5_moveBy_10 : decode cX5_moveBy 10 = .ok (.if_icmp .ge 21, 3) := by decide +kernel
theorem dX5_moveBy_13 : decode cX5_moveBy 13 = .ok (.aload_n 0, 1) := by decide +kernel
theorem dX5_moveBy_14 : decode cX5_moveBy 14 = .ok (.getfield 15, 3) := by decide +kernel
theorem dX5_moveBy_17 : decode cX5_moveBy 17 = .ok (.iload_n 2, 1) := by decide +kernel
theorem dX5_moveBy_18 : decode cX5_moveBy 18 = .ok (.aload_n 0, 1) := by decide +kernel
theorem dX5_moveBy_19 : decode cX5_moveBy 19 = .ok (.getfield 9, 3) := by decide +kernel
theorem dX5_moveBy_22 : decode cX5_moveBy 22 = .ok (.iload_n 2, 1) := by decide +kernel
theorem dX5_moveBy_23 : decode cX5_moveBy 23 = .ok (.iaload, 1) := by decide +kernel
theorem dX5_moveBy_24 : decode cX5_moveBy 24 = .ok (.iastore, 1) := by decide +kernel
theorem dX5_moveBy_25 : decode cX5_moveBy 25 = .ok (.iinc 2 1, 3) := by decide +kernel
theorem dX5_moveBy_28 : decode cX5_moveBy 28 = .ok (.goto (-26), 3) := by decide +kernel
theorem dX5_moveBy_31 : decode cX5_moveBy 31 = .ok (.iconst 0, 1) := by decide +kernel
theorem dX5_moveBy_32 : decode cX5_moveBy 32 = .ok (.istore_n 2, 1) := by decide +kernel
theorem dX5_moveBy_33 : decode cX5_moveBy 33 = .ok (.iload_n 2, 1) := by decide +kernel
theorem dX5_moveBy_34 : decode cX5_moveBy 34 = .ok (.aload_n 0, 1) := by decide +kernel
theorem dX5_moveBy_35 : decode cX5_moveBy 35 = .ok (.getfield 22, 3) := by decide +kernel
theorem dX5_moveBy_38 : decode cX5_moveBy 38 = .ok (.getfield 30, 3) := by decide +kernel
theorem dX5_moveBy_41 : decode cX5_moveBy 41 = .ok (.if_icmp .ge 29, 3) := by decide +kernel
theorem dX5_moveBy_44 : decode cX5_moveBy 44 = .ok (.aload_n 0, 1) := by decide +kernel
theorem dX5_moveBy_45 : decode cX5_moveBy 45 = .ok (.getfield 9, 3) := by decide +kernel
theorem dX5_moveBy_48 : decode cX5_moveBy 48 = .ok (.aload_n 0, 1) := by decide +kernel
theorem dX5_moveBy_49 : decode cX5_moveBy 49 = .ok (.getfield 22, 3) := by decide +kernel
theorem dX5_moveBy_52 : decode cX5_moveBy 52 = .ok (.iload_n 1, 1) := by decide +kernel
theorem dX5_moveBy_53 : decode cX5_moveBy 53 = .ok (.iload_n 2, 1) := by decide +kernel
theorem dX5_moveBy_54 : decode cX5_moveBy 54 = .ok (.invokevirtual 44, 3) := by decide +kernel
theorem dX5_moveBy_57 : decode cX5_moveBy 57 = .ok (.aload_n 0, 1) := by decide +kernel
theorem dX5_moveBy_58 : decode cX5_moveBy 58 = .ok (.getfield 15, 3) := by decide +kernel
theorem dX5_moveBy_61 : decode cX5_moveBy 61 = .ok (.iload_n 2, 1) := by decide +kernel
theorem dX5_moveBy_62 : decode cX5_moveBy 62 = .ok (.iaload, 1) := by decide +kernel
theorem dX5_moveBy_63 : decode cX5_moveBy 63 = .ok (.iastore, 1) := by decide +kernel
theorem dX5_moveBy_64 : decode cX5_moveBy 64 = .ok (.iinc 2 1, 3) := by decide +kernel
theorem dX5_moveBy_67 : decode cX5_moveBy 67 = .ok (.goto (-34), 3) := by decide +kernel
theorem dX5_moveBy_70 : decode cX5_moveBy 70 = .ok (.iconst 0, 1) := by decide +kernel
theorem dX5_moveBy_71 : decode cX5_moveBy 71 = .ok (.istore_n 2, 1) := by decide +kernel
theorem dX5_moveBy_72 : decode cX5_moveBy 72 = .ok (.iconst 0, 1) := by decide +kernel
theorem dX5_moveBy_73 : decode cX5_moveBy 73 = .ok (.istore_n 3, 1) := by decide +kernel
theorem dX5_moveBy_74 : decode cX5_moveBy 74 = .ok (.iload_n 3, 1) := by decide +kernel
theorem dX5_moveBy_75 : decode cX5_moveBy 75 = .ok (.aload_n 0, 1) := by decide +kernel
theorem dX5_moveBy_76 : decode cX5_moveBy 76 = .ok (.getfield 22, 3) := by decide +kernel
theorem dX5_moveBy_79 : decode cX5_moveBy 79 = .ok (.getfield 30, 3) := by decide +kernel
theorem dX5_moveBy_82 : decode cX5_moveBy 82 = .ok (.if_icmp .ge 27, 3) := by decide +kernel
theorem dX5_moveBy_85 : decode cX5_moveBy 85 = .ok (.aload_n 0, 1) := by decide +kernel
theorem dX5_moveBy_86 : decode cX5_moveBy 86 = .ok (.getfield 9, 3) := by decide +kernel
theorem dX5_moveBy_89 : decode cX5_moveBy 89 = .ok (.iload_n 3, 1) := by decide +kernel
theorem dX5_moveBy_90 : decode cX5_moveBy 90 = .ok (.iaload, 1) := by decide +kernel
theorem dX5_moveBy_91 : decode cX5_moveBy 91 = .ok (.aload_n 0, 1) := by decide +kernel
theorem dX5_moveBy_92 : decode cX5_moveBy 92 = .ok (.getfield 15, 3) := by decide +kernel
theorem dX5_moveBy_95 : decode cX5_moveBy 95 = .ok (.iload_n 3, 1) := by decide +kernel
theorem dX5_moveBy_96 : decode cX5_moveBy 96 = .ok (.iaload, 1) := by decide +kernel
theorem dX5_moveBy_97 : decode cX5_moveBy 97 = .ok (.if_icmp .eq 6, 3) := by decide +kernel
theorem dX5_moveBy_100 : decode cX5_moveBy 100 = .ok (.iinc 2 1, 3) := by decide +kernel
theorem dX5_moveBy_103 : decode cX5_moveBy 103 = .ok (.iinc 3 1, 3) := by decide +kernel
theorem dX5_moveBy_106 : decode cX5_moveBy 106 = .ok (.goto (-32), 3) := by decide +kernel
theorem dX5_moveBy_109 : decode cX5_moveBy 109 = .ok (.iload_n 2, 1) := by decide +kernel
theorem dX5_moveBy_110 : decode cX5_moveBy 110 = .ok (.ireturn, 1) := by decide +kernel
theorem bX5_moveBy_0 (x1 : Int32) (mem : zm_Mem) (post : zm_Post) (kk : zm_Z gX5_moveBy post 2 [(0, .ref 2), (1, .int x1), (2, .int 0)] [] mem) : zm_Call gX5_moveBy [.ref 2, .int x1] mem post := by
  refine z_entry (by decide) (Nat.le_of_ble_eq_true rfl) ?_
  show zm_Z gX5_moveBy post 0 [(0, .ref 2), (1, .int x1)] [] mem
  refine z_iconst (v := 0) dX5_moveBy_0 zciconst_0 ?_
  refine z_istore_n (lv' := [(2, .int 0), (0, .ref 2), (1, .int x1)]) dX5_moveBy_1 rfl (by decide) rfl ?_
  refine z_sub [1, 2, 0] rfl ?_
  exact kk
theorem bX5_moveBy_2 (x1 : Int32) (x2 : Int32) (mem : zm_Mem) (post : zm_Post) (kk : (((mem 1 2) ≤ x2 → zm_Z gX5_moveBy post 33 [(0, .ref 2), (1, .int x1), (2, .int 0)] [] mem) ∧ (¬ (mem 1 2) ≤ x2 → (vp_in x2 36 ∧ (vp_in x2 36 ∧ zm_Z gX5_moveBy post 2 [(0, .ref 2), (1, .int x1), (2, .int (x2 + 1))] [] (zm_st mem 4 (Int32.toNatClampNeg x2) (mem 3 (Int32.toNatClampNeg x2)))))))) : zm_Z gX5_moveBy post 2 [(0, .ref 2), (1, .int x1), (2, .int x2)] [] mem := by
  refine z_iload_n dX5_moveBy_2 rfl 2 rfl ?_
  refine z_aload_n dX5_moveBy_3 rfl 0 rfl ?_
  refine z_getr (ci := 5) (j := 0) (r := 1) (T := TX5) rfl rfl hX5 rfl (by decide) fkX5_22 dX5_moveBy_4 ?_
  refine z_getiN (ci := 1) (j := 2) (T := TX1) rfl rfl hX1 rfl (by decide) fkX5_30 dX5_moveBy_7 ?_
  refine z_icmp_ge (tgt := 31) dX5_moveBy_10 (by decide) (fun h1 => ?_) (fun h1 => ?_)
  ·
    refine z_iconst (v := 0) dX5_moveBy_31 zciconst_0 ?_
    refine z_istore_n (lv' := [(2, .int 0), (0, .ref 2), (1, .int x1)]) dX5_moveBy_32 rfl (by decide) rfl ?_
    refine z_sub [1, 2, 0] rfl ?_
    exact (kk.1 h1)
  ·
    refine z_aload_n dX5_moveBy_13 rfl 0 rfl ?_
    refine z_getr (ci := 5) (j := 2) (r := 4) (T := TX5) rfl rfl hX5 rfl (by decide) fkX5_15 dX5_moveBy_14 ?_
    refine z_iload_n dX5_moveBy_17 rfl 2 rfl ?_
    refine z_aload_n dX5_moveBy_18 rfl 0 rfl ?_
    refine z_getr (ci := 5) (j := 1) (r := 3) (T := TX5) rfl rfl hX5 rfl (by decide) fkX5_9 dX5_moveBy_19 ?_
    refine z_iload_n dX5_moveBy_22 rfl 2 rfl ?_
    refine z_iald (n := 36) rfl (kk.2 h1).1 dX5_moveBy_23 ?_
    refine z_iast (n := 36) rfl (kk.2 h1).2.1 dX5_moveBy_24 ?_
    refine z_iinc (v := x2 + 1) (lv' := [(2, .int (x2 + 1)), (0, .ref 2), (1, .int x1)]) dX5_moveBy_25 2 rfl (by rw [zciconst_1]) (by decide) rfl ?_
    refine z_goto (tgt := 2) dX5_moveBy_28 (by decide) ?_
    refine z_sub [1, 2, 0] rfl ?_
    exact (kk.2 h1).2.2
theorem bX5_moveBy_33 (x1 : Int32) (x2 : Int32) (mem : zm_Mem) (post : zm_Post) (kk : (((mem 1 2) ≤ x2 → zm_Z gX5_moveBy post 74 [(0, .ref 2), (2, .int 0), (3, .int 0)] [] mem) ∧ (¬ (mem 1 2) ≤ x2 → zm_Call gX1_target [.ref 1, .int x1, .int x2] mem (fun r2 w2 u2 => (vp_in x2 36 ∧ (vp_in r2 36 ∧ zm_Z gX5_moveBy post 33 [(0, .ref 2), (1, .int x1), (2, .int (x2 + 1))] [] (zm_st u2 3 (Int32.toNatClampNeg r2) (u2 4 (Int32.toNatClampNeg x2))))))))) : zm_Z gX5_moveBy post 33 [(0, .ref 2), (1, .int x1), (2, .int x2)] [] mem := by
  refine z_iload_n dX5_moveBy_33 rfl 2 rfl ?_
  refine z_aload_n dX5_moveBy_34 rfl 0 rfl ?_
  refine z_getr (ci := 5) (j := 0) (r := 1) (T := TX5) rfl rfl hX5 rfl (by decide) fkX5_22 dX5_moveBy_35 ?_
  refine z_getiN (ci := 1) (j := 2) (T := TX1) rfl rfl hX1 rfl (by decide) fkX5_30 dX5_moveBy_38 ?_
  refine z_icmp_ge (tgt := 70) dX5_moveBy_41 (by decide) (fun h1 => ?_) (fun h1 => ?_)
  ·
    refine z_iconst (v := 0) dX5_moveBy_70 zciconst_0 ?_
    refine z_istore_n (lv' := [(2, .int 0), (0, .ref 2), (1, .int x1)]) dX5_moveBy_71 rfl (by decide) rfl ?_
    refine z_iconst (v := 0) dX5_moveBy_72 zciconst_0 ?_
    refine z_istore_n (lv' := [(3, .int 0), (2, .int 0), (0, .ref 2), (1, .int x1)]) dX5_moveBy_73 rfl (by decide) rfl ?_
    refine z_sub [2, 1, 0] rfl ?_
    exact (kk.1 h1)
  ·
    refine z_aload_n dX5_moveBy_44 rfl 0 rfl ?_
    refine z_getr (ci := 5) (j := 1) (r := 3) (T := TX5) rfl rfl hX5 rfl (by decide) fkX5_9 dX5_moveBy_45 ?_
    refine z_aload_n dX5_moveBy_48 rfl 0 rfl ?_
    refine z_getr (ci := 5) (j := 0) (r := 1) (T := TX5) rfl rfl hX5 rfl (by decide) fkX5_22 dX5_moveBy_49 ?_
    refine z_iload_n dX5_moveBy_52 rfl 1 rfl ?_
    refine z_iload_n dX5_moveBy_53 rfl 2 rfl ?_
    refine z_callVi (g' := gX1_target) [.int x1, .int x2] (q := 1) (ci := 1) (T := TX1) rfl rfl ⟨lkX5_44, pdX1_target, by decide, by decide⟩ ⟨_, rfl, by decide⟩ rfl (Nat.le_of_ble_eq_true rfl) dX5_moveBy_54 (zm_Call.mono (kk.2 h1) (fun r2 w2 u2 k2 => ?_))
    refine z_aload_n dX5_moveBy_57 rfl 0 rfl ?_
    refine z_getr (ci := 5) (j := 2) (r := 4) (T := TX5) rfl rfl hX5 rfl (by decide) fkX5_15 dX5_moveBy_58 ?_
    refine z_iload_n dX5_moveBy_61 rfl 2 rfl ?_
    refine z_iald (n := 36) rfl k2.1 dX5_moveBy_62 ?_
    refine z_iast (n := 36) rfl k2.2.1 dX5_moveBy_63 ?_
    refine z_iinc (v := x2 + 1) (lv' := [(2, .int (x2 + 1)), (0, .ref 2), (1, .int x1)]) dX5_moveBy_64 2 rfl (by rw [zciconst_1]) (by decide) rfl ?_
    refine z_goto (tgt := 33) dX5_moveBy_67 (by decide) ?_
    refine z_sub [1, 2, 0] rfl ?_
    exact k2.2.2
theorem bX5_moveBy_74 (x2 : Int32) (x3 : Int32) (mem : zm_Mem) (post : zm_Post) (kk : (((mem 1 2) ≤ x3 → post x2 0 mem) ∧ (¬ (mem 1 2) ≤ x3 → (vp_in x3 36 ∧ (vp_in x3 36 ∧ (((mem 3 (Int32.toNatClampNeg x3)) = (mem 4 (Int32.toNatClampNeg x3)) → zm_Z gX5_moveBy post 74 [(0, .ref 2), (2, .int x2), (3, .int (x3 + 1))] [] mem) ∧ (¬ (mem 3 (Int32.toNatClampNeg x3)) = (mem 4 (Int32.toNatClampNeg x3)) → zm_Z gX5_moveBy post 74 [(0, .ref 2), (2, .int (x2 + 1)), (3, .int (x3 + 1))] [] mem))))))) : zm_Z gX5_moveBy post 74 [(0, .ref 2), (2, .int x2), (3, .int x3)] [] mem := by
  refine z_iload_n dX5_moveBy_74 rfl 2 rfl ?_
  refine z_aload_n dX5_moveBy_75 rfl 0 rfl ?_
  refine z_getr (ci := 5) (j := 0) (r := 1) (T := TX5) rfl rfl hX5 rfl (by decide) fkX5_22 dX5_moveBy_76 ?_
  refine z_getiN (ci := 1) (j := 2) (T := TX1) rfl rfl hX1 rfl (by decide) fkX5_30 dX5_moveBy_79 ?_
  refine z_icmp_ge (tgt := 109) dX5_moveBy_82 (by decide) (fun h1 => ?_) (fun h1 => ?_)
  ·
    refine z_iload_n dX5_moveBy_109 rfl 1 rfl ?_
    exact z_iret rfl dX5_moveBy_110 (kk.1 h1)
  ·
    refine z_aload_n dX5_moveBy_85 rfl 0 rfl ?_
    refine z_getr (ci := 5) (j := 1) (r := 3) (T := TX5) rfl rfl hX5 rfl (by decide) fkX5_9 dX5_moveBy_86 ?_
    refine z_iload_n dX5_moveBy_89 rfl 2 rfl ?_
    refine z_iald (n := 36) rfl (kk.2 h1).1 dX5_moveBy_90 ?_
    refine z_aload_n dX5_moveBy_91 rfl 0 rfl ?_
    refine z_getr (ci := 5) (j := 2) (r := 4) (T := TX5) rfl rfl hX5 rfl (by decide) fkX5_15 dX5_moveBy_92 ?_
    refine z_iload_n dX5_moveBy_95 rfl 2 rfl ?_
    refine z_iald (n := 36) rfl (kk.2 h1).2.1 dX5_moveBy_96 ?_
    refine z_icmp_eq (tgt := 103) dX5_moveBy_97 (by decide) (fun h2 => ?_) (fun h2 => ?_)
    ·
      refine z_iinc (v := x3 + 1) (lv' := [(3, .int (x3 + 1)), (0, .ref 2), (2, .int x2)]) dX5_moveBy_103 2 rfl (by rw [zciconst_1]) (by decide) rfl ?_
      refine z_goto (tgt := 74) dX5_moveBy_106 (by decide) ?_
      refine z_sub [1, 2, 0] rfl ?_
      exact ((kk.2 h1).2.2.1 h2)
    ·
      refine z_iinc (v := x2 + 1) (lv' := [(2, .int (x2 + 1)), (0, .ref 2), (3, .int x3)]) dX5_moveBy_100 1 rfl (by rw [zciconst_1]) (by decide) rfl ?_
      refine z_iinc (v := x3 + 1) (lv' := [(3, .int (x3 + 1)), (2, .int (x2 + 1)), (0, .ref 2)]) dX5_moveBy_103 2 rfl (by rw [zciconst_1]) (by decide) rfl ?_
      refine z_goto (tgt := 74) dX5_moveBy_106 (by decide) ?_
      refine z_sub [2, 1, 0] rfl ?_
      exact ((kk.2 h1).2.2.2 h2)
