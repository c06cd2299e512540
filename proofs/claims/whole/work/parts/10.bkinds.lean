theorem dX2_isMirror_0 : decode cX2_isMirror 0 = .ok (.aload_n 0, 1) := by decide +kernel
theorem dX2_isMirror_1 : decode cX2_isMirror 1 = .ok (.getfield 9, 3) := by decide +kernel
theorem dX2_isMirror_4 : decode cX2_isMirror 4 = .ok (.iload_n 2, 1) := by decide +kernel
theorem dX2_isMirror_5 : decode cX2_isMirror 5 = .ok (.invokevirtual 19, 3) := by decide +kernel
theorem dX2_isMirror_8 : decode cX2_isMirror 8 = .ok (.istore_n 3, 1) := by decide +kernel
theorem dX2_isMirror_9 : decode cX2_isMirror 9 = .ok (.aload_n 0, 1) := by decide +kernel
theorem dX2_isMirror_10 : decode cX2_isMirror 10 = .ok (.getfield 9, 3) := by decide +kernel
theorem dX2_isMirror_13 : decode cX2_isMirror 13 = .ok (.iload_n 2, 1) := by decide +kernel
theorem dX2_isMirror_14 : decode cX2_isMirror 14 = .ok (.invokevirtual 25, 3) := by decide +kernel
theorem dX2_isMirror_17 : decode cX2_isMirror 17 = .ok (.istore 4, 2) := by decide +kernel
theorem dX2_isMirror_19 : decode cX2_isMirror 19 = .ok (.iload_n 1, 1) := by decide +kernel
theorem dX2_isMirror_20 : decode cX2_isMirror 20 = .ok (.tableswitch 92 4 7 #[32, 43, 53, 80], 32) := by decide +kernel
theorem dX2_isMirror_52 : decode cX2_isMirror 52 = .ok (.iload 4, 2) := by decide +kernel
theorem dX2_isMirror_54 : decode cX2_isMirror 54 = .ok (.ifCond .ne 7, 3) := by decide +kernel
theorem dX2_isMirror_57 : decode cX2_isMirror 57 = .ok (.iconst 1, 1) := by decide +kernel
theorem dX2_isMirror_58 : decode cX2_isMirror 58 = .ok (.goto 4, 3) := by decide +kernel
theorem dX2_isMirror_61 : decode cX2_isMirror 61 = .ok (.iconst 0, 1) := by decide +kernel
theorem dX2_isMirror_62 : decode cX2_isMirror 62 = .ok (.ireturn, 1) := by decide +kernel
theorem dX2_isMirror_63 : decode cX2_isMirror 63 = .ok (.iload_n 3, 1) := by decide +kernel
theorem dX2_isMirror_64 : decode cX2_isMirror 64 = .ok (.ifCond .ne 7, 3) := by decide +kernel
theorem dX2_isMirror_67 : decode cX2_isMirror 67 = .ok (.iconst 1, 1) := by decide +kernel
theorem dX2_isMirror_68 : decode cX2_isMirror 68 = .ok (.goto 4, 3) := by decide +kernel
theorem dX2_isMirror_71 : decode cX2_isMirror 71 = .ok (.iconst 0, 1) := by decide +kernel
theorem dX2_isMirror_72 : decode cX2_isMirror 72 = .ok (.ireturn, 1) := by decide +kernel
theorem dX2_isMirror_73 : decode cX2_isMirror 73 = .ok (.iload_n 3, 1) := by decide +kernel
theorem dX2_isMirror_74 : decode cX2_isMirror 74 = .ok (.iload 4, 2) := by decide +kernel
theorem dX2_isMirror_76 : decode cX2_isMirror 76 = .ok (.iadd, 1) := by decide +kernel
theorem dX2_isMirror_77 : decode cX2_isMirror 77 = .ok (.ifCond .eq 17, 3) := by decide +kernel
theorem dX2_isMirror_80 : decode cX2_isMirror 80 = .ok (.iload_n 3, 1) := by decide +kernel
theorem dX2_isMirror_81 : decode cX2_isMirror 81 = .ok (.iload 4, 2) := by decide +kernel
theorem dX2_isMirror_83 : decode cX2_isMirror 83 = .ok (.iadd, 1) := by decide +kernel
theorem dX2_isMirror_84 : decode cX2_isMirror 84 = .ok (.aload_n 0, 1) := by decide +kernel
theorem dX2_isMirror_85 : decode cX2_isMirror 85 = .ok (.getfield 9, 3) := by decide +kernel
theorem dX2_isMirror_88 : decode cX2_isMirror 88 = .ok (.getfield 28, 3) := by decide +kernel
theorem dX2_isMirror_91 : decode cX2_isMirror 91 = .ok (.if_icmp .ne 7, 3) := by decide +kernel
theorem dX2_isMirror_94 : decode cX2_isMirror 94 = .ok (.iconst 1, 1) := by decide +kernel
theorem dX2_isMirror_95 : decode cX2_isMirror 95 = .ok (.goto 4, 3) := by decide +kernel
theorem dX2_isMirror_98 : decode cX2_isMirror 98 = .ok (.iconst 0, 1) := by decide +kernel
theorem dX2_isMirror_99 : decode cX2_isMirror 99 = .ok (.ireturn, 1) := by decide +kernel
theorem dX2_isMirror_100 : decode cX2_isMirror 100 = .ok (.iload_n 3, 1) := by decide +kernel
theorem dX2_isMirror_101 : decode cX2_isMirror 101 = .ok (.iload 4, 2) := by decide +kernel
theorem dX2_isMirror_103 : decode cX2_isMirror 103 = .ok (.if_icmp .ne 7, 3) := by decide +kernel
theorem dX2_isMirror_106 : decode cX2_isMirror 106 = .ok (.iconst 1, 1) := by decide +kernel
theorem dX2_isMirror_107 : decode cX2_isMirror 107 = .ok (.goto 4, 3) := by decide +kernel
theorem dX2_isMirror_110 : decode cX2_isMirror 110 = .ok (.iconst 0, 1) := by decide +kernel
theorem dX2_isMirror_111 : decode cX2_isMirror 111 = .ok (.ireturn, 1) := by decide +kernel
theorem dX2_isMirror_112 : decode cX2_isMirror 112 = .ok (.iconst 0, 1) := by decide +kernel
theorem dX2_isMirror_113 : decode cX2_isMirror 113 = .ok (.ireturn, 1) := by decide +kernel
theorem bX2_isMirror_0 (x1 : Int32) (x2 : Int32) (mem : zm_Mem) (post : zm_Post) (kk : zm_Call gX1_columnOf [.ref 1, .int x2] mem (fun r1 w1 u1 => zm_Call gX1_rowOf [.ref 1, .int x2] u1 (fun r2 w2 u2 => (((x1 : Int32).toInt < 4 ∨ 7 < (x1 : Int32).toInt → post 0 0 u2) ∧ ((x1 : Int32).toInt = 4 → ((¬ r2 = 0 → post 0 0 u2) ∧ (r2 = 0 → post 1 0 u2))) ∧ ((x1 : Int32).toInt = 5 → ((¬ r1 = 0 → post 0 0 u2) ∧ (r1 = 0 → post 1 0 u2))) ∧ ((x1 : Int32).toInt = 6 → (((r1 + r2) = 0 → post 1 0 u2) ∧ (¬ (r1 + r2) = 0 → ((¬ (r1 + r2) = (u2 1 0) → post 0 0 u2) ∧ ((r1 + r2) = (u2 1 0) → post 1 0 u2))))) ∧ ((x1 : Int32).toInt = 7 → ((¬ r1 = r2 → post 0 0 u2) ∧ (r1 = r2 → post 1 0 u2))))))) : zm_Call gX2_isMirror [.ref 5, .int x1, .int x2] mem post := by
  refine z_entry (by decide) (Nat.le_of_ble_eq_true rfl) ?_
  show zm_Z gX2_isMirror post 0 [(0, .ref 5), (1, .int x1), (2, .int x2)] [] mem
  refine z_aload_n dX2_isMirror_0 rfl 0 rfl ?_
  refine z_getr (ci := 2) (j := 0) (r := 1) (T := TX2) rfl rfl hX2 rfl (by decide) fkX2_9 dX2_isMirror_1 ?_
  refine z_iload_n dX2_isMirror_4 rfl 2 rfl ?_
  refine z_callVi (g' := gX1_columnOf) [.int x2] (q := 1) (ci := 1) (T := TX1) rfl rfl ⟨lkX2_19, pdX1_columnOf, by decide, by decide⟩ ⟨_, rfl, by decide⟩ rfl (Nat.le_of_ble_eq_true rfl) dX2_isMirror_5 (zm_Call.mono kk (fun r1 w1 u1 k1 => ?_))
  refine z_istore_n (lv' := [(3, .int r1), (0, .ref 5), (1, .int x1), (2, .int x2)]) dX2_isMirror_8 rfl (by decide) rfl ?_
  refine z_aload_n dX2_isMirror_9 rfl 1 rfl ?_
  refine z_getr (ci := 2) (j := 0) (r := 1) (T := TX2) rfl rfl hX2 rfl (by decide) fkX2_9 dX2_isMirror_10 ?_
  refine z_iload_n dX2_isMirror_13 rfl 3 rfl ?_
  refine z_callVi (g' := gX1_rowOf) [.int x2] (q := 1) (ci := 1) (T := TX1) rfl rfl ⟨lkX2_25, pdX1_rowOf, by decide, by decide⟩ ⟨_, rfl, by decide⟩ rfl (Nat.le_of_ble_eq_true rfl) dX2_isMirror_14 (zm_Call.mono k1 (fun r2 w2 u2 k2 => ?_))
  refine z_istore (lv' := [(4, .int r2), (3, .int r1), (0, .ref 5), (1, .int x1), (2, .int x2)]) dX2_isMirror_17 (by decide) rfl ?_
  refine z_iload_n dX2_isMirror_19 rfl 3 rfl ?_
  by_cases h3 : (x1 : Int32).toInt < 4 ∨ 7 < (x1 : Int32).toInt
  ·
    refine z_tableOut (tgt := 112) dX2_isMirror_20 h3 (by decide) ?_
    refine z_iconst (v := 0) dX2_isMirror_112 zciconst_0 ?_
    exact z_zret rfl (by decide) dX2_isMirror_113 (k2.1 h3)
  by_cases h4 : (x1 : Int32).toInt = 4
  ·
    refine z_tableIn (off := 32) (tgt := 52) dX2_isMirror_20 (by omega) (by omega) (by rw [h4]; rfl) (by decide) ?_
    refine z_iload dX2_isMirror_52 0 rfl ?_
    refine z_if_ne (tgt := 61) dX2_isMirror_54 (by decide) (fun h5 => ?_) (fun h5 => ?_)
    ·
      refine z_iconst (v := 0) dX2_isMirror_61 zciconst_0 ?_
      exact z_zret rfl (by decide) dX2_isMirror_62 ((k2.2.1 h4).1 h5)
    ·
      refine z_iconst (v := 1) dX2_isMirror_57 zciconst_1 ?_
      refine z_goto (tgt := 62) dX2_isMirror_58 (by decide) ?_
      exact z_zret rfl (by decide) dX2_isMirror_62 ((k2.2.1 h4).2 h5)
  by_cases h6 : (x1 : Int32).toInt = 5
  ·
    refine z_tableIn (off := 43) (tgt := 63) dX2_isMirror_20 (by omega) (by omega) (by rw [h6]; rfl) (by decide) ?_
    refine z_iload_n dX2_isMirror_63 rfl 1 rfl ?_
    refine z_if_ne (tgt := 71) dX2_isMirror_64 (by decide) (fun h7 => ?_) (fun h7 => ?_)
    ·
      refine z_iconst (v := 0) dX2_isMirror_71 zciconst_0 ?_
      exact z_zret rfl (by decide) dX2_isMirror_72 ((k2.2.2.1 h6).1 h7)
    ·
      refine z_iconst (v := 1) dX2_isMirror_67 zciconst_1 ?_
      refine z_goto (tgt := 72) dX2_isMirror_68 (by decide) ?_
      exact z_zret rfl (by decide) dX2_isMirror_72 ((k2.2.2.1 h6).2 h7)
  by_cases h8 : (x1 : Int32).toInt = 6
  ·
    refine z_tableIn (off := 53) (tgt := 73) dX2_isMirror_20 (by omega) (by omega) (by rw [h8]; rfl) (by decide) ?_
    refine z_iload_n dX2_isMirror_73 rfl 1 rfl ?_
    refine z_iload dX2_isMirror_74 0 rfl ?_
    refine z_iadd dX2_isMirror_76 ?_
    refine z_if_eq (tgt := 94) dX2_isMirror_77 (by decide) (fun h9 => ?_) (fun h9 => ?_)
    ·
      refine z_iconst (v := 1) dX2_isMirror_94 zciconst_1 ?_
      refine z_goto (tgt := 99) dX2_isMirror_95 (by decide) ?_
      exact z_zret rfl (by decide) dX2_isMirror_99 ((k2.2.2.2.1 h8).1 h9)
    ·
      refine z_iload_n dX2_isMirror_80 rfl 1 rfl ?_
      refine z_iload dX2_isMirror_81 0 rfl ?_
      refine z_iadd dX2_isMirror_83 ?_
      refine z_aload_n dX2_isMirror_84 rfl 2 rfl ?_
      refine z_getr (ci := 2) (j := 0) (r := 1) (T := TX2) rfl rfl hX2 rfl (by decide) fkX2_9 dX2_isMirror_85 ?_
      refine z_getiN (ci := 1) (j := 0) (T := TX1) rfl rfl hX1 rfl (by decide) fkX2_28 dX2_isMirror_88 ?_
      refine z_icmp_ne (tgt := 98) dX2_isMirror_91 (by decide) (fun h10 => ?_) (fun h10 => ?_)
      ·
        refine z_iconst (v := 0) dX2_isMirror_98 zciconst_0 ?_
        exact z_zret rfl (by decide) dX2_isMirror_99 (((k2.2.2.2.1 h8).2 h9).1 h10)
      ·
        refine z_iconst (v := 1) dX2_isMirror_94 zciconst_1 ?_
        refine z_goto (tgt := 99) dX2_isMirror_95 (by decide) ?_
        exact z_zret rfl (by decide) dX2_isMirror_99 (((k2.2.2.2.1 h8).2 h9).2 h10)
  have h11 : (x1 : Int32).toInt = 7 := by omega
  refine z_tableIn (off := 80) (tgt := 100) dX2_isMirror_20 (by omega) (by omega) (by rw [h11]; rfl) (by decide) ?_
  refine z_iload_n dX2_isMirror_100 rfl 1 rfl ?_
  refine z_iload dX2_isMirror_101 0 rfl ?_
  refine z_icmp_ne (tgt := 110) dX2_isMirror_103 (by decide) (fun h12 => ?_) (fun h12 => ?_)
  ·
    refine z_iconst (v := 0) dX2_isMirror_110 zciconst_0 ?_
    exact z_zret rfl (by decide) dX2_isMirror_111 ((k2.2.2.2.2 h11).1 h12)
  ·
    refine z_iconst (v := 1) dX2_isMirror_106 zciconst_1 ?_
    refine z_goto (tgt := 111) dX2_isMirror_107 (by decide) ?_
    exact z_zret rfl (by decide) dX2_isMirror_111 ((k2.2.2.2.2 h11).2 h12)
theorem dX2_isAlong_0 : decode cX2_isAlong 0 = .ok (.aload_n 0, 1) := by decide +kernel
theorem dX2_isAlong_1 : decode cX2_isAlong 1 = .ok (.iload_n 1, 1) := by decide +kernel
theorem dX2_isAlong_2 : decode cX2_isAlong 2 = .ok (.iconst 1, 1) := by decide +kernel
theorem dX2_isAlong_3 : decode cX2_isAlong 3 = .ok (.ixor, 1) := by decide +kernel
theorem dX2_isAlong_4 : decode cX2_isAlong 4 = .ok (.iload_n 2, 1) := by decide +kernel
theorem dX2_isAlong_5 : decode cX2_isAlong 5 = .ok (.invokevirtual 32, 3) := by decide +kernel
theorem dX2_isAlong_8 : decode cX2_isAlong 8 = .ok (.ireturn, 1) := by decide +kernel
theorem bX2_isAlong_0 (x1 : Int32) (x2 : Int32) (mem : zm_Mem) (post : zm_Post) (kk : zm_Call gX2_isMirror [.ref 5, .int (x1 ^^^ 1), .int x2] mem (fun r1 w1 u1 => ((r1 = 0 ∨ r1 = 1) ∧ post r1 0 u1))) : zm_Call gX2_isAlong [.ref 5, .int x1, .int x2] mem post := by
  refine z_entry (by decide) (Nat.le_of_ble_eq_true rfl) ?_
  show zm_Z gX2_isAlong post 0 [(0, .ref 5), (1, .int x1), (2, .int x2)] [] mem
  refine z_aload_n dX2_isAlong_0 rfl 0 rfl ?_
  refine z_iload_n dX2_isAlong_1 rfl 1 rfl ?_
  refine z_iconst (v := 1) dX2_isAlong_2 zciconst_1 ?_
  refine z_ixor dX2_isAlong_3 ?_
  refine z_iload_n dX2_isAlong_4 rfl 2 rfl ?_
  refine z_callVi (g' := gX2_isMirror) [.int (x1 ^^^ 1), .int x2] (q := 5) (ci := 2) (T := TX2) rfl rfl ⟨lkX2_32, pdX2_isMirror, by decide, by decide⟩ ⟨_, rfl, by decide⟩ rfl (Nat.le_of_ble_eq_true rfl) dX2_isAlong_5 (zm_Call.mono kk (fun r1 w1 u1 k1 => ?_))
  exact z_zret rfl k1.1 dX2_isAlong_8 k1.2
theorem dX2_hasMirror_0 : decode cX2_hasMirror 0 = .ok (.aload_n 0, 1) := by decide +kernel
theorem dX2_hasMirror_1 : decode cX2_hasMirror 1 = .ok (.getfield 9, 3) := by decide +kernel
theorem dX2_hasMirror_4 : decode cX2_hasMirror 4 = .ok (.iload_n 1, 1) := by decide +kernel
theorem dX2_hasMirror_5 : decode cX2_hasMirror 5 = .ok (.invokevirtual 36, 3) := by decide +kernel
theorem dX2_hasMirror_8 : decode cX2_hasMirror 8 = .ok (.ifCond .ne 5, 3) := by decide +kernel
theorem dX2_hasMirror_11 : decode cX2_hasMirror 11 = .ok (.iconst 0, 1) := by decide +kernel
theorem dX2_hasMirror_12 : decode cX2_hasMirror 12 = .ok (.ireturn, 1) := by decide +kernel
theorem dX2_hasMirror_13 : decode cX2_hasMirror 13 = .ok (.iconst 0, 1) := by decide +kernel
theorem dX2_hasMirror_14 : decode cX2_hasMirror 14 = .ok (.istore_n 2, 1) := by decide +kernel
theorem dX2_hasMirror_15 : decode cX2_hasMirror 15 = .ok (.iload_n 2, 1) := by decide +kernel
theorem dX2_hasMirror_16 : decode cX2_hasMirror 16 = .ok (.aload_n 0, 1) := by decide +kernel
theorem dX2_hasMirror_17 : decode cX2_hasMirror 17 = .ok (.getfield 9, 3) := by decide +kernel
theorem dX2_hasMirror_20 : decode cX2_hasMirror 20 = .ok (.getfield 40, 3) := by decide +kernel
theorem dX2_hasMirror_23 : decode cX2_hasMirror 23 = .ok (.if_icmp .ge 41, 3) := by decide +kernel
theorem dX2_hasMirror_26 : decode cX2_hasMirror 26 = .ok (.aload_n 0, 1) := by decide +kernel
theorem dX2_hasMirror_27 : decode cX2_hasMirror 27 = .ok (.iload_n 1, 1) := by decide +kernel
theorem dX2_hasMirror_28 : decode cX2_hasMirror 28 = .ok (.iload_n 2, 1) := by decide +kernel
theorem dX2_hasMirror_29 : decode cX2_hasMirror 29 = .ok (.invokevirtual 32, 3) := by decide +kernel
theorem dX2_hasMirror_32 : decode cX2_hasMirror 32 = .ok (.ifCond .eq 26, 3) := by decide +kernel
theorem dX2_hasMirror_35 : decode cX2_hasMirror 35 = .ok (.aload_n 0, 1) := by decide +kernel
theorem dX2_hasMirror_36 : decode cX2_hasMirror 36 = .ok (.getfield 15, 3) := by decide +kernel
theorem dX2_hasMirror_39 : decode cX2_hasMirror 39 = .ok (.iload_n 1, 1) := by decide +kernel
theorem dX2_hasMirror_40 : decode cX2_hasMirror 40 = .ok (.aload_n 0, 1) := by decide +kernel
theorem dX2_hasMirror_41 : decode cX2_hasMirror 41 = .ok (.getfield 9, 3) := by decide +kernel
theorem dX2_hasMirror_44 : decode cX2_hasMirror 44 = .ok (.getfield 40, 3) := by decide +kernel
theorem dX2_hasMirror_47 : decode cX2_hasMirror 47 = .ok (.imul, 1) := by decide +kernel
theorem dX2_hasMirror_48 : decode cX2_hasMirror 48 = .ok (.iload_n 2, 1) := by decide +kernel
theorem dX2_hasMirror_49 : decode cX2_hasMirror 49 = .ok (.iadd, 1) := by decide +kernel
theorem dX2_hasMirror_50 : decode cX2_hasMirror 50 = .ok (.invokevirtual 43, 3) := by decide +kernel
theorem dX2_hasMirror_53 : decode cX2_hasMirror 53 = .ok (.ifCond .eq 5, 3) := by decide +kernel
theorem dX2_hasMirror_56 : decode cX2_hasMirror 56 = .ok (.iconst 1, 1) := by decide +kernel
theorem dX2_hasMirror_57 : decode cX2_hasMirror 57 = .ok (.ireturn, 1) := by decide +kernel
theorem dX2_hasMirror_58 : decode cX2_hasMirror 58 = .ok (.iinc 2 1, 3) := by decide +kernel
theorem dX2_hasMirror_61 : decode cX2_hasMirror 61 = .ok (.goto (-46), 3) := by decide +kernel
theorem dX2_hasMirror_64 : decode cX2_hasMirror 64 = .ok (.iconst 0, 1) := by decide +kernel
theorem dX2_hasMirror_65 : decode cX2_hasMirror 65 = .ok (.ireturn, 1) := by decide +kernel
theorem bX2_hasMirror_0 (x1 : Int32) (mem : zm_Mem) (post : zm_Post) (kk : zm_Call gX1_hasTurn [.ref 1, .int x1] mem (fun r1 w1 u1 => ((¬ r1 = 0 → zm_Z gX2_hasMirror post 15 [(0, .ref 5), (1, .int x1), (2, .int 0)] [] u1) ∧ (r1 = 0 → post 0 0 u1)))) : zm_Call gX2_hasMirror [.ref 5, .int x1] mem post := by
  refine z_entry (by decide) (Nat.le_of_ble_eq_true rfl) ?_
  show zm_Z gX2_hasMirror post 0 [(0, .ref 5), (1, .int x1)] [] mem
  refine z_aload_n dX2_hasMirror_0 rfl 0 rfl ?_
  refine z_getr (ci := 2) (j := 0) (r := 1) (T := TX2) rfl rfl hX2 rfl (by decide) fkX2_9 dX2_hasMirror_1 ?_
  refine z_iload_n dX2_hasMirror_4 rfl 1 rfl ?_
  refine z_callVi (g' := gX1_hasTurn) [.int x1] (q := 1) (ci := 1) (T := TX1) rfl rfl ⟨lkX2_36, pdX1_hasTurn, by decide, by decide⟩ ⟨_, rfl, by decide⟩ rfl (Nat.le_of_ble_eq_true rfl) dX2_hasMirror_5 (zm_Call.mono kk (fun r1 w1 u1 k1 => ?_))
  refine z_if_ne (tgt := 13) dX2_hasMirror_8 (by decide) (fun h2 => ?_) (fun h2 => ?_)
  ·
    refine z_iconst (v := 0) dX2_hasMirror_13 zciconst_0 ?_
    refine z_istore_n (lv' := [(2, .int 0), (0, .ref 5), (1, .int x1)]) dX2_hasMirror_14 rfl (by decide) rfl ?_
    refine z_sub [1, 2, 0] rfl ?_
    exact (k1.1 h2)
  ·
    refine z_iconst (v := 0) dX2_hasMirror_11 zciconst_0 ?_
    exact z_zret rfl (by decide) dX2_hasMirror_12 (k1.2 h2)
theorem bX2_hasMirror_15 (x1 : Int32) (x2 : Int32) (mem : zm_Mem) (post : zm_Post) (kk : (((mem 1 2) ≤ x2 → post 0 0 mem) ∧ (¬ (mem 1 2) ≤ x2 → zm_Call gX2_isMirror [.ref 5, .int x1, .int x2] mem (fun r2 w2 u2 => ((r2 = 0 → zm_Z gX2_hasMirror post 15 [(0, .ref 5), (1, .int x1), (2, .int (x2 + 1))] [] u2) ∧ (¬ r2 = 0 → zm_Call gX5_isKeptBy [.ref 2, .int ((x1 * (u2 1 2)) + x2)] u2 (fun r4 w4 u4 => ((r4 = 0 → zm_Z gX2_hasMirror post 15 [(0, .ref 5), (1, .int x1), (2, .int (x2 + 1))] [] u4) ∧ (¬ r4 = 0 → post 1 0 u4))))))))) : zm_Z gX2_hasMirror post 15 [(0, .ref 5), (1, .int x1), (2, .int x2)] [] mem := by
  refine z_iload_n dX2_hasMirror_15 rfl 2 rfl ?_
  refine z_aload_n dX2_hasMirror_16 rfl 0 rfl ?_
  refine z_getr (ci := 2) (j := 0) (r := 1) (T := TX2) rfl rfl hX2 rfl (by decide) fkX2_9 dX2_hasMirror_17 ?_
  refine z_getiN (ci := 1) (j := 2) (T := TX1) rfl rfl hX1 rfl (by decide) fkX2_40 dX2_hasMirror_20 ?_
  refine z_icmp_ge (tgt := 64) dX2_hasMirror_23 (by decide) (fun h1 => ?_) (fun h1 => ?_)
  ·
    refine z_iconst (v := 0) dX2_hasMirror_64 zciconst_0 ?_
    exact z_zret rfl (by decide) dX2_hasMirror_65 (kk.1 h1)
  ·
    refine z_aload_n dX2_hasMirror_26 rfl 0 rfl ?_
    refine z_iload_n dX2_hasMirror_27 rfl 1 rfl ?_
    refine z_iload_n dX2_hasMirror_28 rfl 2 rfl ?_
    refine z_callVi (g' := gX2_isMirror) [.int x1, .int x2] (q := 5) (ci := 2) (T := TX2) rfl rfl ⟨lkX2_32, pdX2_isMirror, by decide, by decide⟩ ⟨_, rfl, by decide⟩ rfl (Nat.le_of_ble_eq_true rfl) dX2_hasMirror_29 (zm_Call.mono (kk.2 h1) (fun r2 w2 u2 k2 => ?_))
    refine z_if_eq (tgt := 58) dX2_hasMirror_32 (by decide) (fun h3 => ?_) (fun h3 => ?_)
    ·
      refine z_iinc (v := x2 + 1) (lv' := [(2, .int (x2 + 1)), (0, .ref 5), (1, .int x1)]) dX2_hasMirror_58 2 rfl (by rw [zciconst_1]) (by decide) rfl ?_
      refine z_goto (tgt := 15) dX2_hasMirror_61 (by decide) ?_
      refine z_sub [1, 2, 0] rfl ?_
      exact (k2.1 h3)
    ·
      refine z_aload_n dX2_hasMirror_35 rfl 0 rfl ?_
      refine z_getr (ci := 2) (j := 1) (r := 2) (T := TX2) rfl rfl hX2 rfl (by decide) fkX2_15 dX2_hasMirror_36 ?_
      refine z_iload_n dX2_hasMirror_39 rfl 1 rfl ?_
      refine z_aload_n dX2_hasMirror_40 rfl 0 rfl ?_
      refine z_getr (ci := 2) (j := 0) (r := 1) (T := TX2) rfl rfl hX2 rfl (by decide) fkX2_9 dX2_hasMirror_41 ?_
      refine z_getiN (ci := 1) (j := 2) (T := TX1) rfl rfl hX1 rfl (by decide) fkX2_40 dX2_hasMirror_44 ?_
      refine z_imul dX2_hasMirror_47 ?_
      refine z_iload_n dX2_hasMirror_48 rfl 2 rfl ?_
      refine z_iadd dX2_hasMirror_49 ?_
      refine z_callVi (g' := gX5_isKeptBy) [.int ((x1 * (u2 1 2)) + x2)] (q := 2) (ci := 5) (T := TX5) rfl rfl ⟨lkX2_43, pdX5_isKeptBy, by decide, by decide⟩ ⟨_, rfl, by decide⟩ rfl (Nat.le_of_ble_eq_true rfl) dX2_hasMirror_50 (zm_Call.mono (k2.2 h3) (fun r4 w4 u4 k4 => ?_))
      refine z_if_eq (tgt := 58) dX2_hasMirror_53 (by decide) (fun h5 => ?_) (fun h5 => ?_)
      ·
        refine z_iinc (v := x2 + 1) (lv' := [(2, .int (x2 + 1)), (0, .ref 5), (1, .int x1)]) dX2_hasMirror_58 2 rfl (by rw [zciconst_1]) (by decide) rfl ?_
        refine z_goto (tgt := 15) dX2_hasMirror_61 (by decide) ?_
        refine z_sub [1, 2, 0] rfl ?_
        exact (k4.1 h5)
      ·
        refine z_iconst (v := 1) dX2_hasMirror_56 zciconst_1 ?_
        exact z_zret rfl (by decide) dX2_hasMirror_57 (k4.2 h5)
theorem dX2_isMirrorBehindShift_0 : decode cX2_isMirrorBehindShift 0 = .ok (.aload_n 0, 1) := by decide +kernel
theorem dX2_isMirrorBehindShift_1 : decode cX2_isMirrorBehindShift 1 = .ok (.getfield 9, 3) := by decide +kernel
theorem dX2_isMirrorBehindShift_4 : decode cX2_isMirrorBehindShift 4 = .ok (.iload_n 2, 1) := by decide +kernel
theorem dX2_isMirrorBehindShift_5 : decode cX2_isMirrorBehindShift 5 = .ok (.invokevirtual 19, 3) := by decide +kernel
theorem dX2_isMirrorBehindShift_8 : decode cX2_isMirrorBehindShift 8 = .ok (.istore_n 3, 1) := by decide +kernel
theorem dX2_isMirrorBehindShift_9 : decode cX2_isMirrorBehindShift 9 = .ok (.aload_n 0, 1) := by decide +kernel
theorem dX2_isMirrorBehindShift_10 : decode cX2_isMirrorBehindShift 10 = .ok (.getfield 9, 3) := by decide +kernel
theorem dX2_isMirrorBehindShift_13 : decode cX2_isMirrorBehindShift 13 = .ok (.iload_n 2, 1) := by decide +kernel
theorem dX2_isMirrorBehindShift_14 : decode cX2_isMirrorBehindShift 14 = .ok (.invokevirtual 25, 3) := by decide +kernel
theorem dX2_isMirrorBehindShift_17 : decode cX2_isMirrorBehindShift 17 = .ok (.istore 4, 2) := by decide +kernel
theorem dX2_isMirrorBehindShift_19 : decode cX2_isMirrorBehindShift 19 = .ok (.iconst 0, 1) := by decide +kernel
theorem dX2_isMirrorBehindShift_20 : decode cX2_isMirrorBehindShift 20 = .ok (.istore 5, 2) := by decide +kernel
theorem dX2_isMirrorBehindShift_22 : decode cX2_isMirrorBehindShift 22 = .ok (.iload 5, 2) := by decide +kernel
theorem dX2_isMirrorBehindShift_24 : decode cX2_isMirrorBehindShift 24 = .ok (.aload_n 0, 1) := by decide +kernel
theorem dX2_isMirrorBehindShift_25 : decode cX2_isMirrorBehindShift 25 = .ok (.getfield 9, 3) := by decide +kernel
theorem dX2_isMirrorBehindShift_28 : decode cX2_isMirrorBehindShift 28 = .ok (.getfield 40, 3) := by decide +kernel
theorem dX2_isMirrorBehindShift_31 : decode cX2_isMirrorBehindShift 31 = .ok (.if_icmp .ge 75, 3) := by decide +kernel
theorem dX2_isMirrorBehindShift_34 : decode cX2_isMirrorBehindShift 34 = .ok (.aload_n 0, 1) := by decide +kernel
theorem dX2_isMirrorBehindShift_35 : decode cX2_isMirrorBehindShift 35 = .ok (.getfield 9, 3) := by decide +kernel
theorem dX2_isMirrorBehindShift_38 : decode cX2_isMirrorBehindShift 38 = .ok (.iload_n 3, 1) := by decide +kernel
theorem dX2_isMirrorBehindShift_39 : decode cX2_isMirrorBehindShift 39 = .ok (.aload_n 0, 1) := by decide +kernel
theorem dX2_isMirrorBehindShift_40 : decode cX2_isMirrorBehindShift 40 = .ok (.getfield 9, 3) := by decide +kernel
theorem dX2_isMirrorBehindShift_43 : decode cX2_isMirrorBehindShift 43 = .ok (.iload 5, 2) := by decide +kernel
theorem dX2_isMirrorBehindShift_45 : decode cX2_isMirrorBehindShift 45 = .ok (.invokevirtual 19, 3) := by decide +kernel
theorem dX2_isMirrorBehindShift_48 : decode cX2_isMirrorBehindShift 48 = .ok (.isub, 1) := by decide +kernel
theorem dX2_isMirrorBehindShift_49 : decode cX2_isMirrorBehindShift 49 = .ok (.iload 4, 2) := by decide +kernel
theorem dX2_isMirrorBehindShift_51 : decode cX2_isMirrorBehindShift 51 = .ok (.aload_n 0, 1) := by decide +kernel
theorem dX2_isMirrorBehindShift_52 : decode cX2_isMirrorBehindShift 52 = .ok (.getfield 9, 3) := by decide +kernel
theorem dX2_isMirrorBehindShift_55 : decode cX2_isMirrorBehindShift 55 = .ok (.iload 5, 2) := by decide +kernel
theorem dX2_isMirrorBehindShift_57 : decode cX2_isMirrorBehindShift 57 = .ok (.invokevirtual 25, 3) := by decide +kernel
theorem dX2_isMirrorBehindShift_60 : decode cX2_isMirrorBehindShift 60 = .ok (.isub, 1) := by decide +kernel
theorem dX2_isMirrorBehindShift_61 : decode cX2_isMirrorBehindShift 61 = .ok (.invokevirtual 48, 3) := by decide +kernel
theorem dX2_isMirrorBehindShift_64 : decode cX2_isMirrorBehindShift 64 = .ok (.istore 6, 2) := by decide +kernel
theorem dX2_isMirrorBehindShift_66 : decode cX2_isMirrorBehindShift 66 = .ok (.aload_n 0, 1) := by decide +kernel
theorem dX2_isMirrorBehindShift_67 : decode cX2_isMirrorBehindShift 67 = .ok (.iload_n 1, 1) := by decide +kernel
theorem dX2_isMirrorBehindShift_68 : decode cX2_isMirrorBehindShift 68 = .ok (.iload 5, 2) := by decide +kernel
theorem dX2_isMirrorBehindShift_70 : decode cX2_isMirrorBehindShift 70 = .ok (.invokevirtual 52, 3) := by decide +kernel
theorem dX2_isMirrorBehindShift_73 : decode cX2_isMirrorBehindShift 73 = .ok (.ifCond .eq 27, 3) := by decide +kernel
theorem dX2_isMirrorBehindShift_76 : decode cX2_isMirrorBehindShift 76 = .ok (.aload_n 0, 1) := by decide +kernel
theorem dX2_isMirrorBehindShift_77 : decode cX2_isMirrorBehindShift 77 = .ok (.iload_n 1, 1) := by decide +kernel
theorem dX2_isMirrorBehindShift_78 : decode cX2_isMirrorBehindShift 78 = .ok (.iload 6, 2) := by decide +kernel
theorem dX2_isMirrorBehindShift_80 : decode cX2_isMirrorBehindShift 80 = .ok (.invokevirtual 32, 3) := by decide +kernel
theorem dX2_isMirrorBehindShift_83 : decode cX2_isMirrorBehindShift 83 = .ok (.ifCond .eq 17, 3) := by decide +kernel
theorem dX2_isMirrorBehindShift_86 : decode cX2_isMirrorBehindShift 86 = .ok (.aload_n 0, 1) := by decide +kernel
theorem dX2_isMirrorBehindShift_87 : decode cX2_isMirrorBehindShift 87 = .ok (.getfield 15, 3) := by decide +kernel
theorem dX2_isMirrorBehindShift_90 : decode cX2_isMirrorBehindShift 90 = .ok (.iload 5, 2) := by decide +kernel
theorem dX2_isMirrorBehindShift_92 : decode cX2_isMirrorBehindShift 92 = .ok (.invokevirtual 43, 3) := by decide +kernel
theorem dX2_isMirrorBehindShift_95 : decode cX2_isMirrorBehindShift 95 = .ok (.ifCond .eq 5, 3) := by decide +kernel
theorem dX2_isMirrorBehindShift_98 : decode cX2_isMirrorBehindShift 98 = .ok (.iconst 1, 1) := by decide +kernel
theorem dX2_isMirrorBehindShift_99 : decode cX2_isMirrorBehindShift 99 = .ok (.ireturn, 1) := by decide +kernel
theorem dX2_isMirrorBehindShift_100 : decode cX2_isMirrorBehindShift 100 = .ok (.iinc 5 1, 3) := by decide +kernel
theorem dX2_isMirrorBehindShift_103 : decode cX2_isMirrorBehindShift 103 = .ok (.goto (-81), 3) := by decide +kernel
theorem dX2_isMirrorBehindShift_106 : decode cX2_isMirrorBehindShift 106 = .ok (.iconst 0, 1) := by decide +kernel
theorem dX2_isMirrorBehindShift_107 : decode cX2_isMirrorBehindShift 107 = .ok (.ireturn, 1) := by decide +kernel
theorem bX2_isMirrorBehindShift_0 (x1 : Int32) (x2 : Int32) (mem : zm_Mem) (post : zm_Post) (kk : zm_Call gX1_columnOf [.ref 1, .int x2] mem (fun r1 w1 u1 => zm_Call gX1_rowOf [.ref 1, .int x2] u1 (fun r2 w2 u2 => zm_Z gX2_isMirrorBehindShift post 22 [(0, .ref 5), (1, .int x1), (3, .int r1), (4, .int r2), (5, .int 0)] [] u2))) : zm_Call gX2_isMirrorBehindShift [.ref 5, .int x1, .int x2] mem post := by
  refine z_entry (by decide) (Nat.le_of_ble_eq_true rfl) ?_
  show zm_Z gX2_isMirrorBehindShift post 0 [(0, .ref 5), (1, .int x1), (2, .int x2)] [] mem
  refine z_aload_n dX2_isMirrorBehindShift_0 rfl 0 rfl ?_
  refine z_getr (ci := 2) (j := 0) (r := 1) (T := TX2) rfl rfl hX2 rfl (by decide) fkX2_9 dX2_isMirrorBehindShift_1 ?_
  refine z_iload_n dX2_isMirrorBehindShift_4 rfl 2 rfl ?_
  refine z_callVi (g' := gX1_columnOf) [.int x2] (q := 1) (ci := 1) (T := TX1) rfl rfl ⟨lkX2_19, pdX1_columnOf, by decide, by decide⟩ ⟨_, rfl, by decide⟩ rfl (Nat.le_of_ble_eq_true rfl) dX2_isMirrorBehindShift_5 (zm_Call.mono kk (fun r1 w1 u1 k1 => ?_))
  refine z_istore_n (lv' := [(3, .int r1), (0, .ref 5), (1, .int x1), (2, .int x2)]) dX2_isMirrorBehindShift_8 rfl (by decide) rfl ?_
  refine z_aload_n dX2_isMirrorBehindShift_9 rfl 1 rfl ?_
  refine z_getr (ci := 2) (j := 0) (r := 1) (T := TX2) rfl rfl hX2 rfl (by decide) fkX2_9 dX2_isMirrorBehindShift_10 ?_
  refine z_iload_n dX2_isMirrorBehindShift_13 rfl 3 rfl ?_
  refine z_callVi (g' := gX1_rowOf) [.int x2] (q := 1) (ci := 1) (T := TX1) rfl rfl ⟨lkX2_25, pdX1_rowOf, by decide, by decide⟩ ⟨_, rfl, by decide⟩ rfl (Nat.le_of_ble_eq_true rfl) dX2_isMirrorBehindShift_14 (zm_Call.mono k1 (fun r2 w2 u2 k2 => ?_))
  refine z_istore (lv' := [(4, .int r2), (3, .int r1), (0, .ref 5), (1, .int x1), (2, .int x2)]) dX2_isMirrorBehindShift_17 (by decide) rfl ?_
  refine z_iconst (v := 0) dX2_isMirrorBehindShift_19 zciconst_0 ?_
  refine z_istore (lv' := [(5, .int 0), (4, .int r2), (3, .int r1), (0, .ref 5), (1, .int x1), (2, .int x2)]) dX2_isMirrorBehindShift_20 (by decide) rfl ?_
  refine z_sub [3, 4, 2, 1, 0] rfl ?_
  exact k2
theorem bX2_isMirrorBehindShift_22 (x1 : Int32) (x3 : Int32) (x4 : Int32) (x5 : Int32) (mem : zm_Mem) (post : zm_Post) (kk : (((mem 1 2) ≤ x5 → post 0 0 mem) ∧ (¬ (mem 1 2) ≤ x5 → zm_Call gX1_columnOf [.ref 1, .int x5] mem (fun r2 w2 u2 => zm_Call gX1_rowOf [.ref 1, .int x5] u2 (fun r3 w3 u3 => zm_Call gX1_cellAt [.ref 1, .int (x3 - r2), .int (x4 - r3)] u3 (fun r4 w4 u4 => zm_Call gX2_isAlong [.ref 5, .int x1, .int x5] u4 (fun r5 w5 u5 => ((r5 = 0 → zm_Z gX2_isMirrorBehindShift post 22 [(0, .ref 5), (1, .int x1), (3, .int x3), (4, .int x4), (5, .int (x5 + 1))] [] u5) ∧ (¬ r5 = 0 → zm_Call gX2_isMirror [.ref 5, .int x1, .int r4] u5 (fun r7 w7 u7 => ((r7 = 0 → zm_Z gX2_isMirrorBehindShift post 22 [(0, .ref 5), (1, .int x1), (3, .int x3), (4, .int x4), (5, .int (x5 + 1))] [] u7) ∧ (¬ r7 = 0 → zm_Call gX5_isKeptBy [.ref 2, .int x5] u7 (fun r9 w9 u9 => ((r9 = 0 → zm_Z gX2_isMirrorBehindShift post 22 [(0, .ref 5), (1, .int x1), (3, .int x3), (4, .int x4), (5, .int (x5 + 1))] [] u9) ∧ (¬ r9 = 0 → post 1 0 u9))))))))))))))) : zm_Z gX2_isMirrorBehindShift post 22 [(0, .ref 5), (1, .int x1), (3, .int x3), (4, .int x4), (5, .int x5)] [] mem := by
  refine z_iload dX2_isMirrorBehindShift_22 4 rfl ?_
  refine z_aload_n dX2_isMirrorBehindShift_24 rfl 0 rfl ?_
  refine z_getr (ci := 2) (j := 0) (r := 1) (T := TX2) rfl rfl hX2 rfl (by decide) fkX2_9 dX2_isMirrorBehindShift_25 ?_
  refine z_getiN (ci := 1) (j := 2) (T := TX1) rfl rfl hX1 rfl (by decide) fkX2_40 dX2_isMirrorBehindShift_28 ?_
  refine z_icmp_ge (tgt := 106) dX2_isMirrorBehindShift_31 (by decide) (fun h1 => ?_) (fun h1 => ?_)
  ·
    refine z_iconst (v := 0) dX2_isMirrorBehindShift_106 zciconst_0 ?_
    exact z_zret rfl (by decide) dX2_isMirrorBehindShift_107 (kk.1 h1)
  ·
    refine z_aload_n dX2_isMirrorBehindShift_34 rfl 0 rfl ?_
    refine z_getr (ci := 2) (j := 0) (r := 1) (T := TX2) rfl rfl hX2 rfl (by decide) fkX2_9 dX2_isMirrorBehindShift_35 ?_
    refine z_iload_n dX2_isMirrorBehindShift_38 rfl 2 rfl ?_
    refine z_aload_n dX2_isMirrorBehindShift_39 rfl 0 rfl ?_
    refine z_getr (ci := 2) (j := 0) (r := 1) (T := TX2) rfl rfl hX2 rfl (by decide) fkX2_9 dX2_isMirrorBehindShift_40 ?_
    refine z_iload dX2_isMirrorBehindShift_43 4 rfl ?_
    refine z_callVi (g' := gX1_columnOf) [.int x5] (q := 1) (ci := 1) (T := TX1) rfl rfl ⟨lkX2_19, pdX1_columnOf, by decide, by decide⟩ ⟨_, rfl, by decide⟩ rfl (Nat.le_of_ble_eq_true rfl) dX2_isMirrorBehindShift_45 (zm_Call.mono (kk.2 h1) (fun r2 w2 u2 k2 => ?_))
    refine z_isub dX2_isMirrorBehindShift_48 ?_
    refine z_iload dX2_isMirrorBehindShift_49 3 rfl ?_
    refine z_aload_n dX2_isMirrorBehindShift_51 rfl 0 rfl ?_
    refine z_getr (ci := 2) (j := 0) (r := 1) (T := TX2) rfl rfl hX2 rfl (by decide) fkX2_9 dX2_isMirrorBehindShift_52 ?_
    refine z_iload dX2_isMirrorBehindShift_55 4 rfl ?_
    refine z_callVi (g' := gX1_rowOf) [.int x5] (q := 1) (ci := 1) (T := TX1) rfl rfl ⟨lkX2_25, pdX1_rowOf, by decide, by decide⟩ ⟨_, rfl, by decide⟩ rfl (Nat.le_of_ble_eq_true rfl) dX2_isMirrorBehindShift_57 (zm_Call.mono k2 (fun r3 w3 u3 k3 => ?_))
    refine z_isub dX2_isMirrorBehindShift_60 ?_
    refine z_callVi (g' := gX1_cellAt) [.int (x3 - r2), .int (x4 - r3)] (q := 1) (ci := 1) (T := TX1) rfl rfl ⟨lkX2_48, pdX1_cellAt, by decide, by decide⟩ ⟨_, rfl, by decide⟩ rfl (Nat.le_of_ble_eq_true rfl) dX2_isMirrorBehindShift_61 (zm_Call.mono k3 (fun r4 w4 u4 k4 => ?_))
    refine z_istore (lv' := [(6, .int r4), (0, .ref 5), (1, .int x1), (3, .int x3), (4, .int x4), (5, .int x5)]) dX2_isMirrorBehindShift_64 (by decide) rfl ?_
    refine z_aload_n dX2_isMirrorBehindShift_66 rfl 1 rfl ?_
    refine z_iload_n dX2_isMirrorBehindShift_67 rfl 2 rfl ?_
    refine z_iload dX2_isMirrorBehindShift_68 5 rfl ?_
    refine z_callVi (g' := gX2_isAlong) [.int x1, .int x5] (q := 5) (ci := 2) (T := TX2) rfl rfl ⟨lkX2_52, pdX2_isAlong, by decide, by decide⟩ ⟨_, rfl, by decide⟩ rfl (Nat.le_of_ble_eq_true rfl) dX2_isMirrorBehindShift_70 (zm_Call.mono k4 (fun r5 w5 u5 k5 => ?_))
    refine z_if_eq (tgt := 100) dX2_isMirrorBehindShift_73 (by decide) (fun h6 => ?_) (fun h6 => ?_)
    ·
      refine z_iinc (v := x5 + 1) (lv' := [(5, .int (x5 + 1)), (6, .int r4), (0, .ref 5), (1, .int x1), (3, .int x3), (4, .int x4)]) dX2_isMirrorBehindShift_100 5 rfl (by rw [zciconst_1]) (by decide) rfl ?_
      refine z_goto (tgt := 22) dX2_isMirrorBehindShift_103 (by decide) ?_
      refine z_sub [2, 3, 4, 5, 0] rfl ?_
      exact (k5.1 h6)
    ·
      refine z_aload_n dX2_isMirrorBehindShift_76 rfl 1 rfl ?_
      refine z_iload_n dX2_isMirrorBehindShift_77 rfl 2 rfl ?_
      refine z_iload dX2_isMirrorBehindShift_78 0 rfl ?_
      refine z_callVi (g' := gX2_isMirror) [.int x1, .int r4] (q := 5) (ci := 2) (T := TX2) rfl rfl ⟨lkX2_32, pdX2_isMirror, by decide, by decide⟩ ⟨_, rfl, by decide⟩ rfl (Nat.le_of_ble_eq_true rfl) dX2_isMirrorBehindShift_80 (zm_Call.mono (k5.2 h6) (fun r7 w7 u7 k7 => ?_))
      refine z_if_eq (tgt := 100) dX2_isMirrorBehindShift_83 (by decide) (fun h8 => ?_) (fun h8 => ?_)
      ·
        refine z_iinc (v := x5 + 1) (lv' := [(5, .int (x5 + 1)), (6, .int r4), (0, .ref 5), (1, .int x1), (3, .int x3), (4, .int x4)]) dX2_isMirrorBehindShift_100 5 rfl (by rw [zciconst_1]) (by decide) rfl ?_
        refine z_goto (tgt := 22) dX2_isMirrorBehindShift_103 (by decide) ?_
        refine z_sub [2, 3, 4, 5, 0] rfl ?_
        exact (k7.1 h8)
      ·
        refine z_aload_n dX2_isMirrorBehindShift_86 rfl 1 rfl ?_
        refine z_getr (ci := 2) (j := 1) (r := 2) (T := TX2) rfl rfl hX2 rfl (by decide) fkX2_15 dX2_isMirrorBehindShift_87 ?_
        refine z_iload dX2_isMirrorBehindShift_90 5 rfl ?_
        refine z_callVi (g' := gX5_isKeptBy) [.int x5] (q := 2) (ci := 5) (T := TX5) rfl rfl ⟨lkX2_43, pdX5_isKeptBy, by decide, by decide⟩ ⟨_, rfl, by decide⟩ rfl (Nat.le_of_ble_eq_true rfl) dX2_isMirrorBehindShift_92 (zm_Call.mono (k7.2 h8) (fun r9 w9 u9 k9 => ?_))
        refine z_if_eq (tgt := 100) dX2_isMirrorBehindShift_95 (by decide) (fun h10 => ?_) (fun h10 => ?_)
        ·
          refine z_iinc (v := x5 + 1) (lv' := [(5, .int (x5 + 1)), (6, .int r4), (0, .ref 5), (1, .int x1), (3, .int x3), (4, .int x4)]) dX2_isMirrorBehindShift_100 5 rfl (by rw [zciconst_1]) (by decide) rfl ?_
          refine z_goto (tgt := 22) dX2_isMirrorBehindShift_103 (by decide) ?_
          refine z_sub [2, 3, 4, 5, 0] rfl ?_
          exact (k9.1 h10)
        ·
          refine z_iconst (v := 1) dX2_isMirrorBehindShift_98 zciconst_1 ?_
          exact z_zret rfl (by decide) dX2_isMirrorBehindShift_99 (k9.2 h10)
theorem dX2_allMirrorsBehindShifts_0 : decode cX2_allMirrorsBehindShifts 0 = .ok (.iconst 4, 1) := by decide +kernel
theorem dX2_allMirrorsBehindShifts_1 : decode cX2_allMirrorsBehindShifts 1 = .ok (.aload_n 0, 1) := by decide +kernel
theorem dX2_allMirrorsBehindShifts_2 : decode cX2_allMirrorsBehindShifts 2 = .ok (.getfield 9, 3) := by decide +kernel
theorem dX2_allMirrorsBehindShifts_5 : decode cX2_allMirrorsBehindShifts 5 = .ok (.getfield 40, 3) := by decide +kernel
theorem dX2_allMirrorsBehindShifts_8 : decode cX2_allMirrorsBehindShifts 8 = .ok (.imul, 1) := by decide +kernel
theorem dX2_allMirrorsBehindShifts_9 : decode cX2_allMirrorsBehindShifts 9 = .ok (.istore_n 1, 1) := by decide +kernel
theorem dX2_allMirrorsBehindShifts_10 : decode cX2_allMirrorsBehindShifts 10 = .ok (.iload_n 1, 1) := by decide +kernel
theorem dX2_allMirrorsBehindShifts_11 : decode cX2_allMirrorsBehindShifts 11 = .ok (.aload_n 0, 1) := by decide +kernel
theorem dX2_allMirrorsBehindShifts_12 : decode cX2_allMirrorsBehindShifts 12 = .ok (.getfield 9, 3) := by decide +kernel
theorem dX2_allMirrorsBehindShifts_15 : decode cX2_allMirrorsBehindShifts 15 = .ok (.invokevirtual 55, 3) := by decide +kernel
theorem dX2_allMirrorsBehindShifts_18 : decode cX2_allMirrorsBehindShifts 18 = .ok (.if_icmp .ge 56, 3) := by decide +kernel
theorem dX2_allMirrorsBehindShifts_21 : decode cX2_allMirrorsBehindShifts 21 = .ok (.aload_n 0, 1) := by decide +kernel
theorem dX2_allMirrorsBehindShifts_22 : decode cX2_allMirrorsBehindShifts 22 = .ok (.getfield 9, 3) := by decide +kernel
theorem dX2_allMirrorsBehindShifts_25 : decode cX2_allMirrorsBehindShifts 25 = .ok (.iload_n 1, 1) := by decide +kernel
theorem dX2_allMirrorsBehindShifts_26 : decode cX2_allMirrorsBehindShifts 26 = .ok (.invokevirtual 59, 3) := by decide +kernel
theorem dX2_allMirrorsBehindShifts_29 : decode cX2_allMirrorsBehindShifts 29 = .ok (.ifCond .eq 39, 3) := by decide +kernel
theorem dX2_allMirrorsBehindShifts_32 : decode cX2_allMirrorsBehindShifts 32 = .ok (.aload_n 0, 1) := by decide +kernel
theorem dX2_allMirrorsBehindShifts_33 : decode cX2_allMirrorsBehindShifts 33 = .ok (.getfield 15, 3) := by decide +kernel
theorem dX2_allMirrorsBehindShifts_36 : decode cX2_allMirrorsBehindShifts 36 = .ok (.iload_n 1, 1) := by decide +kernel
theorem dX2_allMirrorsBehindShifts_37 : decode cX2_allMirrorsBehindShifts 37 = .ok (.invokevirtual 43, 3) := by decide +kernel
theorem dX2_allMirrorsBehindShifts_40 : decode cX2_allMirrorsBehindShifts 40 = .ok (.ifCond .eq 28, 3) := by decide +kernel
theorem dX2_allMirrorsBehindShifts_43 : decode cX2_allMirrorsBehindShifts 43 = .ok (.aload_n 0, 1) := by decide +kernel
theorem dX2_allMirrorsBehindShifts_44 : decode cX2_allMirrorsBehindShifts 44 = .ok (.aload_n 0, 1) := by decide +kernel
theorem dX2_allMirrorsBehindShifts_45 : decode cX2_allMirrorsBehindShifts 45 = .ok (.getfield 9, 3) := by decide +kernel
theorem dX2_allMirrorsBehindShifts_48 : decode cX2_allMirrorsBehindShifts 48 = .ok (.iload_n 1, 1) := by decide +kernel
theorem dX2_allMirrorsBehindShifts_49 : decode cX2_allMirrorsBehindShifts 49 = .ok (.invokevirtual 62, 3) := by decide +kernel
theorem dX2_allMirrorsBehindShifts_52 : decode cX2_allMirrorsBehindShifts 52 = .ok (.aload_n 0, 1) := by decide +kernel
theorem dX2_allMirrorsBehindShifts_53 : decode cX2_allMirrorsBehindShifts 53 = .ok (.getfield 9, 3) := by decide +kernel
theorem dX2_allMirrorsBehindShifts_56 : decode cX2_allMirrorsBehindShifts 56 = .ok (.iload_n 1, 1) := by decide +kernel
theorem dX2_allMirrorsBehindShifts_57 : decode cX2_allMirrorsBehindShifts 57 = .ok (.invokevirtual 65, 3) := by decide +kernel
theorem dX2_allMirrorsBehindShifts_60 : decode cX2_allMirrorsBehindShifts 60 = .ok (.invokevirtual 68, 3) := by decide +kernel
theorem dX2_allMirrorsBehindShifts_63 : decode cX2_allMirrorsBehindShifts 63 = .ok (.ifCond .ne 5, 3) := by decide +kernel
theorem dX2_allMirrorsBehindShifts_66 : decode cX2_allMirrorsBehindShifts 66 = .ok (.iconst 0, 1) := by decide +kernel
theorem dX2_allMirrorsBehindShifts_67 : decode cX2_allMirrorsBehindShifts 67 = .ok (.ireturn, 1) := by decide +kernel
theorem dX2_allMirrorsBehindShifts_68 : decode cX2_allMirrorsBehindShifts 68 = .ok (.iinc 1 1, 3) := by decide +kernel
theorem dX2_allMirrorsBehindShifts_71 : decode cX2_allMirrorsBehindShifts 71 = .ok (.goto (-61), 3) := by decide +kernel
theorem dX2_allMirrorsBehindShifts_74 : decode cX2_allMirrorsBehindShifts 74 = .ok (.iconst 1, 1) := by decide +kernel
theorem dX2_allMirrorsBehindShifts_75 : decode cX2_allMirrorsBehindShifts 75 = .ok (.ireturn, 1) := by decide +kernel
theorem bX2_allMirrorsBehindShifts_0 (mem : zm_Mem) (post : zm_Post) (kk : zm_Z gX2_allMirrorsBehindShifts post 10 [(0, .ref 5), (1, .int (4 * (mem 1 2)))] [] mem) : zm_Call gX2_allMirrorsBehindShifts [.ref 5] mem post := by
  refine z_entry (by decide) (Nat.le_of_ble_eq_true rfl) ?_
  show zm_Z gX2_allMirrorsBehindShifts post 0 [(0, .ref 5)] [] mem
  refine z_iconst (v := 4) dX2_allMirrorsBehindShifts_0 zciconst_4 ?_
  refine z_aload_n dX2_allMirrorsBehindShifts_1 rfl 0 rfl ?_
  refine z_getr (ci := 2) (j := 0) (r := 1) (T := TX2) rfl rfl hX2 rfl (by decide) fkX2_9 dX2_allMirrorsBehindShifts_2 ?_
  refine z_getiN (ci := 1) (j := 2) (T := TX1) rfl rfl hX1 rfl (by decide) fkX2_40 dX2_allMirrorsBehindShifts_5 ?_
  refine z_imul dX2_allMirrorsBehindShifts_8 ?_
  refine z_istore_n (lv' := [(1, .int (4 * (mem 1 2))), (0, .ref 5)]) dX2_allMirrorsBehindShifts_9 rfl (by decide) rfl ?_
  refine z_sub [1, 0] rfl ?_
  exact kk
theorem bX2_allMirrorsBehindShifts_10 (x1 : Int32) (mem : zm_Mem) (post : zm_Post) (kk : zm_Call gX1_numbers [.ref 1] mem (fun r1 w1 u1 => ((r1 ≤ x1 → post 1 0 u1) ∧ (¬ r1 ≤ x1 → zm_Call gX1_hasMove [.ref 1, .int x1] u1 (fun r3 w3 u3 => ((r3 = 0 → zm_Z gX2_allMirrorsBehindShifts post 10 [(0, .ref 5), (1, .int (x1 + 1))] [] u3) ∧ (¬ r3 = 0 → zm_Call gX5_isKeptBy [.ref 2, .int x1] u3 (fun r5 w5 u5 => ((r5 = 0 → zm_Z gX2_allMirrorsBehindShifts post 10 [(0, .ref 5), (1, .int (x1 + 1))] [] u5) ∧ (¬ r5 = 0 → zm_Call gX1_turnOf [.ref 1, .int x1] u5 (fun r7 w7 u7 => zm_Call gX1_shiftOf [.ref 1, .int x1] u7 (fun r8 w8 u8 => zm_Call gX2_isMirrorBehindShift [.ref 5, .int r7, .int r8] u8 (fun r9 w9 u9 => ((¬ r9 = 0 → zm_Z gX2_allMirrorsBehindShifts post 10 [(0, .ref 5), (1, .int (x1 + 1))] [] u9) ∧ (r9 = 0 → post 0 0 u9))))))))))))))) : zm_Z gX2_allMirrorsBehindShifts post 10 [(0, .ref 5), (1, .int x1)] [] mem := by
  refine z_iload_n dX2_allMirrorsBehindShifts_10 rfl 1 rfl ?_
  refine z_aload_n dX2_allMirrorsBehindShifts_11 rfl 0 rfl ?_
  refine z_getr (ci := 2) (j := 0) (r := 1) (T := TX2) rfl rfl hX2 rfl (by decide) fkX2_9 dX2_allMirrorsBehindShifts_12 ?_
  refine z_callVi (g' := gX1_numbers) [] (q := 1) (ci := 1) (T := TX1) rfl rfl ⟨lkX2_55, pdX1_numbers, by decide, by decide⟩ ⟨_, rfl, by decide⟩ rfl (Nat.le_of_ble_eq_true rfl) dX2_allMirrorsBehindShifts_15 (zm_Call.mono kk (fun r1 w1 u1 k1 => ?_))
  refine z_icmp_ge (tgt := 74) dX2_allMirrorsBehindShifts_18 (by decide) (fun h2 => ?_) (fun h2 => ?_)
  ·
    refine z_iconst (v := 1) dX2_allMirrorsBehindShifts_74 zciconst_1 ?_
    exact z_zret rfl (by decide) dX2_allMirrorsBehindShifts_75 (k1.1 h2)
  ·
    refine z_aload_n dX2_allMirrorsBehindShifts_21 rfl 0 rfl ?_
    refine z_getr (ci := 2) (j := 0) (r := 1) (T := TX2) rfl rfl hX2 rfl (by decide) fkX2_9 dX2_allMirrorsBehindShifts_22 ?_
    refine z_iload_n dX2_allMirrorsBehindShifts_25 rfl 1 rfl ?_
    refine z_callVi (g' := gX1_hasMove) [.int x1] (q := 1) (ci := 1) (T := TX1) rfl rfl ⟨lkX2_59, pdX1_hasMove, by decide, by decide⟩ ⟨_, rfl, by decide⟩ rfl (Nat.le_of_ble_eq_true rfl) dX2_allMirrorsBehindShifts_26 (zm_Call.mono (k1.2 h2) (fun r3 w3 u3 k3 => ?_))
    refine z_if_eq (tgt := 68) dX2_allMirrorsBehindShifts_29 (by decide) (fun h4 => ?_) (fun h4 => ?_)
    ·
      refine z_iinc (v := x1 + 1) (lv' := [(1, .int (x1 + 1)), (0, .ref 5)]) dX2_allMirrorsBehindShifts_68 1 rfl (by rw [zciconst_1]) (by decide) rfl ?_
      refine z_goto (tgt := 10) dX2_allMirrorsBehindShifts_71 (by decide) ?_
      refine z_sub [1, 0] rfl ?_
      exact (k3.1 h4)
    ·
      refine z_aload_n dX2_allMirrorsBehindShifts_32 rfl 0 rfl ?_
      refine z_getr (ci := 2) (j := 1) (r := 2) (T := TX2) rfl rfl hX2 rfl (by decide) fkX2_15 dX2_allMirrorsBehindShifts_33 ?_
      refine z_iload_n dX2_allMirrorsBehindShifts_36 rfl 1 rfl ?_
      refine z_callVi (g' := gX5_isKeptBy) [.int x1] (q := 2) (ci := 5) (T := TX5) rfl rfl ⟨lkX2_43, pdX5_isKeptBy, by decide, by decide⟩ ⟨_, rfl, by decide⟩ rfl (Nat.le_of_ble_eq_true rfl) dX2_allMirrorsBehindShifts_37 (zm_Call.mono (k3.2 h4) (fun r5 w5 u5 k5 => ?_))
      refine z_if_eq (tgt := 68) dX2_allMirrorsBehindShifts_40 (by decide) (fun h6 => ?_) (fun h6 => ?_)
      ·
        refine z_iinc (v := x1 + 1) (lv' := [(1, .int (x1 + 1)), (0, .ref 5)]) dX2_allMirrorsBehindShifts_68 1 rfl (by rw [zciconst_1]) (by decide) rfl ?_
        refine z_goto (tgt := 10) dX2_allMirrorsBehindShifts_71 (by decide) ?_
        refine z_sub [1, 0] rfl ?_
        exact (k5.1 h6)
      ·
        refine z_aload_n dX2_allMirrorsBehindShifts_43 rfl 0 rfl ?_
        refine z_aload_n dX2_allMirrorsBehindShifts_44 rfl 0 rfl ?_
        refine z_getr (ci := 2) (j := 0) (r := 1) (T := TX2) rfl rfl hX2 rfl (by decide) fkX2_9 dX2_allMirrorsBehindShifts_45 ?_
        refine z_iload_n dX2_allMirrorsBehindShifts_48 rfl 1 rfl ?_
        refine z_callVi (g' := gX1_turnOf) [.int x1] (q := 1) (ci := 1) (T := TX1) rfl rfl ⟨lkX2_62, pdX1_turnOf, by decide, by decide⟩ ⟨_, rfl, by decide⟩ rfl (Nat.le_of_ble_eq_true rfl) dX2_allMirrorsBehindShifts_49 (zm_Call.mono (k5.2 h6) (fun r7 w7 u7 k7 => ?_))
        refine z_aload_n dX2_allMirrorsBehindShifts_52 rfl 0 rfl ?_
        refine z_getr (ci := 2) (j := 0) (r := 1) (T := TX2) rfl rfl hX2 rfl (by decide) fkX2_9 dX2_allMirrorsBehindShifts_53 ?_
        refine z_iload_n dX2_allMirrorsBehindShifts_56 rfl 1 rfl ?_
        refine z_callVi (g' := gX1_shiftOf) [.int x1] (q := 1) (ci := 1) (T := TX1) rfl rfl ⟨lkX2_65, pdX1_shiftOf, by decide, by decide⟩ ⟨_, rfl, by decide⟩ rfl (Nat.le_of_ble_eq_true rfl) dX2_allMirrorsBehindShifts_57 (zm_Call.mono k7 (fun r8 w8 u8 k8 => ?_))
        refine z_callVi (g' := gX2_isMirrorBehindShift) [.int r7, .int r8] (q := 5) (ci := 2) (T := TX2) rfl rfl ⟨lkX2_68, pdX2_isMirrorBehindShift, by decide, by decide⟩ ⟨_, rfl, by decide⟩ rfl (Nat.le_of_ble_eq_true rfl) dX2_allMirrorsBehindShifts_60 (zm_Call.mono k8 (fun r9 w9 u9 k9 => ?_))
        refine z_if_ne (tgt := 68) dX2_allMirrorsBehindShifts_63 (by decide) (fun h10 => ?_) (fun h10 => ?_)
        ·
          refine z_iinc (v := x1 + 1) (lv' := [(1, .int (x1 + 1)), (0, .ref 5)]) dX2_allMirrorsBehindShifts_68 1 rfl (by rw [zciconst_1]) (by decide) rfl ?_
          refine z_goto (tgt := 10) dX2_allMirrorsBehindShifts_71 (by decide) ?_
          refine z_sub [1, 0] rfl ?_
          exact (k9.1 h10)
        ·
          refine z_iconst (v := 0) dX2_allMirrorsBehindShifts_66 zciconst_0 ?_
          exact z_zret rfl (by decide) dX2_allMirrorsBehindShifts_67 (k9.2 h10)
theorem dX2_fitCount_0 : decode cX2_fitCount 0 = .ok (.iconst 0, 1) := by decide +kernel
theorem dX2_fitCount_1 : decode cX2_fitCount 1 = .ok (.istore_n 1, 1) := by decide +kernel
theorem dX2_fitCount_2 : decode cX2_fitCount 2 = .ok (.iconst 4, 1) := by decide +kernel
theorem dX2_fitCount_3 : decode cX2_fitCount 3 = .ok (.istore_n 2, 1) := by decide +kernel
theorem dX2_fitCount_4 : decode cX2_fitCount 4 = .ok (.iload_n 2, 1) := by decide +kernel
theorem dX2_fitCount_5 : decode cX2_fitCount 5 = .ok (.bipush 8, 2) := by decide +kernel
theorem dX2_fitCount_7 : decode cX2_fitCount 7 = .ok (.if_icmp .ge 23, 3) := by decide +kernel
theorem dX2_fitCount_10 : decode cX2_fitCount 10 = .ok (.aload_n 0, 1) := by decide +kernel
theorem dX2_fitCount_11 : decode cX2_fitCount 11 = .ok (.getfield 15, 3) := by decide +kernel
theorem dX2_fitCount_14 : decode cX2_fitCount 14 = .ok (.iload_n 2, 1) := by decide +kernel
theorem dX2_fitCount_15 : decode cX2_fitCount 15 = .ok (.invokevirtual 71, 3) := by decide +kernel
theorem dX2_fitCount_18 : decode cX2_fitCount 18 = .ok (.ifCond .le 6, 3) := by decide +kernel
theorem dX2_fitCount_21 : decode cX2_fitCount 21 = .ok (.iinc 1 1, 3) := by decide +kernel
theorem dX2_fitCount_24 : decode cX2_fitCount 24 = .ok (.iinc 2 1, 3) := by decide +kernel
theorem dX2_fitCount_27 : decode cX2_fitCount 27 = .ok (.goto (-23), 3) := by decide +kernel
theorem dX2_fitCount_30 : decode cX2_fitCount 30 = .ok (.iload_n 1, 1) := by decide +kernel
theorem dX2_fitCount_31 : decode cX2_fitCount 31 = .ok (.ireturn, 1) := by decide +kernel
theorem bX2_fitCount_0 (mem : zm_Mem) (post : zm_Post) (kk : zm_Z gX2_fitCount post 4 [(0, .ref 5), (1, .int 0), (2, .int 4)] [] mem) : zm_Call gX2_fitCount [.ref 5] mem post := by
  refine z_entry (by decide) (Nat.le_of_ble_eq_true rfl) ?_
  show zm_Z gX2_fitCount post 0 [(0, .ref 5)] [] mem
  refine z_iconst (v := 0) dX2_fitCount_0 zciconst_0 ?_
  refine z_istore_n (lv' := [(1, .int 0), (0, .ref 5)]) dX2_fitCount_1 rfl (by decide) rfl ?_
  refine z_iconst (v := 4) dX2_fitCount_2 zciconst_4 ?_
  refine z_istore_n (lv' := [(2, .int 4), (1, .int 0), (0, .ref 5)]) dX2_fitCount_3 rfl (by decide) rfl ?_
  refine z_sub [2, 1, 0] rfl ?_
  exact kk
theorem bX2_fitCount_4 (x1 : Int32) (x2 : Int32) (mem : zm_Mem) (post : zm_Post) (kk : ((8 ≤ x2 → post x1 0 mem) ∧ (¬ 8 ≤ x2 → zm_Call gX5_keepersOf [.ref 2, .int x2] mem (fun r2 w2 u2 => ((r2 ≤ 0 → zm_Z gX2_fitCount post 4 [(0, .ref 5), (1, .int x1), (2, .int (x2 + 1))] [] u2) ∧ (¬ r2 ≤ 0 → zm_Z gX2_fitCount post 4 [(0, .ref 5), (1, .int (x1 + 1)), (2, .int (x2 + 1))] [] u2)))))) : zm_Z gX2_fitCount post 4 [(0, .ref 5), (1, .int x1), (2, .int x2)] [] mem := by
  refine z_iload_n dX2_fitCount_4 rfl 2 rfl ?_
  refine z_bipush (v := 8) dX2_fitCount_5 zcbipush_8 ?_
  refine z_icmp_ge (tgt := 30) dX2_fitCount_7 (by decide) (fun h1 => ?_) (fun h1 => ?_)
  ·
    refine z_iload_n dX2_fitCount_30 rfl 1 rfl ?_
    exact z_iret rfl dX2_fitCount_31 (kk.1 h1)
  ·
    refine z_aload_n dX2_fitCount_10 rfl 0 rfl ?_
    refine z_getr (ci := 2) (j := 1) (r := 2) (T := TX2) rfl rfl hX2 rfl (by decide) fkX2_15 dX2_fitCount_11 ?_
    refine z_iload_n dX2_fitCount_14 rfl 2 rfl ?_
    refine z_callVi (g' := gX5_keepersOf) [.int x2] (q := 2) (ci := 5) (T := TX5) rfl rfl ⟨lkX2_71, pdX5_keepersOf, by decide, by decide⟩ ⟨_, rfl, by decide⟩ rfl (Nat.le_of_ble_eq_true rfl) dX2_fitCount_15 (zm_Call.mono (kk.2 h1) (fun r2 w2 u2 k2 => ?_))
    refine z_if_le (tgt := 24) dX2_fitCount_18 (by decide) (fun h3 => ?_) (fun h3 => ?_)
    ·
      refine z_iinc (v := x2 + 1) (lv' := [(2, .int (x2 + 1)), (0, .ref 5), (1, .int x1)]) dX2_fitCount_24 2 rfl (by rw [zciconst_1]) (by decide) rfl ?_
      refine z_goto (tgt := 4) dX2_fitCount_27 (by decide) ?_
      refine z_sub [1, 2, 0] rfl ?_
      exact (k2.1 h3)
    ·
      refine z_iinc (v := x1 + 1) (lv' := [(1, .int (x1 + 1)), (0, .ref 5), (2, .int x2)]) dX2_fitCount_21 1 rfl (by rw [zciconst_1]) (by decide) rfl ?_
      refine z_iinc (v := x2 + 1) (lv' := [(2, .int (x2 + 1)), (1, .int (x1 + 1)), (0, .ref 5)]) dX2_fitCount_24 2 rfl (by rw [zciconst_1]) (by decide) rfl ?_
      refine z_goto (tgt := 4) dX2_fitCount_27 (by decide) ?_
      refine z_sub [2, 1, 0] rfl ?_
      exact (k2.2 h3)
theorem dX2_mirroredCount_0 : decode cX2_mirroredCount 0 = .ok (.iconst 0, 1) := by decide +kernel
theorem dX2_mirroredCount_1 : decode cX2_mirroredCount 1 = .ok (.istore_n 1, 1) := by decide +kernel
theorem dX2_mirroredCount_2 : decode cX2_mirroredCount 2 = .ok (.iconst 4, 1) := by decide +kernel
theorem dX2_mirroredCount_3 : decode cX2_mirroredCount 3 = .ok (.istore_n 2, 1) := by decide +kernel
theorem dX2_mirroredCount_4 : decode cX2_mirroredCount 4 = .ok (.iload_n 2, 1) := by decide +kernel
theorem dX2_mirroredCount_5 : decode cX2_mirroredCount 5 = .ok (.bipush 8, 2) := by decide +kernel
theorem dX2_mirroredCount_7 : decode cX2_mirroredCount 7 = .ok (.if_icmp .ge 20, 3) := by decide +kernel
theorem dX2_mirroredCount_10 : decode cX2_mirroredCount 10 = .ok (.aload_n 0, 1) := by decide +kernel
theorem dX2_mirroredCount_11 : decode cX2_mirroredCount 11 = .ok (.iload_n 2, 1) := by decide +kernel
theorem dX2_mirroredCount_12 : decode cX2_mirroredCount 12 = .ok (.invokevirtual 91, 3) := by decide +kernel
theorem dX2_mirroredCount_15 : decode cX2_mirroredCount 15 = .ok (.ifCond .eq 6, 3) := by decide +kernel
theorem dX2_mirroredCount_18 : decode cX2_mirroredCount 18 = .ok (.iinc 1 1, 3) := by decide +kernel
theorem dX2_mirroredCount_21 : decode cX2_mirroredCount 21 = .ok (.iinc 2 1, 3) := by decide +kernel
theorem dX2_mirroredCount_24 : decode cX2_mirroredCount 24 = .ok (.goto (-20), 3) := by decide +kernel
theorem dX2_mirroredCount_27 : decode cX2_mirroredCount 27 = .ok (.iload_n 1, 1) := by decide +kernel
theorem dX2_mirroredCount_28 : decode cX2_mirroredCount 28 = .ok (.ireturn, 1) := by decide +kernel
theorem bX2_mirroredCount_0 (mem : zm_Mem) (post : zm_Post) (kk : zm_Z gX2_mirroredCount post 4 [(0, .ref 5), (1, .int 0), (2, .int 4)] [] mem) : zm_Call gX2_mirroredCount [.ref 5] mem post := by
  refine z_entry (by decide) (Nat.le_of_ble_eq_true rfl) ?_
  show zm_Z gX2_mirroredCount post 0 [(0, .ref 5)] [] mem
  refine z_iconst (v := 0) dX2_mirroredCount_0 zciconst_0 ?_
  refine z_istore_n (lv' := [(1, .int 0), (0, .ref 5)]) dX2_mirroredCount_1 rfl (by decide) rfl ?_
  refine z_iconst (v := 4) dX2_mirroredCount_2 zciconst_4 ?_
  refine z_istore_n (lv' := [(2, .int 4), (1, .int 0), (0, .ref 5)]) dX2_mirroredCount_3 rfl (by decide) rfl ?_
  refine z_sub [2, 1, 0] rfl ?_
  exact kk
theorem bX2_mirroredCount_4 (x1 : Int32) (x2 : Int32) (mem : zm_Mem) (post : zm_Post) (kk : ((8 ≤ x2 → post x1 0 mem) ∧ (¬ 8 ≤ x2 → zm_Call gX2_hasMirror [.ref 5, .int x2] mem (fun r2 w2 u2 => ((r2 = 0 → zm_Z gX2_mirroredCount post 4 [(0, .ref 5), (1, .int x1), (2, .int (x2 + 1))] [] u2) ∧ (¬ r2 = 0 → zm_Z gX2_mirroredCount post 4 [(0, .ref 5), (1, .int (x1 + 1)), (2, .int (x2 + 1))] [] u2)))))) : zm_Z gX2_mirroredCount post 4 [(0, .ref 5), (1, .int x1), (2, .int x2)] [] mem := by
  refine z_iload_n dX2_mirroredCount_4 rfl 2 rfl ?_
  refine z_bipush (v := 8) dX2_mirroredCount_5 zcbipush_8 ?_
  refine z_icmp_ge (tgt := 27) dX2_mirroredCount_7 (by decide) (fun h1 => ?_) (fun h1 => ?_)
  ·
    refine z_iload_n dX2_mirroredCount_27 rfl 1 rfl ?_
    exact z_iret rfl dX2_mirroredCount_28 (kk.1 h1)
  ·
    refine z_aload_n dX2_mirroredCount_10 rfl 0 rfl ?_
    refine z_iload_n dX2_mirroredCount_11 rfl 2 rfl ?_
    refine z_callVi (g' := gX2_hasMirror) [.int x2] (q := 5) (ci := 2) (T := TX2) rfl rfl ⟨lkX2_91, pdX2_hasMirror, by decide, by decide⟩ ⟨_, rfl, by decide⟩ rfl (Nat.le_of_ble_eq_true rfl) dX2_mirroredCount_12 (zm_Call.mono (kk.2 h1) (fun r2 w2 u2 k2 => ?_))
    refine z_if_eq (tgt := 21) dX2_mirroredCount_15 (by decide) (fun h3 => ?_) (fun h3 => ?_)
    ·
      refine z_iinc (v := x2 + 1) (lv' := [(2, .int (x2 + 1)), (0, .ref 5), (1, .int x1)]) dX2_mirroredCount_21 2 rfl (by rw [zciconst_1]) (by decide) rfl ?_
      refine z_goto (tgt := 4) dX2_mirroredCount_24 (by decide) ?_
      refine z_sub [1, 2, 0] rfl ?_
      exact (k2.1 h3)
    ·
      refine z_iinc (v := x1 + 1) (lv' := [(1, .int (x1 + 1)), (0, .ref 5), (2, .int x2)]) dX2_mirroredCount_18 1 rfl (by rw [zciconst_1]) (by decide) rfl ?_
      refine z_iinc (v := x2 + 1) (lv' := [(2, .int (x2 + 1)), (1, .int (x1 + 1)), (0, .ref 5)]) dX2_mirroredCount_21 2 rfl (by rw [zciconst_1]) (by decide) rfl ?_
      refine z_goto (tgt := 4) dX2_mirroredCount_24 (by decide) ?_
      refine z_sub [2, 1, 0] rfl ?_
      exact (k2.2 h3)
theorem dX2_kindWithHalf_0 : decode cX2_kindWithHalf 0 = .ok (.iload_n 0, 1) := by decide +kernel
theorem dX2_kindWithHalf_1 : decode cX2_kindWithHalf 1 = .ok (.iconst 2, 1) := by decide +kernel
theorem dX2_kindWithHalf_2 : decode cX2_kindWithHalf 2 = .ok (.if_icmp .ne 14, 3) := by decide +kernel
theorem dX2_kindWithHalf_5 : decode cX2_kindWithHalf 5 = .ok (.iload_n 1, 1) := by decide +kernel
theorem dX2_kindWithHalf_6 : decode cX2_kindWithHalf 6 = .ok (.ifCond .eq 7, 3) := by decide +kernel
theorem dX2_kindWithHalf_9 : decode cX2_kindWithHalf 9 = .ok (.iconst 5, 1) := by decide +kernel
theorem dX2_kindWithHalf_10 : decode cX2_kindWithHalf 10 = .ok (.goto 5, 3) := by decide +kernel
theorem dX2_kindWithHalf_13 : decode cX2_kindWithHalf 13 = .ok (.bipush 8, 2) := by decide +kernel
theorem dX2_kindWithHalf_15 : decode cX2_kindWithHalf 15 = .ok (.ireturn, 1) := by decide +kernel
theorem dX2_kindWithHalf_16 : decode cX2_kindWithHalf 16 = .ok (.iload_n 0, 1) := by decide +kernel
theorem dX2_kindWithHalf_17 : decode cX2_kindWithHalf 17 = .ok (.iconst 1, 1) := by decide +kernel
theorem dX2_kindWithHalf_18 : decode cX2_kindWithHalf 18 = .ok (.if_icmp .ne 8, 3) := by decide +kernel
theorem dX2_kindWithHalf_21 : decode cX2_kindWithHalf 21 = .ok (.bipush 6, 2) := by decide +kernel
theorem dX2_kindWithHalf_23 : decode cX2_kindWithHalf 23 = .ok (.goto 5, 3) := by decide +kernel
theorem dX2_kindWithHalf_26 : decode cX2_kindWithHalf 26 = .ok (.bipush 7, 2) := by decide +kernel
theorem dX2_kindWithHalf_28 : decode cX2_kindWithHalf 28 = .ok (.ireturn, 1) := by decide +kernel
theorem bX2_kindWithHalf_0 (x0 : Int32) (x1 : Int32) (mem : zm_Mem) (post : zm_Post) (kk : ((¬ x0 = 2 → ((¬ x0 = 1 → post 7 0 mem) ∧ (x0 = 1 → post 6 0 mem))) ∧ (x0 = 2 → ((x1 = 0 → post 8 0 mem) ∧ (¬ x1 = 0 → post 5 0 mem))))) : zm_Call gX2_kindWithHalf [.int x0, .int x1] mem post := by
  refine z_entry (by decide) (Nat.le_of_ble_eq_true rfl) ?_
  show zm_Z gX2_kindWithHalf post 0 [(0, .int x0), (1, .int x1)] [] mem
  refine z_iload_n dX2_kindWithHalf_0 rfl 0 rfl ?_
  refine z_iconst (v := 2) dX2_kindWithHalf_1 zciconst_2 ?_
  refine z_icmp_ne (tgt := 16) dX2_kindWithHalf_2 (by decide) (fun h1 => ?_) (fun h1 => ?_)
  ·
    refine z_iload_n dX2_kindWithHalf_16 rfl 0 rfl ?_
    refine z_iconst (v := 1) dX2_kindWithHalf_17 zciconst_1 ?_
    refine z_icmp_ne (tgt := 26) dX2_kindWithHalf_18 (by decide) (fun h2 => ?_) (fun h2 => ?_)
    ·
      refine z_bipush (v := 7) dX2_kindWithHalf_26 zcbipush_7 ?_
      exact z_iret rfl dX2_kindWithHalf_28 ((kk.1 h1).1 h2)
    ·
      refine z_bipush (v := 6) dX2_kindWithHalf_21 zcbipush_6 ?_
      refine z_goto (tgt := 28) dX2_kindWithHalf_23 (by decide) ?_
      exact z_iret rfl dX2_kindWithHalf_28 ((kk.1 h1).2 h2)
  ·
    refine z_iload_n dX2_kindWithHalf_5 rfl 1 rfl ?_
    refine z_if_eq (tgt := 13) dX2_kindWithHalf_6 (by decide) (fun h3 => ?_) (fun h3 => ?_)
    ·
      refine z_bipush (v := 8) dX2_kindWithHalf_13 zcbipush_8 ?_
      exact z_iret rfl dX2_kindWithHalf_15 ((kk.2 h1).1 h3)
    ·
      refine z_iconst (v := 5) dX2_kindWithHalf_9 zciconst_5 ?_
      refine z_goto (tgt := 15) dX2_kindWithHalf_10 (by decide) ?_
      exact z_iret rfl dX2_kindWithHalf_15 ((kk.2 h1).2 h3)
theorem dX2_kindWithoutTurns_0 : decode cX2_kindWithoutTurns 0 = .ok (.iload_n 0, 1) := by decide +kernel
theorem dX2_kindWithoutTurns_1 : decode cX2_kindWithoutTurns 1 = .ok (.ifCond .ne 5, 3) := by decide +kernel
theorem dX2_kindWithoutTurns_4 : decode cX2_kindWithoutTurns 4 = .ok (.iconst 3, 1) := by decide +kernel
theorem dX2_kindWithoutTurns_5 : decode cX2_kindWithoutTurns 5 = .ok (.ireturn, 1) := by decide +kernel
theorem dX2_kindWithoutTurns_6 : decode cX2_kindWithoutTurns 6 = .ok (.iload_n 1, 1) := by decide +kernel
theorem dX2_kindWithoutTurns_7 : decode cX2_kindWithoutTurns 7 = .ok (.ifCond .eq 7, 3) := by decide +kernel
theorem dX2_kindWithoutTurns_10 : decode cX2_kindWithoutTurns 10 = .ok (.iconst 2, 1) := by decide +kernel
theorem dX2_kindWithoutTurns_11 : decode cX2_kindWithoutTurns 11 = .ok (.goto 4, 3) := by decide +kernel
theorem dX2_kindWithoutTurns_14 : decode cX2_kindWithoutTurns 14 = .ok (.iconst 4, 1) := by decide +kernel
theorem dX2_kindWithoutTurns_15 : decode cX2_kindWithoutTurns 15 = .ok (.ireturn, 1) := by decide +kernel
theorem bX2_kindWithoutTurns_0 (x0 : Int32) (x1 : Int32) (mem : zm_Mem) (post : zm_Post) (kk : ((¬ x0 = 0 → ((x1 = 0 → post 4 0 mem) ∧ (¬ x1 = 0 → post 2 0 mem))) ∧ (x0 = 0 → post 3 0 mem))) : zm_Call gX2_kindWithoutTurns [.int x0, .int x1] mem post := by
  refine z_entry (by decide) (Nat.le_of_ble_eq_true rfl) ?_
  show zm_Z gX2_kindWithoutTurns post 0 [(0, .int x0), (1, .int x1)] [] mem
  refine z_iload_n dX2_kindWithoutTurns_0 rfl 0 rfl ?_
  refine z_if_ne (tgt := 6) dX2_kindWithoutTurns_1 (by decide) (fun h1 => ?_) (fun h1 => ?_)
  ·
    refine z_iload_n dX2_kindWithoutTurns_6 rfl 1 rfl ?_
    refine z_if_eq (tgt := 14) dX2_kindWithoutTurns_7 (by decide) (fun h2 => ?_) (fun h2 => ?_)
    ·
      refine z_iconst (v := 4) dX2_kindWithoutTurns_14 zciconst_4 ?_
      exact z_iret rfl dX2_kindWithoutTurns_15 ((kk.1 h1).1 h2)
    ·
      refine z_iconst (v := 2) dX2_kindWithoutTurns_10 zciconst_2 ?_
      refine z_goto (tgt := 15) dX2_kindWithoutTurns_11 (by decide) ?_
      exact z_iret rfl dX2_kindWithoutTurns_15 ((kk.1 h1).2 h2)
  ·
    refine z_iconst (v := 3) dX2_kindWithoutTurns_4 zciconst_3 ?_
    exact z_iret rfl dX2_kindWithoutTurns_5 (kk.2 h1)
theorem dX2_number_0 : decode cX2_number 0 = .ok (.aload_n 0, 1) := by decide +kernel
theorem dX2_number_1 : decode cX2_number 1 = .ok (.getfield 15, 3) := by decide +kernel
theorem dX2_number_4 : decode cX2_number 4 = .ok (.iconst 1, 1) := by decide +kernel
theorem dX2_number_5 : decode cX2_number 5 = .ok (.invokevirtual 71, 3) := by decide +kernel
theorem dX2_number_8 : decode cX2_number 8 = .ok (.ifCond .le 7, 3) := by decide +kernel
theorem dX2_number_11 : decode cX2_number 11 = .ok (.iconst 1, 1) := by decide +kernel
theorem dX2_number_12 : decode cX2_number 12 = .ok (.goto 4, 3) := by decide +kernel
theorem dX2_number_15 : decode cX2_number 15 = .ok (.iconst 0, 1) := by decide +kernel
theorem dX2_number_16 : decode cX2_number 16 = .ok (.istore_n 1, 1) := by decide +kernel
theorem dX2_number_17 : decode cX2_number 17 = .ok (.aload_n 0, 1) := by decide +kernel
theorem dX2_number_18 : decode cX2_number 18 = .ok (.getfield 15, 3) := by decide +kernel
theorem dX2_number_21 : decode cX2_number 21 = .ok (.iconst 2, 1) := by decide +kernel
theorem dX2_number_22 : decode cX2_number 22 = .ok (.invokevirtual 71, 3) := by decide +kernel
theorem dX2_number_25 : decode cX2_number 25 = .ok (.ifCond .le 7, 3) := by decide +kernel
theorem dX2_number_28 : decode cX2_number 28 = .ok (.iconst 1, 1) := by decide +kernel
theorem dX2_number_29 : decode cX2_number 29 = .ok (.goto 4, 3) := by decide +kernel
theorem dX2_number_32 : decode cX2_number 32 = .ok (.iconst 0, 1) := by decide +kernel
theorem dX2_number_33 : decode cX2_number 33 = .ok (.istore_n 2, 1) := by decide +kernel
theorem dX2_number_34 : decode cX2_number 34 = .ok (.aload_n 0, 1) := by decide +kernel
theorem dX2_number_35 : decode cX2_number 35 = .ok (.invokevirtual 74, 3) := by decide +kernel
theorem dX2_number_38 : decode cX2_number 38 = .ok (.ifCond .ne 22, 3) := by decide +kernel
theorem dX2_number_41 : decode cX2_number 41 = .ok (.iload_n 1, 1) := by decide +kernel
theorem dX2_number_42 : decode cX2_number 42 = .ok (.ifCond .eq 8, 3) := by decide +kernel
theorem dX2_number_45 : decode cX2_number 45 = .ok (.bipush 9, 2) := by decide +kernel
theorem dX2_number_47 : decode cX2_number 47 = .ok (.goto 12, 3) := by decide +kernel
theorem dX2_number_50 : decode cX2_number 50 = .ok (.iload_n 2, 1) := by decide +kernel
theorem dX2_number_51 : decode cX2_number 51 = .ok (.ifCond .eq 7, 3) := by decide +kernel
theorem dX2_number_54 : decode cX2_number 54 = .ok (.iconst 1, 1) := by decide +kernel
theorem dX2_number_55 : decode cX2_number 55 = .ok (.goto 4, 3) := by decide +kernel
theorem dX2_number_58 : decode cX2_number 58 = .ok (.iconst 0, 1) := by decide +kernel
theorem dX2_number_59 : decode cX2_number 59 = .ok (.ireturn, 1) := by decide +kernel
theorem dX2_number_60 : decode cX2_number 60 = .ok (.aload_n 0, 1) := by decide +kernel
theorem dX2_number_61 : decode cX2_number 61 = .ok (.invokevirtual 77, 3) := by decide +kernel
theorem dX2_number_64 : decode cX2_number 64 = .ok (.istore_n 3, 1) := by decide +kernel
theorem dX2_number_65 : decode cX2_number 65 = .ok (.iload_n 1, 1) := by decide +kernel
theorem dX2_number_66 : decode cX2_number 66 = .ok (.ifCond .eq 16, 3) := by decide +kernel
theorem dX2_number_69 : decode cX2_number 69 = .ok (.iload_n 3, 1) := by decide +kernel
theorem dX2_number_70 : decode cX2_number 70 = .ok (.iconst 4, 1) := by decide +kernel
theorem dX2_number_71 : decode cX2_number 71 = .ok (.if_icmp .ne 8, 3) := by decide +kernel
theorem dX2_number_74 : decode cX2_number 74 = .ok (.bipush 10, 2) := by decide +kernel
theorem dX2_number_76 : decode cX2_number 76 = .ok (.goto 5, 3) := by decide +kernel
theorem dX2_number_79 : decode cX2_number 79 = .ok (.bipush 11, 2) := by decide +kernel
theorem dX2_number_81 : decode cX2_number 81 = .ok (.ireturn, 1) := by decide +kernel
theorem dX2_number_82 : decode cX2_number 82 = .ok (.iload_n 3, 1) := by decide +kernel
theorem dX2_number_83 : decode cX2_number 83 = .ok (.ifCond .le 14, 3) := by decide +kernel
theorem dX2_number_86 : decode cX2_number 86 = .ok (.aload_n 0, 1) := by decide +kernel
theorem dX2_number_87 : decode cX2_number 87 = .ok (.invokevirtual 80, 3) := by decide +kernel
theorem dX2_number_90 : decode cX2_number 90 = .ok (.ifCond .eq 7, 3) := by decide +kernel
theorem dX2_number_93 : decode cX2_number 93 = .ok (.iconst 1, 1) := by decide +kernel
theorem dX2_number_94 : decode cX2_number 94 = .ok (.goto 4, 3) := by decide +kernel
theorem dX2_number_97 : decode cX2_number 97 = .ok (.iconst 0, 1) := by decide +kernel
theorem dX2_number_98 : decode cX2_number 98 = .ok (.istore 4, 2) := by decide +kernel
theorem dX2_number_100 : decode cX2_number 100 = .ok (.iload_n 2, 1) := by decide +kernel
theorem dX2_number_101 : decode cX2_number 101 = .ok (.ifCond .eq 12, 3) := by decide +kernel
theorem dX2_number_104 : decode cX2_number 104 = .ok (.iload_n 3, 1) := by decide +kernel
theorem dX2_number_105 : decode cX2_number 105 = .ok (.iload 4, 2) := by decide +kernel
theorem dX2_number_107 : decode cX2_number 107 = .ok (.invokestatic 84, 3) := by decide +kernel
theorem dX2_number_110 : decode cX2_number 110 = .ok (.goto 9, 3) := by decide +kernel
theorem dX2_number_113 : decode cX2_number 113 = .ok (.iload_n 3, 1) := by decide +kernel
theorem dX2_number_114 : decode cX2_number 114 = .ok (.iload 4, 2) := by decide +kernel
theorem dX2_number_116 : decode cX2_number 116 = .ok (.invokestatic 88, 3) := by decide +kernel
theorem dX2_number_119 : decode cX2_number 119 = .ok (.ireturn, 1) := by decide +kernel
theorem bX2_number_0 (mem : zm_Mem) (post : zm_Post) (kk : zm_Call gX5_keepersOf [.ref 2, .int 1] mem (fun r1 w1 u1 => ((r1 ≤ 0 → zm_Z gX2_number post 16 [(0, .ref 5)] [.int 0] u1) ∧ (¬ r1 ≤ 0 → zm_Z gX2_number post 16 [(0, .ref 5)] [.int 1] u1)))) : zm_Call gX2_number [.ref 5] mem post := by
  refine z_entry (by decide) (Nat.le_of_ble_eq_true rfl) ?_
  show zm_Z gX2_number post 0 [(0, .ref 5)] [] mem
  refine z_aload_n dX2_number_0 rfl 0 rfl ?_
  refine z_getr (ci := 2) (j := 1) (r := 2) (T := TX2) rfl rfl hX2 rfl (by decide) fkX2_15 dX2_number_1 ?_
  refine z_iconst (v := 1) dX2_number_4 zciconst_1 ?_
  refine z_callVi (g' := gX5_keepersOf) [.int 1] (q := 2) (ci := 5) (T := TX5) rfl rfl ⟨lkX2_71, pdX5_keepersOf, by decide, by decide⟩ ⟨_, rfl, by decide⟩ rfl (Nat.le_of_ble_eq_true rfl) dX2_number_5 (zm_Call.mono kk (fun r1 w1 u1 k1 => ?_))
  refine z_if_le (tgt := 15) dX2_number_8 (by decide) (fun h2 => ?_) (fun h2 => ?_)
  ·
    refine z_iconst (v := 0) dX2_number_15 zciconst_0 ?_
    exact (k1.1 h2)
  ·
    refine z_iconst (v := 1) dX2_number_11 zciconst_1 ?_
    refine z_goto (tgt := 16) dX2_number_12 (by decide) ?_
    exact (k1.2 h2)
theorem bX2_number_16 (s0 : Int32) (mem : zm_Mem) (post : zm_Post) (kk : zm_Call gX5_keepersOf [.ref 2, .int 2] mem (fun r1 w1 u1 => ((r1 ≤ 0 → zm_Z gX2_number post 33 [(0, .ref 5), (1, .int s0)] [.int 0] u1) ∧ (¬ r1 ≤ 0 → zm_Z gX2_number post 33 [(0, .ref 5), (1, .int s0)] [.int 1] u1)))) : zm_Z gX2_number post 16 [(0, .ref 5)] [.int s0] mem := by
  refine z_istore_n (lv' := [(1, .int s0), (0, .ref 5)]) dX2_number_16 rfl (by decide) rfl ?_
  refine z_aload_n dX2_number_17 rfl 1 rfl ?_
  refine z_getr (ci := 2) (j := 1) (r := 2) (T := TX2) rfl rfl hX2 rfl (by decide) fkX2_15 dX2_number_18 ?_
  refine z_iconst (v := 2) dX2_number_21 zciconst_2 ?_
  refine z_callVi (g' := gX5_keepersOf) [.int 2] (q := 2) (ci := 5) (T := TX5) rfl rfl ⟨lkX2_71, pdX5_keepersOf, by decide, by decide⟩ ⟨_, rfl, by decide⟩ rfl (Nat.le_of_ble_eq_true rfl) dX2_number_22 (zm_Call.mono kk (fun r1 w1 u1 k1 => ?_))
  refine z_if_le (tgt := 32) dX2_number_25 (by decide) (fun h2 => ?_) (fun h2 => ?_)
  ·
    refine z_iconst (v := 0) dX2_number_32 zciconst_0 ?_
    refine z_sub [1, 0] rfl ?_
    exact (k1.1 h2)
  ·
    refine z_iconst (v := 1) dX2_number_28 zciconst_1 ?_
    refine z_goto (tgt := 33) dX2_number_29 (by decide) ?_
    refine z_sub [1, 0] rfl ?_
    exact (k1.2 h2)
theorem bX2_number_33 (x1 : Int32) (s0 : Int32) (mem : zm_Mem) (post : zm_Post) (kk : zm_Call gX2_fitCount [.ref 5] mem (fun r1 w1 u1 => ((¬ r1 = 0 → zm_Call gX2_mirroredCount [.ref 5] u1 (fun r3 w3 u3 => ((x1 = 0 → ((r3 ≤ 0 → zm_Z gX2_number post 98 [(2, .int s0), (3, .int r3)] [.int 0] u3) ∧ (¬ r3 ≤ 0 → zm_Call gX2_allMirrorsBehindShifts [.ref 5] u3 (fun r6 w6 u6 => ((r6 = 0 → zm_Z gX2_number post 98 [(2, .int s0), (3, .int r3)] [.int 0] u6) ∧ (¬ r6 = 0 → zm_Z gX2_number post 98 [(2, .int s0), (3, .int r3)] [.int 1] u6)))))) ∧ (¬ x1 = 0 → ((¬ r3 = 4 → post 11 0 u3) ∧ (r3 = 4 → post 10 0 u3)))))) ∧ (r1 = 0 → ((x1 = 0 → ((s0 = 0 → post 0 0 u1) ∧ (¬ s0 = 0 → post 1 0 u1))) ∧ (¬ x1 = 0 → post 9 0 u1)))))) : zm_Z gX2_number post 33 [(0, .ref 5), (1, .int x1)] [.int s0] mem := by
  refine z_istore_n (lv' := [(2, .int s0), (0, .ref 5), (1, .int x1)]) dX2_number_33 rfl (by decide) rfl ?_
  refine z_aload_n dX2_number_34 rfl 1 rfl ?_
  refine z_callVi (g' := gX2_fitCount) [] (q := 5) (ci := 2) (T := TX2) rfl rfl ⟨lkX2_74, pdX2_fitCount, by decide, by decide⟩ ⟨_, rfl, by decide⟩ rfl (Nat.le_of_ble_eq_true rfl) dX2_number_35 (zm_Call.mono kk (fun r1 w1 u1 k1 => ?_))
  refine z_if_ne (tgt := 60) dX2_number_38 (by decide) (fun h2 => ?_) (fun h2 => ?_)
  ·
    refine z_aload_n dX2_number_60 rfl 1 rfl ?_
    refine z_callVi (g' := gX2_mirroredCount) [] (q := 5) (ci := 2) (T := TX2) rfl rfl ⟨lkX2_77, pdX2_mirroredCount, by decide, by decide⟩ ⟨_, rfl, by decide⟩ rfl (Nat.le_of_ble_eq_true rfl) dX2_number_61 (zm_Call.mono (k1.1 h2) (fun r3 w3 u3 k3 => ?_))
    refine z_istore_n (lv' := [(3, .int r3), (2, .int s0), (0, .ref 5), (1, .int x1)]) dX2_number_64 rfl (by decide) rfl ?_
    refine z_iload_n dX2_number_65 rfl 3 rfl ?_
    refine z_if_eq (tgt := 82) dX2_number_66 (by decide) (fun h4 => ?_) (fun h4 => ?_)
    ·
      refine z_iload_n dX2_number_82 rfl 0 rfl ?_
      refine z_if_le (tgt := 97) dX2_number_83 (by decide) (fun h5 => ?_) (fun h5 => ?_)
      ·
        refine z_iconst (v := 0) dX2_number_97 zciconst_0 ?_
        refine z_sub [1, 0] rfl ?_
        exact ((k3.1 h4).1 h5)
      ·
        refine z_aload_n dX2_number_86 rfl 2 rfl ?_
        refine z_callVi (g' := gX2_allMirrorsBehindShifts) [] (q := 5) (ci := 2) (T := TX2) rfl rfl ⟨lkX2_80, pdX2_allMirrorsBehindShifts, by decide, by decide⟩ ⟨_, rfl, by decide⟩ rfl (Nat.le_of_ble_eq_true rfl) dX2_number_87 (zm_Call.mono ((k3.1 h4).2 h5) (fun r6 w6 u6 k6 => ?_))
        refine z_if_eq (tgt := 97) dX2_number_90 (by decide) (fun h7 => ?_) (fun h7 => ?_)
        ·
          refine z_iconst (v := 0) dX2_number_97 zciconst_0 ?_
          refine z_sub [1, 0] rfl ?_
          exact (k6.1 h7)
        ·
          refine z_iconst (v := 1) dX2_number_93 zciconst_1 ?_
          refine z_goto (tgt := 98) dX2_number_94 (by decide) ?_
          refine z_sub [1, 0] rfl ?_
          exact (k6.2 h7)
    ·
      refine z_iload_n dX2_number_69 rfl 0 rfl ?_
      refine z_iconst (v := 4) dX2_number_70 zciconst_4 ?_
      refine z_icmp_ne (tgt := 79) dX2_number_71 (by decide) (fun h8 => ?_) (fun h8 => ?_)
      ·
        refine z_bipush (v := 11) dX2_number_79 zcbipush_11 ?_
        exact z_iret rfl dX2_number_81 ((k3.2 h4).1 h8)
      ·
        refine z_bipush (v := 10) dX2_number_74 zcbipush_10 ?_
        refine z_goto (tgt := 81) dX2_number_76 (by decide) ?_
        exact z_iret rfl dX2_number_81 ((k3.2 h4).2 h8)
  ·
    refine z_iload_n dX2_number_41 rfl 2 rfl ?_
    refine z_if_eq (tgt := 50) dX2_number_42 (by decide) (fun h9 => ?_) (fun h9 => ?_)
    ·
      refine z_iload_n dX2_number_50 rfl 0 rfl ?_
      refine z_if_eq (tgt := 58) dX2_number_51 (by decide) (fun h10 => ?_) (fun h10 => ?_)
      ·
        refine z_iconst (v := 0) dX2_number_58 zciconst_0 ?_
        exact z_iret rfl dX2_number_59 (((k1.2 h2).1 h9).1 h10)
      ·
        refine z_iconst (v := 1) dX2_number_54 zciconst_1 ?_
        refine z_goto (tgt := 59) dX2_number_55 (by decide) ?_
        exact z_iret rfl dX2_number_59 (((k1.2 h2).1 h9).2 h10)
    ·
      refine z_bipush (v := 9) dX2_number_45 zcbipush_9 ?_
      refine z_goto (tgt := 59) dX2_number_47 (by decide) ?_
      exact z_iret rfl dX2_number_59 ((k1.2 h2).2 h9)
theorem bX2_number_98 (x2 : Int32) (x3 : Int32) (s0 : Int32) (mem : zm_Mem) (post : zm_Post) (kk : ((x2 = 0 → zm_Call gX2_kindWithoutTurns [.int x3, .int s0] mem (fun r2 w2 u2 => post r2 0 u2)) ∧ (¬ x2 = 0 → zm_Call gX2_kindWithHalf [.int x3, .int s0] mem (fun r3 w3 u3 => post r3 0 u3)))) : zm_Z gX2_number post 98 [(2, .int x2), (3, .int x3)] [.int s0] mem := by
  refine z_istore (lv' := [(4, .int s0), (2, .int x2), (3, .int x3)]) dX2_number_98 (by decide) rfl ?_
  refine z_iload_n dX2_number_100 rfl 1 rfl ?_
  refine z_if_eq (tgt := 113) dX2_number_101 (by decide) (fun h1 => ?_) (fun h1 => ?_)
  ·
    refine z_iload_n dX2_number_113 rfl 2 rfl ?_
    refine z_iload dX2_number_114 0 rfl ?_
    refine z_callSi (g' := gX2_kindWithoutTurns) (st := []) [.int x3, .int s0] ⟨lkX2_88, pdX2_kindWithoutTurns, by decide, by decide⟩ ⟨_, rfl, by decide⟩ rfl (Nat.le_of_ble_eq_true rfl) dX2_number_116 (zm_Call.mono (kk.1 h1) (fun r2 w2 u2 k2 => ?_))
    exact z_iret rfl dX2_number_119 k2
  ·
    refine z_iload_n dX2_number_104 rfl 2 rfl ?_
    refine z_iload dX2_number_105 0 rfl ?_
    refine z_callSi (g' := gX2_kindWithHalf) (st := []) [.int x3, .int s0] ⟨lkX2_84, pdX2_kindWithHalf, by decide, by decide⟩ ⟨_, rfl, by decide⟩ rfl (Nat.le_of_ble_eq_true rfl) dX2_number_107 (zm_Call.mono (kk.2 h1) (fun r3 w3 u3 k3 => ?_))
    refine z_goto (tgt := 119) dX2_number_110 (by decide) ?_
    exact z_iret rfl dX2_number_119 k3
theorem dX3_total_0 : decode cX3_total 0 = .ok (.aload_n 0, 1) := by decide +kernel
theorem dX3_total_1 : decode cX3_total 1 = .ok (.getfield 13, 3) := by decide +kernel
theorem dX3_total_4 : decode cX3_total 4 = .ok (.invokevirtual 17, 3) := by decide +kernel
theorem dX3_total_7 : decode cX3_total 7 = .ok (.istore_n 1, 1) := by decide +kernel
theorem dX3_total_8 : decode cX3_total 8 = .ok (.iload_n 1, 1) := by decide +kernel
theorem dX3_total_9 : decode cX3_total 9 = .ok (.iconst 1, 1) := by decide +kernel
theorem dX3_total_10 : decode cX3_total 10 = .ok (.if_icmp .ge 7, 3) := by decide +kernel
theorem dX3_total_13 : decode cX3_total 13 = .ok (.iconst 1, 1) := by decide +kernel
theorem dX3_total_14 : decode cX3_total 14 = .ok (.goto 12, 3) := by decide +kernel
theorem dX3_total_17 : decode cX3_total 17 = .ok (.aload_n 0, 1) := by decide +kernel
theorem dX3_total_18 : decode cX3_total 18 = .ok (.getfield 7, 3) := by decide +kernel
theorem dX3_total_21 : decode cX3_total 21 = .ok (.invokevirtual 23, 3) := by decide +kernel
theorem dX3_total_24 : decode cX3_total 24 = .ok (.iload_n 1, 1) := by decide +kernel
theorem dX3_total_25 : decode cX3_total 25 = .ok (.idiv, 1) := by decide +kernel
theorem dX3_total_26 : decode cX3_total 26 = .ok (.ireturn, 1) := by decide +kernel
theorem bX3_total_0 (mem : zm_Mem) (post : zm_Post) (kk : zm_Call gX5_keepersOfAll [.ref 2] mem (fun r1 w1 u1 => ((1 ≤ r1 → zm_Call gX1_moveCount [.ref 1] u1 (fun r3 w3 u3 => (¬ r1 = 0 ∧ post (r3 / r1) 0 u3))) ∧ (¬ 1 ≤ r1 → post 1 0 u1)))) : zm_Call gX3_total [.ref 15] mem post := by
  refine z_entry (by decide) (Nat.le_of_ble_eq_true rfl) ?_
  show zm_Z gX3_total post 0 [(0, .ref 15)] [] mem
  refine z_aload_n dX3_total_0 rfl 0 rfl ?_
  refine z_getr (ci := 3) (j := 1) (r := 2) (T := TX3) rfl rfl hX3 rfl (by decide) fkX3_13 dX3_total_1 ?_
  refine z_callVi (g' := gX5_keepersOfAll) [] (q := 2) (ci := 5) (T := TX5) rfl rfl ⟨lkX3_17, pdX5_keepersOfAll, by decide, by decide⟩ ⟨_, rfl, by decide⟩ rfl (Nat.le_of_ble_eq_true rfl) dX3_total_4 (zm_Call.mono kk (fun r1 w1 u1 k1 => ?_))
  refine z_istore_n (lv' := [(1, .int r1), (0, .ref 15)]) dX3_total_7 rfl (by decide) rfl ?_
  refine z_iload_n dX3_total_8 rfl 0 rfl ?_
  refine z_iconst (v := 1) dX3_total_9 zciconst_1 ?_
  refine z_icmp_ge (tgt := 17) dX3_total_10 (by decide) (fun h2 => ?_) (fun h2 => ?_)
  ·
    refine z_aload_n dX3_total_17 rfl 1 rfl ?_
    refine z_getr (ci := 3) (j := 0) (r := 1) (T := TX3) rfl rfl hX3 rfl (by decide) fkX3_7 dX3_total_18 ?_
    refine z_callVi (g' := gX1_moveCount) [] (q := 1) (ci := 1) (T := TX1) rfl rfl ⟨lkX3_23, pdX1_moveCount, by decide, by decide⟩ ⟨_, rfl, by decide⟩ rfl (Nat.le_of_ble_eq_true rfl) dX3_total_21 (zm_Call.mono (k1.1 h2) (fun r3 w3 u3 k3 => ?_))
    refine z_iload_n dX3_total_24 rfl 0 rfl ?_
    refine z_idiv dX3_total_25 k3.1 ?_
    exact z_iret rfl dX3_total_26 k3.2
  ·
    refine z_iconst (v := 1) dX3_total_13 zciconst_1 ?_
    refine z_goto (tgt := 26) dX3_total_14 (by decide) ?_
    exact z_iret rfl dX3_total_26 (k1.2 h2)
theorem dX3_isAhead_0 : decode cX3_isAhead 0 = .ok (.aload_n 0, 1) := by decide +kernel
theorem dX3_isAhead_1 : decode cX3_isAhead 1 = .ok (.getfield 7, 3) := by decide +kernel
theorem dX3_isAhead_4 : decode cX3_isAhead 4 = .ok (.iload_n 1, 1) := by decide +kernel
theorem dX3_isAhead_5 : decode cX3_isAhead 5 = .ok (.invokevirtual 35, 3) := by decide +kernel
theorem dX3_isAhead_8 : decode cX3_isAhead 8 = .ok (.istore_n 3, 1) := by decide +kernel
theorem dX3_isAhead_9 : decode cX3_isAhead 9 = .ok (.aload_n 0, 1) := by decide +kernel
theorem dX3_isAhead_10 : decode cX3_isAhead 10 = .ok (.getfield 7, 3) := by decide +kernel
theorem dX3_isAhead_13 : decode cX3_isAhead 13 = .ok (.iload_n 2, 1) := by decide +kernel
theorem dX3_isAhead_14 : decode cX3_isAhead 14 = .ok (.invokevirtual 35, 3) := by decide +kernel
theorem dX3_isAhead_17 : decode cX3_isAhead 17 = .ok (.istore 4, 2) := by decide +kernel
theorem dX3_isAhead_19 : decode cX3_isAhead 19 = .ok (.iconst 0, 1) := by decide +kernel
theorem dX3_isAhead_20 : decode cX3_isAhead 20 = .ok (.istore 5, 2) := by decide +kernel
theorem dX3_isAhead_22 : decode cX3_isAhead 22 = .ok (.iload 5, 2) := by decide +kernel
theorem dX3_isAhead_24 : decode cX3_isAhead 24 = .ok (.aload_n 0, 1) := by decide +kernel
theorem dX3_isAhead_25 : decode cX3_isAhead 25 = .ok (.getfield 7, 3) := by decide +kernel
theorem dX3_isAhead_28 : decode cX3_isAhead 28 = .ok (.getfield 54, 3) := by decide +kernel
theorem dX3_isAhead_31 : decode cX3_isAhead 31 = .ok (.if_icmp .ge 70, 3) := by decide +kernel
theorem dX3_isAhead_34 : decode cX3_isAhead 34 = .ok (.aload_n 0, 1) := by decide +kernel
theorem dX3_isAhead_35 : decode cX3_isAhead 35 = .ok (.getfield 13, 3) := by decide +kernel
theorem dX3_isAhead_38 : decode cX3_isAhead 38 = .ok (.getfield 28, 3) := by decide +kernel
theorem dX3_isAhead_41 : decode cX3_isAhead 41 = .ok (.aload_n 0, 1) := by decide +kernel
theorem dX3_isAhead_42 : decode cX3_isAhead 42 = .ok (.getfield 7, 3) := by decide +kernel
theorem dX3_isAhead_45 : decode cX3_isAhead 45 = .ok (.iload_n 3, 1) := by decide +kernel
theorem dX3_isAhead_46 : decode cX3_isAhead 46 = .ok (.iload 5, 2) := by decide +kernel
theorem dX3_isAhead_48 : decode cX3_isAhead 48 = .ok (.invokevirtual 39, 3) := by decide +kernel
theorem dX3_isAhead_51 : decode cX3_isAhead 51 = .ok (.iaload, 1) := by decide +kernel
theorem dX3_isAhead_52 : decode cX3_isAhead 52 = .ok (.istore 6, 2) := by decide +kernel
theorem dX3_isAhead_54 : decode cX3_isAhead 54 = .ok (.aload_n 0, 1) := by decide +kernel
theorem dX3_isAhead_55 : decode cX3_isAhead 55 = .ok (.getfield 13, 3) := by decide +kernel
theorem dX3_isAhead_58 : decode cX3_isAhead 58 = .ok (.getfield 28, 3) := by decide +kernel
theorem dX3_isAhead_61 : decode cX3_isAhead 61 = .ok (.aload_n 0, 1) := by decide +kernel
theorem dX3_isAhead_62 : decode cX3_isAhead 62 = .ok (.getfield 7, 3) := by decide +kernel
theorem dX3_isAhead_65 : decode cX3_isAhead 65 = .ok (.iload 4, 2) := by decide +kernel
theorem dX3_isAhead_67 : decode cX3_isAhead 67 = .ok (.iload 5, 2) := by decide +kernel
theorem dX3_isAhead_69 : decode cX3_isAhead 69 = .ok (.invokevirtual 39, 3) := by decide +kernel
theorem dX3_isAhead_72 : decode cX3_isAhead 72 = .ok (.iaload, 1) := by decide +kernel
theorem dX3_isAhead_73 : decode cX3_isAhead 73 = .ok (.istore 7, 2) := by decide +kernel
theorem dX3_isAhead_75 : decode cX3_isAhead 75 = .ok (.iload 6, 2) := by decide +kernel
theorem dX3_isAhead_77 : decode cX3_isAhead 77 = .ok (.iload 7, 2) := by decide +kernel
theorem dX3_isAhead_79 : decode cX3_isAhead 79 = .ok (.if_icmp .eq 16, 3) := by decide +kernel
theorem dX3_isAhead_82 : decode cX3_isAhead 82 = .ok (.iload 6, 2) := by decide +kernel
theorem dX3_isAhead_84 : decode cX3_isAhead 84 = .ok (.iload 7, 2) := by decide +kernel
theorem dX3_isAhead_86 : decode cX3_isAhead 86 = .ok (.if_icmp .ge 7, 3) := by decide +kernel
theorem dX3_isAhead_89 : decode cX3_isAhead 89 = .ok (.iconst 1, 1) := by decide +kernel
theorem dX3_isAhead_90 : decode cX3_isAhead 90 = .ok (.goto 4, 3) := by decide +kernel
theorem dX3_isAhead_93 : decode cX3_isAhead 93 = .ok (.iconst 0, 1) := by decide +kernel
theorem dX3_isAhead_94 : decode cX3_isAhead 94 = .ok (.ireturn, 1) := by decide +kernel
theorem dX3_isAhead_95 : decode cX3_isAhead 95 = .ok (.iinc 5 1, 3) := by decide +kernel
theorem dX3_isAhead_98 : decode cX3_isAhead 98 = .ok (.goto (-76), 3) := by decide +kernel
theorem dX3_isAhead_101 : decode cX3_isAhead 101 = .ok (.iconst 0, 1) := by decide +kernel
theorem dX3_isAhead_102 : decode cX3_isAhead 102 = .ok (.ireturn, 1) := by decide +kernel
theorem bX3_isAhead_0 (x1 : Int32) (x2 : Int32) (mem : zm_Mem) (post : zm_Post) (kk : zm_Call gX1_undoing [.ref 1, .int x1] mem (fun r1 w1 u1 => zm_Call gX1_undoing [.ref 1, .int x2] u1 (fun r2 w2 u2 => zm_Z gX3_isAhead post 22 [(0, .ref 15), (3, .int r1), (4, .int r2), (5, .int 0)] [] u2))) : zm_Call gX3_isAhead [.ref 15, .int x1, .int x2] mem post := by
  refine z_entry (by decide) (Nat.le_of_ble_eq_true rfl) ?_
  show zm_Z gX3_isAhead post 0 [(0, .ref 15), (1, .int x1), (2, .int x2)] [] mem
  refine z_aload_n dX3_isAhead_0 rfl 0 rfl ?_
  refine z_getr (ci := 3) (j := 0) (r := 1) (T := TX3) rfl rfl hX3 rfl (by decide) fkX3_7 dX3_isAhead_1 ?_
  refine z_iload_n dX3_isAhead_4 rfl 1 rfl ?_
  refine z_callVi (g' := gX1_undoing) [.int x1] (q := 1) (ci := 1) (T := TX1) rfl rfl ⟨lkX3_35, pdX1_undoing, by decide, by decide⟩ ⟨_, rfl, by decide⟩ rfl (Nat.le_of_ble_eq_true rfl) dX3_isAhead_5 (zm_Call.mono kk (fun r1 w1 u1 k1 => ?_))
  refine z_istore_n (lv' := [(3, .int r1), (0, .ref 15), (1, .int x1), (2, .int x2)]) dX3_isAhead_8 rfl (by decide) rfl ?_
  refine z_aload_n dX3_isAhead_9 rfl 1 rfl ?_
  refine z_getr (ci := 3) (j := 0) (r := 1) (T := TX3) rfl rfl hX3 rfl (by decide) fkX3_7 dX3_isAhead_10 ?_
  refine z_iload_n dX3_isAhead_13 rfl 3 rfl ?_
  refine z_callVi (g' := gX1_undoing) [.int x2] (q := 1) (ci := 1) (T := TX1) rfl rfl ⟨lkX3_35, pdX1_undoing, by decide, by decide⟩ ⟨_, rfl, by decide⟩ rfl (Nat.le_of_ble_eq_true rfl) dX3_isAhead_14 (zm_Call.mono k1 (fun r2 w2 u2 k2 => ?_))
  refine z_istore (lv' := [(4, .int r2), (3, .int r1), (0, .ref 15), (1, .int x1), (2, .int x2)]) dX3_isAhead_17 (by decide) rfl ?_
  refine z_iconst (v := 0) dX3_isAhead_19 zciconst_0 ?_
  refine z_istore (lv' := [(5, .int 0), (4, .int r2), (3, .int r1), (0, .ref 15), (1, .int x1), (2, .int x2)]) dX3_isAhead_20 (by decide) rfl ?_
  refine z_sub [3, 2, 1, 0] rfl ?_
  exact k2
theorem bX3_isAhead_22 (x3 : Int32) (x4 : Int32) (x5 : Int32) (mem : zm_Mem) (post : zm_Post) (kk : (((mem 1 2) ≤ x5 → post 0 0 mem) ∧ (¬ (mem 1 2) ≤ x5 → zm_Call gX1_target [.ref 1, .int x3, .int x5] mem (fun r2 w2 u2 => (vp_in r2 36 ∧ zm_Call gX1_target [.ref 1, .int x4, .int x5] u2 (fun r3 w3 u3 => (vp_in r3 36 ∧ (((u2 3 (Int32.toNatClampNeg r2)) = (u3 3 (Int32.toNatClampNeg r3)) → zm_Z gX3_isAhead post 22 [(0, .ref 15), (3, .int x3), (4, .int x4), (5, .int (x5 + 1))] [] u3) ∧ (¬ (u2 3 (Int32.toNatClampNeg r2)) = (u3 3 (Int32.toNatClampNeg r3)) → (((u3 3 (Int32.toNatClampNeg r3)) ≤ (u2 3 (Int32.toNatClampNeg r2)) → post 0 0 u3) ∧ (¬ (u3 3 (Int32.toNatClampNeg r3)) ≤ (u2 3 (Int32.toNatClampNeg r2)) → post 1 0 u3))))))))))) : zm_Z gX3_isAhead post 22 [(0, .ref 15), (3, .int x3), (4, .int x4), (5, .int x5)] [] mem := by
  refine z_iload dX3_isAhead_22 3 rfl ?_
  refine z_aload_n dX3_isAhead_24 rfl 0 rfl ?_
  refine z_getr (ci := 3) (j := 0) (r := 1) (T := TX3) rfl rfl hX3 rfl (by decide) fkX3_7 dX3_isAhead_25 ?_
  refine z_getiN (ci := 1) (j := 2) (T := TX1) rfl rfl hX1 rfl (by decide) fkX3_54 dX3_isAhead_28 ?_
  refine z_icmp_ge (tgt := 101) dX3_isAhead_31 (by decide) (fun h1 => ?_) (fun h1 => ?_)
  ·
    refine z_iconst (v := 0) dX3_isAhead_101 zciconst_0 ?_
    exact z_zret rfl (by decide) dX3_isAhead_102 (kk.1 h1)
  ·
    refine z_aload_n dX3_isAhead_34 rfl 0 rfl ?_
    refine z_getr (ci := 3) (j := 1) (r := 2) (T := TX3) rfl rfl hX3 rfl (by decide) fkX3_13 dX3_isAhead_35 ?_
    refine z_getrN (ci := 5) (j := 1) (r := 3) (T := TX5) rfl rfl hX5 rfl (by decide) fkX3_28 dX3_isAhead_38 ?_
    refine z_aload_n dX3_isAhead_41 rfl 0 rfl ?_
    refine z_getr (ci := 3) (j := 0) (r := 1) (T := TX3) rfl rfl hX3 rfl (by decide) fkX3_7 dX3_isAhead_42 ?_
    refine z_iload_n dX3_isAhead_45 rfl 1 rfl ?_
    refine z_iload dX3_isAhead_46 3 rfl ?_
    refine z_callVi (g' := gX1_target) [.int x3, .int x5] (q := 1) (ci := 1) (T := TX1) rfl rfl ⟨lkX3_39, pdX1_target, by decide, by decide⟩ ⟨_, rfl, by decide⟩ rfl (Nat.le_of_ble_eq_true rfl) dX3_isAhead_48 (zm_Call.mono (kk.2 h1) (fun r2 w2 u2 k2 => ?_))
    refine z_iald (n := 36) rfl k2.1 dX3_isAhead_51 ?_
    refine z_istore (lv' := [(6, .int (u2 3 (Int32.toNatClampNeg r2))), (0, .ref 15), (3, .int x3), (4, .int x4), (5, .int x5)]) dX3_isAhead_52 (by decide) rfl ?_
    refine z_aload_n dX3_isAhead_54 rfl 1 rfl ?_
    refine z_getr (ci := 3) (j := 1) (r := 2) (T := TX3) rfl rfl hX3 rfl (by decide) fkX3_13 dX3_isAhead_55 ?_
    refine z_getrN (ci := 5) (j := 1) (r := 3) (T := TX5) rfl rfl hX5 rfl (by decide) fkX3_28 dX3_isAhead_58 ?_
    refine z_aload_n dX3_isAhead_61 rfl 1 rfl ?_
    refine z_getr (ci := 3) (j := 0) (r := 1) (T := TX3) rfl rfl hX3 rfl (by decide) fkX3_7 dX3_isAhead_62 ?_
    refine z_iload dX3_isAhead_65 3 rfl ?_
    refine z_iload dX3_isAhead_67 4 rfl ?_
    refine z_callVi (g' := gX1_target) [.int x4, .int x5] (q := 1) (ci := 1) (T := TX1) rfl rfl ⟨lkX3_39, pdX1_target, by decide, by decide⟩ ⟨_, rfl, by decide⟩ rfl (Nat.le_of_ble_eq_true rfl) dX3_isAhead_69 (zm_Call.mono k2.2 (fun r3 w3 u3 k3 => ?_))
    refine z_iald (n := 36) rfl k3.1 dX3_isAhead_72 ?_
    refine z_istore (lv' := [(7, .int (u3 3 (Int32.toNatClampNeg r3))), (6, .int (u2 3 (Int32.toNatClampNeg r2))), (0, .ref 15), (3, .int x3), (4, .int x4), (5, .int x5)]) dX3_isAhead_73 (by decide) rfl ?_
    refine z_iload dX3_isAhead_75 1 rfl ?_
    refine z_iload dX3_isAhead_77 0 rfl ?_
    refine z_icmp_eq (tgt := 95) dX3_isAhead_79 (by decide) (fun h4 => ?_) (fun h4 => ?_)
    ·
      refine z_iinc (v := x5 + 1) (lv' := [(5, .int (x5 + 1)), (7, .int (u3 3 (Int32.toNatClampNeg r3))), (6, .int (u2 3 (Int32.toNatClampNeg r2))), (0, .ref 15), (3, .int x3), (4, .int x4)]) dX3_isAhead_95 5 rfl (by rw [zciconst_1]) (by decide) rfl ?_
      refine z_goto (tgt := 22) dX3_isAhead_98 (by decide) ?_
      refine z_sub [3, 4, 5, 0] rfl ?_
      exact (k3.2.1 h4)
    ·
      refine z_iload dX3_isAhead_82 1 rfl ?_
      refine z_iload dX3_isAhead_84 0 rfl ?_
      refine z_icmp_ge (tgt := 93) dX3_isAhead_86 (by decide) (fun h5 => ?_) (fun h5 => ?_)
      ·
        refine z_iconst (v := 0) dX3_isAhead_93 zciconst_0 ?_
        exact z_zret rfl (by decide) dX3_isAhead_94 ((k3.2.2 h4).1 h5)
      ·
        refine z_iconst (v := 1) dX3_isAhead_89 zciconst_1 ?_
        refine z_goto (tgt := 94) dX3_isAhead_90 (by decide) ?_
        exact z_zret rfl (by decide) dX3_isAhead_94 ((k3.2.2 h4).2 h5)
theorem dX3_moveToFirst_0 : decode cX3_moveToFirst 0 = .ok (.iconst 0, 1) := by decide +kernel
theorem dX3_moveToFirst_1 : decode cX3_moveToFirst 1 = .ok (.istore_n 1, 1) := by decide +kernel
theorem dX3_moveToFirst_2 : decode cX3_moveToFirst 2 = .ok (.iconst 1, 1) := by decide +kernel
theorem dX3_moveToFirst_3 : decode cX3_moveToFirst 3 = .ok (.istore_n 2, 1) := by decide +kernel
theorem dX3_moveToFirst_4 : decode cX3_moveToFirst 4 = .ok (.iload_n 2, 1) := by decide +kernel
theorem dX3_moveToFirst_5 : decode cX3_moveToFirst 5 = .ok (.aload_n 0, 1) := by decide +kernel
theorem dX3_moveToFirst_6 : decode cX3_moveToFirst 6 = .ok (.getfield 7, 3) := by decide +kernel
theorem dX3_moveToFirst_9 : decode cX3_moveToFirst 9 = .ok (.invokevirtual 43, 3) := by decide +kernel
theorem dX3_moveToFirst_12 : decode cX3_moveToFirst 12 = .ok (.if_icmp .ge 31, 3) := by decide +kernel
theorem dX3_moveToFirst_15 : decode cX3_moveToFirst 15 = .ok (.aload_n 0, 1) := by decide +kernel
theorem dX3_moveToFirst_16 : decode cX3_moveToFirst 16 = .ok (.getfield 7, 3) := by decide +kernel
theorem dX3_moveToFirst_19 : decode cX3_moveToFirst 19 = .ok (.iload_n 2, 1) := by decide +kernel
theorem dX3_moveToFirst_20 : decode cX3_moveToFirst 20 = .ok (.invokevirtual 46, 3) := by decide +kernel
theorem dX3_moveToFirst_23 : decode cX3_moveToFirst 23 = .ok (.ifCond .eq 14, 3) := by decide +kernel
theorem dX3_moveToFirst_26 : decode cX3_moveToFirst 26 = .ok (.aload_n 0, 1) := by decide +kernel
theorem dX3_moveToFirst_27 : decode cX3_moveToFirst 27 = .ok (.iload_n 2, 1) := by decide +kernel
theorem dX3_moveToFirst_28 : decode cX3_moveToFirst 28 = .ok (.iload_n 1, 1) := by decide +kernel
theorem dX3_moveToFirst_29 : decode cX3_moveToFirst 29 = .ok (.invokevirtual 50, 3) := by decide +kernel
theorem dX3_moveToFirst_32 : decode cX3_moveToFirst 32 = .ok (.ifCond .eq 5, 3) := by decide +kernel
theorem dX3_moveToFirst_35 : decode cX3_moveToFirst 35 = .ok (.iload_n 2, 1) := by decide +kernel
theorem dX3_moveToFirst_36 : decode cX3_moveToFirst 36 = .ok (.istore_n 1, 1) := by decide +kernel
theorem dX3_moveToFirst_37 : decode cX3_moveToFirst 37 = .ok (.iinc 2 1, 3) := by decide +kernel
theorem dX3_moveToFirst_40 : decode cX3_moveToFirst 40 = .ok (.goto (-36), 3) := by decide +kernel
theorem dX3_moveToFirst_43 : decode cX3_moveToFirst 43 = .ok (.iload_n 1, 1) := by decide +kernel
theorem dX3_moveToFirst_44 : decode cX3_moveToFirst 44 = .ok (.ireturn, 1) := by decide +kernel
theorem bX3_moveToFirst_0 (mem : zm_Mem) (post : zm_Post) (kk : zm_Z gX3_moveToFirst post 4 [(0, .ref 15), (1, .int 0), (2, .int 1)] [] mem) : zm_Call gX3_moveToFirst [.ref 15] mem post := by
  refine z_entry (by decide) (Nat.le_of_ble_eq_true rfl) ?_
  show zm_Z gX3_moveToFirst post 0 [(0, .ref 15)] [] mem
  refine z_iconst (v := 0) dX3_moveToFirst_0 zciconst_0 ?_
  refine z_istore_n (lv' := [(1, .int 0), (0, .ref 15)]) dX3_moveToFirst_1 rfl (by decide) rfl ?_
  refine z_iconst (v := 1) dX3_moveToFirst_2 zciconst_1 ?_
  refine z_istore_n (lv' := [(2, .int 1), (1, .int 0), (0, .ref 15)]) dX3_moveToFirst_3 rfl (by decide) rfl ?_
  refine z_sub [2, 1, 0] rfl ?_
  exact kk
theorem bX3_moveToFirst_4 (x1 : Int32) (x2 : Int32) (mem : zm_Mem) (post : zm_Post) (kk : zm_Call gX1_numbers [.ref 1] mem (fun r1 w1 u1 => ((r1 ≤ x2 → post x1 0 u1) ∧ (¬ r1 ≤ x2 → zm_Call gX1_hasMove [.ref 1, .int x2] u1 (fun r3 w3 u3 => ((r3 = 0 → zm_Z gX3_moveToFirst post 4 [(0, .ref 15), (1, .int x1), (2, .int (x2 + 1))] [] u3) ∧ (¬ r3 = 0 → zm_Call gX3_isAhead [.ref 15, .int x2, .int x1] u3 (fun r5 w5 u5 => ((r5 = 0 → zm_Z gX3_moveToFirst post 4 [(0, .ref 15), (1, .int x1), (2, .int (x2 + 1))] [] u5) ∧ (¬ r5 = 0 → zm_Z gX3_moveToFirst post 4 [(0, .ref 15), (1, .int x2), (2, .int (x2 + 1))] [] u5)))))))))) : zm_Z gX3_moveToFirst post 4 [(0, .ref 15), (1, .int x1), (2, .int x2)] [] mem := by
  refine z_iload_n dX3_moveToFirst_4 rfl 2 rfl ?_
  refine z_aload_n dX3_moveToFirst_5 rfl 0 rfl ?_
  refine z_getr (ci := 3) (j := 0) (r := 1) (T := TX3) rfl rfl hX3 rfl (by decide) fkX3_7 dX3_moveToFirst_6 ?_
  refine z_callVi (g' := gX1_numbers) [] (q := 1) (ci := 1) (T := TX1) rfl rfl ⟨lkX3_43, pdX1_numbers, by decide, by decide⟩ ⟨_, rfl, by decide⟩ rfl (Nat.le_of_ble_eq_true rfl) dX3_moveToFirst_9 (zm_Call.mono kk (fun r1 w1 u1 k1 => ?_))
  refine z_icmp_ge (tgt := 43) dX3_moveToFirst_12 (by decide) (fun h2 => ?_) (fun h2 => ?_)
  ·
    refine z_iload_n dX3_moveToFirst_43 rfl 1 rfl ?_
    exact z_iret rfl dX3_moveToFirst_44 (k1.1 h2)
  ·
    refine z_aload_n dX3_moveToFirst_15 rfl 0 rfl ?_
    refine z_getr (ci := 3) (j := 0) (r := 1) (T := TX3) rfl rfl hX3 rfl (by decide) fkX3_7 dX3_moveToFirst_16 ?_
    refine z_iload_n dX3_moveToFirst_19 rfl 2 rfl ?_
    refine z_callVi (g' := gX1_hasMove) [.int x2] (q := 1) (ci := 1) (T := TX1) rfl rfl ⟨lkX3_46, pdX1_hasMove, by decide, by decide⟩ ⟨_, rfl, by decide⟩ rfl (Nat.le_of_ble_eq_true rfl) dX3_moveToFirst_20 (zm_Call.mono (k1.2 h2) (fun r3 w3 u3 k3 => ?_))
    refine z_if_eq (tgt := 37) dX3_moveToFirst_23 (by decide) (fun h4 => ?_) (fun h4 => ?_)
    ·
      refine z_iinc (v := x2 + 1) (lv' := [(2, .int (x2 + 1)), (0, .ref 15), (1, .int x1)]) dX3_moveToFirst_37 2 rfl (by rw [zciconst_1]) (by decide) rfl ?_
      refine z_goto (tgt := 4) dX3_moveToFirst_40 (by decide) ?_
      refine z_sub [1, 2, 0] rfl ?_
      exact (k3.1 h4)
    ·
      refine z_aload_n dX3_moveToFirst_26 rfl 0 rfl ?_
      refine z_iload_n dX3_moveToFirst_27 rfl 2 rfl ?_
      refine z_iload_n dX3_moveToFirst_28 rfl 1 rfl ?_
      refine z_callVi (g' := gX3_isAhead) [.int x2, .int x1] (q := 15) (ci := 3) (T := TX3) rfl rfl ⟨lkX3_50, pdX3_isAhead, by decide, by decide⟩ ⟨_, rfl, by decide⟩ rfl (Nat.le_of_ble_eq_true rfl) dX3_moveToFirst_29 (zm_Call.mono (k3.2 h4) (fun r5 w5 u5 k5 => ?_))
      refine z_if_eq (tgt := 37) dX3_moveToFirst_32 (by decide) (fun h6 => ?_) (fun h6 => ?_)
      ·
        refine z_iinc (v := x2 + 1) (lv' := [(2, .int (x2 + 1)), (0, .ref 15), (1, .int x1)]) dX3_moveToFirst_37 2 rfl (by rw [zciconst_1]) (by decide) rfl ?_
        refine z_goto (tgt := 4) dX3_moveToFirst_40 (by decide) ?_
        refine z_sub [1, 2, 0] rfl ?_
        exact (k5.1 h6)
      ·
        refine z_iload_n dX3_moveToFirst_35 rfl 2 rfl ?_
        refine z_istore_n (lv' := [(1, .int x2), (0, .ref 15), (2, .int x2)]) dX3_moveToFirst_36 rfl (by decide) rfl ?_
        refine z_iinc (v := x2 + 1) (lv' := [(2, .int (x2 + 1)), (1, .int x2), (0, .ref 15)]) dX3_moveToFirst_37 2 rfl (by rw [zciconst_1]) (by decide) rfl ?_
        refine z_goto (tgt := 4) dX3_moveToFirst_40 (by decide) ?_
        refine z_sub [2, 1, 0] rfl ?_
        exact (k5.2 h6)
theorem dX3_hueInFirst_0 : decode cX3_hueInFirst 0 = .ok (.aload_n 0, 1) := by decide +kernel
theorem dX3_hueInFirst_1 : decode cX3_hueInFirst 1 = .ok (.getfield 13, 3) := by decide +kernel
theorem dX3_hueInFirst_4 : decode cX3_hueInFirst 4 = .ok (.getfield 28, 3) := by decide +kernel
theorem dX3_hueInFirst_7 : decode cX3_hueInFirst 7 = .ok (.aload_n 0, 1) := by decide +kernel
theorem dX3_hueInFirst_8 : decode cX3_hueInFirst 8 = .ok (.getfield 7, 3) := by decide +kernel
theorem dX3_hueInFirst_11 : decode cX3_hueInFirst 11 = .ok (.aload_n 0, 1) := by decide +kernel
theorem dX3_hueInFirst_12 : decode cX3_hueInFirst 12 = .ok (.getfield 7, 3) := by decide +kernel
theorem dX3_hueInFirst_15 : decode cX3_hueInFirst 15 = .ok (.aload_n 0, 1) := by decide +kernel
theorem dX3_hueInFirst_16 : decode cX3_hueInFirst 16 = .ok (.invokevirtual 32, 3) := by decide +kernel
theorem dX3_hueInFirst_19 : decode cX3_hueInFirst 19 = .ok (.invokevirtual 35, 3) := by decide +kernel
theorem dX3_hueInFirst_22 : decode cX3_hueInFirst 22 = .ok (.iload_n 1, 1) := by decide +kernel
theorem dX3_hueInFirst_23 : decode cX3_hueInFirst 23 = .ok (.invokevirtual 39, 3) := by decide +kernel
theorem dX3_hueInFirst_26 : decode cX3_hueInFirst 26 = .ok (.iaload, 1) := by decide +kernel
theorem dX3_hueInFirst_27 : decode cX3_hueInFirst 27 = .ok (.ireturn, 1) := by decide +kernel
theorem bX3_hueInFirst_0 (x1 : Int32) (mem : zm_Mem) (post : zm_Post) (kk : zm_Call gX3_moveToFirst [.ref 15] mem (fun r1 w1 u1 => zm_Call gX1_undoing [.ref 1, .int r1] u1 (fun r2 w2 u2 => zm_Call gX1_target [.ref 1, .int r2, .int x1] u2 (fun r3 w3 u3 => (vp_in r3 36 ∧ post (u3 3 (Int32.toNatClampNeg r3)) 0 u3))))) : zm_Call gX3_hueInFirst [.ref 15, .int x1] mem post := by
  refine z_entry (by decide) (Nat.le_of_ble_eq_true rfl) ?_
  show zm_Z gX3_hueInFirst post 0 [(0, .ref 15), (1, .int x1)] [] mem
  refine z_aload_n dX3_hueInFirst_0 rfl 0 rfl ?_
  refine z_getr (ci := 3) (j := 1) (r := 2) (T := TX3) rfl rfl hX3 rfl (by decide) fkX3_13 dX3_hueInFirst_1 ?_
  refine z_getrN (ci := 5) (j := 1) (r := 3) (T := TX5) rfl rfl hX5 rfl (by decide) fkX3_28 dX3_hueInFirst_4 ?_
  refine z_aload_n dX3_hueInFirst_7 rfl 0 rfl ?_
  refine z_getr (ci := 3) (j := 0) (r := 1) (T := TX3) rfl rfl hX3 rfl (by decide) fkX3_7 dX3_hueInFirst_8 ?_
  refine z_aload_n dX3_hueInFirst_11 rfl 0 rfl ?_
  refine z_getr (ci := 3) (j := 0) (r := 1) (T := TX3) rfl rfl hX3 rfl (by decide) fkX3_7 dX3_hueInFirst_12 ?_
  refine z_aload_n dX3_hueInFirst_15 rfl 0 rfl ?_
  refine z_callVi (g' := gX3_moveToFirst) [] (q := 15) (ci := 3) (T := TX3) rfl rfl ⟨lkX3_32, pdX3_moveToFirst, by decide, by decide⟩ ⟨_, rfl, by decide⟩ rfl (Nat.le_of_ble_eq_true rfl) dX3_hueInFirst_16 (zm_Call.mono kk (fun r1 w1 u1 k1 => ?_))
  refine z_callVi (g' := gX1_undoing) [.int r1] (q := 1) (ci := 1) (T := TX1) rfl rfl ⟨lkX3_35, pdX1_undoing, by decide, by decide⟩ ⟨_, rfl, by decide⟩ rfl (Nat.le_of_ble_eq_true rfl) dX3_hueInFirst_19 (zm_Call.mono k1 (fun r2 w2 u2 k2 => ?_))
  refine z_iload_n dX3_hueInFirst_22 rfl 1 rfl ?_
  refine z_callVi (g' := gX1_target) [.int r2, .int x1] (q := 1) (ci := 1) (T := TX1) rfl rfl ⟨lkX3_39, pdX1_target, by decide, by decide⟩ ⟨_, rfl, by decide⟩ rfl (Nat.le_of_ble_eq_true rfl) dX3_hueInFirst_23 (zm_Call.mono k2 (fun r3 w3 u3 k3 => ?_))
  refine z_iald (n := 36) rfl k3.1 dX3_hueInFirst_26 ?_
  exact z_iret rfl dX3_hueInFirst_27 k3.2
