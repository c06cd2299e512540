theorem dX9_isBehindShift_0 : decode cX9_isBehindShift 0 = .ok (.iload_n 1, 1) := by decide +kernel
theorem dX9_isBehindShift_1 : decode cX9_isBehindShift 1 = .ok (.aload_n 0, 1) := by decide +kernel
theorem dX9_isBehindShift_2 : decode cX9_isBehindShift 2 = .ok (.invokevirtual 72, 3) := by decide +kernel
theorem dX9_isBehindShift_5 : decode cX9_isBehindShift 5 = .ok (.idiv, 1) := by decide +kernel
theorem dX9_isBehindShift_6 : decode cX9_isBehindShift 6 = .ok (.istore_n 2, 1) := by decide +kernel
theorem dX9_isBehindShift_7 : decode cX9_isBehindShift 7 = .ok (.iload_n 1, 1) := by decide +kernel
theorem dX9_isBehindShift_8 : decode cX9_isBehindShift 8 = .ok (.aload_n 0, 1) := by decide +kernel
theorem dX9_isBehindShift_9 : decode cX9_isBehindShift 9 = .ok (.invokevirtual 72, 3) := by decide +kernel
theorem dX9_isBehindShift_12 : decode cX9_isBehindShift 12 = .ok (.irem, 1) := by decide +kernel
theorem dX9_isBehindShift_13 : decode cX9_isBehindShift 13 = .ok (.aload_n 0, 1) := by decide +kernel
theorem dX9_isBehindShift_14 : decode cX9_isBehindShift 14 = .ok (.getfield 7, 3) := by decide +kernel
theorem dX9_isBehindShift_17 : decode cX9_isBehindShift 17 = .ok (.irem, 1) := by decide +kernel
theorem dX9_isBehindShift_18 : decode cX9_isBehindShift 18 = .ok (.istore_n 3, 1) := by decide +kernel
theorem dX9_isBehindShift_19 : decode cX9_isBehindShift 19 = .ok (.iload_n 1, 1) := by decide +kernel
theorem dX9_isBehindShift_20 : decode cX9_isBehindShift 20 = .ok (.aload_n 0, 1) := by decide +kernel
theorem dX9_isBehindShift_21 : decode cX9_isBehindShift 21 = .ok (.invokevirtual 72, 3) := by decide +kernel
theorem dX9_isBehindShift_24 : decode cX9_isBehindShift 24 = .ok (.irem, 1) := by decide +kernel
theorem dX9_isBehindShift_25 : decode cX9_isBehindShift 25 = .ok (.aload_n 0, 1) := by decide +kernel
theorem dX9_isBehindShift_26 : decode cX9_isBehindShift 26 = .ok (.getfield 7, 3) := by decide +kernel
theorem dX9_isBehindShift_29 : decode cX9_isBehindShift 29 = .ok (.idiv, 1) := by decide +kernel
theorem dX9_isBehindShift_30 : decode cX9_isBehindShift 30 = .ok (.istore 4, 2) := by decide +kernel
theorem dX9_isBehindShift_32 : decode cX9_isBehindShift 32 = .ok (.iload_n 2, 1) := by decide +kernel
theorem dX9_isBehindShift_33 : decode cX9_isBehindShift 33 = .ok (.iconst 4, 1) := by decide +kernel
theorem dX9_isBehindShift_34 : decode cX9_isBehindShift 34 = .ok (.if_icmp .ne 16, 3) := by decide +kernel
theorem dX9_isBehindShift_37 : decode cX9_isBehindShift 37 = .ok (.aload_n 0, 1) := by decide +kernel
theorem dX9_isBehindShift_38 : decode cX9_isBehindShift 38 = .ok (.getfield 45, 3) := by decide +kernel
theorem dX9_isBehindShift_41 : decode cX9_isBehindShift 41 = .ok (.iload 4, 2) := by decide +kernel
theorem dX9_isBehindShift_43 : decode cX9_isBehindShift 43 = .ok (.aload_n 0, 1) := by decide +kernel
theorem dX9_isBehindShift_44 : decode cX9_isBehindShift 44 = .ok (.getfield 7, 3) := by decide +kernel
theorem dX9_isBehindShift_47 : decode cX9_isBehindShift 47 = .ok (.imul, 1) := by decide +kernel
theorem dX9_isBehindShift_48 : decode cX9_isBehindShift 48 = .ok (.baload, 1) := by decide +kernel
theorem dX9_isBehindShift_49 : decode cX9_isBehindShift 49 = .ok (.ireturn, 1) := by decide +kernel
theorem dX9_isBehindShift_50 : decode cX9_isBehindShift 50 = .ok (.iload_n 2, 1) := by decide +kernel
theorem dX9_isBehindShift_51 : decode cX9_isBehindShift 51 = .ok (.iconst 5, 1) := by decide +kernel
theorem dX9_isBehindShift_52 : decode cX9_isBehindShift 52 = .ok (.if_icmp .ne 10, 3) := by decide +kernel
theorem dX9_isBehindShift_55 : decode cX9_isBehindShift 55 = .ok (.aload_n 0, 1) := by decide +kernel
theorem dX9_isBehindShift_56 : decode cX9_isBehindShift 56 = .ok (.getfield 45, 3) := by decide +kernel
theorem dX9_isBehindShift_59 : decode cX9_isBehindShift 59 = .ok (.iload_n 3, 1) := by decide +kernel
theorem dX9_isBehindShift_60 : decode cX9_isBehindShift 60 = .ok (.baload, 1) := by decide +kernel
theorem dX9_isBehindShift_61 : decode cX9_isBehindShift 61 = .ok (.ireturn, 1) := by decide +kernel
theorem dX9_isBehindShift_62 : decode cX9_isBehindShift 62 = .ok (.iconst 0, 1) := by decide +kernel
theorem dX9_isBehindShift_63 : decode cX9_isBehindShift 63 = .ok (.istore 5, 2) := by decide +kernel
theorem dX9_isBehindShift_65 : decode cX9_isBehindShift 65 = .ok (.iconst 0, 1) := by decide +kernel
theorem dX9_isBehindShift_66 : decode cX9_isBehindShift 66 = .ok (.istore 6, 2) := by decide +kernel
theorem dX9_isBehindShift_68 : decode cX9_isBehindShift 68 = .ok (.iload 6, 2) := by decide +kernel
theorem dX9_isBehindShift_70 : decode cX9_isBehindShift 70 = .ok (.aload_n 0, 1) := by decide +kernel
theorem dX9_isBehindShift_71 : decode cX9_isBehindShift 71 = .ok (.getfield 7, 3) := by decide +kernel
theorem dX9_isBehindShift_74 : decode cX9_isBehindShift 74 = .ok (.if_icmp .ge 111, 3) := by decide +kernel
theorem dX9_isBehindShift_77 : decode cX9_isBehindShift 77 = .ok (.iload_n 2, 1) := by decide +kernel
theorem dX9_isBehindShift_78 : decode cX9_isBehindShift 78 = .ok (.bipush 6, 2) := by decide +kernel
theorem dX9_isBehindShift_80 : decode cX9_isBehindShift 80 = .ok (.if_icmp .ne 16, 3) := by decide +kernel
theorem dX9_isBehindShift_83 : decode cX9_isBehindShift 83 = .ok (.iload 6, 2) := by decide +kernel
theorem dX9_isBehindShift_85 : decode cX9_isBehindShift 85 = .ok (.aload_n 0, 1) := by decide +kernel
theorem dX9_isBehindShift_86 : decode cX9_isBehindShift 86 = .ok (.getfield 7, 3) := by decide +kernel
theorem dX9_isBehindShift_89 : decode cX9_isBehindShift 89 = .ok (.imul, 1) := by decide +kernel
theorem dX9_isBehindShift_90 : decode cX9_isBehindShift 90 = .ok (.iload 6, 2) := by decide +kernel
theorem dX9_isBehindShift_92 : decode cX9_isBehindShift 92 = .ok (.iadd, 1) := by decide +kernel
theorem dX9_isBehindShift_93 : decode cX9_isBehindShift 93 = .ok (.goto 21, 3) := by decide +kernel
theorem dX9_isBehindShift_96 : decode cX9_isBehindShift 96 = .ok (.iload 6, 2) := by decide +kernel
theorem dX9_isBehindShift_98 : decode cX9_isBehindShift 98 = .ok (.ineg, 1) := by decide +kernel
theorem dX9_isBehindShift_99 : decode cX9_isBehindShift 99 = .ok (.aload_n 0, 1) := by decide +kernel
theorem dX9_isBehindShift_100 : decode cX9_isBehindShift 100 = .ok (.getfield 7, 3) := by decide +kernel
theorem dX9_isBehindShift_103 : decode cX9_isBehindShift 103 = .ok (.invokestatic 88, 3) := by decide +kernel
theorem dX9_isBehindShift_106 : decode cX9_isBehindShift 106 = .ok (.aload_n 0, 1) := by decide +kernel
theorem dX9_isBehindShift_107 : decode cX9_isBehindShift 107 = .ok (.getfield 7, 3) := by decide +kernel
theorem dX9_isBehindShift_110 : decode cX9_isBehindShift 110 = .ok (.imul, 1) := by decide +kernel
theorem dX9_isBehindShift_111 : decode cX9_isBehindShift 111 = .ok (.iload 6, 2) := by decide +kernel
theorem dX9_isBehindShift_113 : decode cX9_isBehindShift 113 = .ok (.iadd, 1) := by decide +kernel
theorem dX9_isBehindShift_114 : decode cX9_isBehindShift 114 = .ok (.istore 7, 2) := by decide +kernel
theorem dX9_isBehindShift_116 : decode cX9_isBehindShift 116 = .ok (.iload_n 2, 1) := by decide +kernel
theorem dX9_isBehindShift_117 : decode cX9_isBehindShift 117 = .ok (.bipush 6, 2) := by decide +kernel
theorem dX9_isBehindShift_119 : decode cX9_isBehindShift 119 = .ok (.if_icmp .ne 15, 3) := by decide +kernel
theorem dX9_isBehindShift_122 : decode cX9_isBehindShift 122 = .ok (.iload_n 3, 1) := by decide +kernel
theorem dX9_isBehindShift_123 : decode cX9_isBehindShift 123 = .ok (.iload 4, 2) := by decide +kernel
theorem dX9_isBehindShift_125 : decode cX9_isBehindShift 125 = .ok (.iadd, 1) := by decide +kernel
theorem dX9_isBehindShift_126 : decode cX9_isBehindShift 126 = .ok (.iconst 2, 1) := by decide +kernel
theorem dX9_isBehindShift_127 : decode cX9_isBehindShift 127 = .ok (.iload 6, 2) := by decide +kernel
theorem dX9_isBehindShift_129 : decode cX9_isBehindShift 129 = .ok (.imul, 1) := by decide +kernel
theorem dX9_isBehindShift_130 : decode cX9_isBehindShift 130 = .ok (.isub, 1) := by decide +kernel
theorem dX9_isBehindShift_131 : decode cX9_isBehindShift 131 = .ok (.goto 12, 3) := by decide +kernel
theorem dX9_isBehindShift_134 : decode cX9_isBehindShift 134 = .ok (.iload_n 3, 1) := by decide +kernel
theorem dX9_isBehindShift_135 : decode cX9_isBehindShift 135 = .ok (.iload 4, 2) := by decide +kernel
theorem dX9_isBehindShift_137 : decode cX9_isBehindShift 137 = .ok (.isub, 1) := by decide +kernel
theorem dX9_isBehindShift_138 : decode cX9_isBehindShift 138 = .ok (.iconst 2, 1) := by decide +kernel
theorem dX9_isBehindShift_139 : decode cX9_isBehindShift 139 = .ok (.iload 6, 2) := by decide +kernel
theorem dX9_isBehindShift_141 : decode cX9_isBehindShift 141 = .ok (.imul, 1) := by decide +kernel
theorem dX9_isBehindShift_142 : decode cX9_isBehindShift 142 = .ok (.isub, 1) := by decide +kernel
theorem dX9_isBehindShift_143 : decode cX9_isBehindShift 143 = .ok (.istore 8, 2) := by decide +kernel
theorem dX9_isBehindShift_145 : decode cX9_isBehindShift 145 = .ok (.iload 5, 2) := by decide +kernel
theorem dX9_isBehindShift_147 : decode cX9_isBehindShift 147 = .ok (.ifCond .ne 25, 3) := by decide +kernel
theorem dX9_isBehindShift_150 : decode cX9_isBehindShift 150 = .ok (.aload_n 0, 1) := by decide +kernel
theorem dX9_isBehindShift_151 : decode cX9_isBehindShift 151 = .ok (.getfield 45, 3) := by decide +kernel
theorem dX9_isBehindShift_154 : decode cX9_isBehindShift 154 = .ok (.iload 7, 2) := by decide +kernel
theorem dX9_isBehindShift_156 : decode cX9_isBehindShift 156 = .ok (.baload, 1) := by decide +kernel
theorem dX9_isBehindShift_157 : decode cX9_isBehindShift 157 = .ok (.ifCond .eq 19, 3) := by decide +kernel
theorem dX9_isBehindShift_160 : decode cX9_isBehindShift 160 = .ok (.iload 8, 2) := by decide +kernel
theorem dX9_isBehindShift_162 : decode cX9_isBehindShift 162 = .ok (.aload_n 0, 1) := by decide +kernel
theorem dX9_isBehindShift_163 : decode cX9_isBehindShift 163 = .ok (.getfield 7, 3) := by decide +kernel
theorem dX9_isBehindShift_166 : decode cX9_isBehindShift 166 = .ok (.invokestatic 88, 3) := by decide +kernel
theorem dX9_isBehindShift_169 : decode cX9_isBehindShift 169 = .ok (.ifCond .ne 7, 3) := by decide +kernel
theorem dX9_isBehindShift_172 : decode cX9_isBehindShift 172 = .ok (.iconst 1, 1) := by decide +kernel
theorem dX9_isBehindShift_173 : decode cX9_isBehindShift 173 = .ok (.goto 4, 3) := by decide +kernel
theorem dX9_isBehindShift_176 : decode cX9_isBehindShift 176 = .ok (.iconst 0, 1) := by decide +kernel
theorem dX9_isBehindShift_177 : decode cX9_isBehindShift 177 = .ok (.istore 5, 2) := by decide +kernel
theorem dX9_isBehindShift_179 : decode cX9_isBehindShift 179 = .ok (.iinc 6 1, 3) := by decide +kernel
theorem dX9_isBehindShift_182 : decode cX9_isBehindShift 182 = .ok (.goto (-114), 3) := by decide +kernel
theorem dX9_isBehindShift_185 : decode cX9_isBehindShift 185 = .ok (.iload 5, 2) := by decide +kernel
theorem dX9_isBehindShift_187 : decode cX9_isBehindShift 187 = .ok (.ireturn, 1) := by decide +kernel
theorem bX9_isBehindShift_0 (x1 : Int32) (mem : zm_Mem) (post : zm_Post) (kk : zm_Call gX9_cells [.ref 21] mem (fun r1 w1 u1 => (¬ r1 = 0 ∧ zm_Call gX9_cells [.ref 21] u1 (fun r2 w2 u2 => (¬ r2 = 0 ∧ (¬ u2 21 1 = 0 ∧ zm_Call gX9_cells [.ref 21] u2 (fun r3 w3 u3 => (¬ r3 = 0 ∧ (¬ u3 21 1 = 0 ∧ ((¬ (x1 / r1) = 4 → ((¬ (x1 / r1) = 5 → zm_Z gX9_isBehindShift post 68 [(0, .ref 21), (2, .int (x1 / r1)), (3, .int ((x1 - x1 / r2 * r2) - (x1 - x1 / r2 * r2) / (u2 21 1) * (u2 21 1))), (4, .int ((x1 - x1 / r3 * r3) / (u3 21 1))), (5, .int 0), (6, .int 0)] [] u3) ∧ ((x1 / r1) = 5 → (vp_in ((x1 - x1 / r2 * r2) - (x1 - x1 / r2 * r2) / (u2 21 1) * (u2 21 1)) 36 ∧ (((u3 30 (Int32.toNatClampNeg ((x1 - x1 / r2 * r2) - (x1 - x1 / r2 * r2) / (u2 21 1) * (u2 21 1)))) = 0 ∨ (u3 30 (Int32.toNatClampNeg ((x1 - x1 / r2 * r2) - (x1 - x1 / r2 * r2) / (u2 21 1) * (u2 21 1)))) = 1) ∧ post (u3 30 (Int32.toNatClampNeg ((x1 - x1 / r2 * r2) - (x1 - x1 / r2 * r2) / (u2 21 1) * (u2 21 1)))) 0 u3))))) ∧ ((x1 / r1) = 4 → (vp_in (((x1 - x1 / r3 * r3) / (u3 21 1)) * (u3 21 1)) 36 ∧ (((u3 30 (Int32.toNatClampNeg (((x1 - x1 / r3 * r3) / (u3 21 1)) * (u3 21 1)))) = 0 ∨ (u3 30 (Int32.toNatClampNeg (((x1 - x1 / r3 * r3) / (u3 21 1)) * (u3 21 1)))) = 1) ∧ post (u3 30 (Int32.toNatClampNeg (((x1 - x1 / r3 * r3) / (u3 21 1)) * (u3 21 1)))) 0 u3))))))))))))) : zm_Call gX9_isBehindShift [.ref 21, .int x1] mem post := by
  refine z_entry (by decide) (Nat.le_of_ble_eq_true rfl) ?_
  show zm_Z gX9_isBehindShift post 0 [(0, .ref 21), (1, .int x1)] [] mem
  refine z_iload_n dX9_isBehindShift_0 rfl 1 rfl ?_
  refine z_aload_n dX9_isBehindShift_1 rfl 0 rfl ?_
  refine z_callVi (g' := gX9_cells) [] (q := 21) (ci := 9) (T := TX9) rfl rfl ⟨lkX9_72, pdX9_cells, by decide, by decide⟩ ⟨_, rfl, by decide⟩ rfl (Nat.le_of_ble_eq_true rfl) dX9_isBehindShift_2 (zm_Call.mono kk (fun r1 w1 u1 k1 => ?_))
  refine z_idiv dX9_isBehindShift_5 k1.1 ?_
  refine z_istore_n (lv' := [(2, .int (x1 / r1)), (0, .ref 21), (1, .int x1)]) dX9_isBehindShift_6 rfl (by decide) rfl ?_
  refine z_iload_n dX9_isBehindShift_7 rfl 2 rfl ?_
  refine z_aload_n dX9_isBehindShift_8 rfl 1 rfl ?_
  refine z_callVi (g' := gX9_cells) [] (q := 21) (ci := 9) (T := TX9) rfl rfl ⟨lkX9_72, pdX9_cells, by decide, by decide⟩ ⟨_, rfl, by decide⟩ rfl (Nat.le_of_ble_eq_true rfl) dX9_isBehindShift_9 (zm_Call.mono k1.2 (fun r2 w2 u2 k2 => ?_))
  refine z_irem dX9_isBehindShift_12 k2.1 ?_
  refine z_aload_n dX9_isBehindShift_13 rfl 1 rfl ?_
  refine z_geti (ci := 9) (j := 1) (T := TX9) rfl rfl hX9 rfl (by decide) fkX9_7 dX9_isBehindShift_14 ?_
  refine z_irem dX9_isBehindShift_17 k2.2.1 ?_
  refine z_istore_n (lv' := [(3, .int ((x1 - x1 / r2 * r2) - (x1 - x1 / r2 * r2) / (u2 21 1) * (u2 21 1))), (2, .int (x1 / r1)), (0, .ref 21), (1, .int x1)]) dX9_isBehindShift_18 rfl (by decide) rfl ?_
  refine z_iload_n dX9_isBehindShift_19 rfl 3 rfl ?_
  refine z_aload_n dX9_isBehindShift_20 rfl 2 rfl ?_
  refine z_callVi (g' := gX9_cells) [] (q := 21) (ci := 9) (T := TX9) rfl rfl ⟨lkX9_72, pdX9_cells, by decide, by decide⟩ ⟨_, rfl, by decide⟩ rfl (Nat.le_of_ble_eq_true rfl) dX9_isBehindShift_21 (zm_Call.mono k2.2.2 (fun r3 w3 u3 k3 => ?_))
  refine z_irem dX9_isBehindShift_24 k3.1 ?_
  refine z_aload_n dX9_isBehindShift_25 rfl 2 rfl ?_
  refine z_geti (ci := 9) (j := 1) (T := TX9) rfl rfl hX9 rfl (by decide) fkX9_7 dX9_isBehindShift_26 ?_
  refine z_idiv dX9_isBehindShift_29 k3.2.1 ?_
  refine z_istore (lv' := [(4, .int ((x1 - x1 / r3 * r3) / (u3 21 1))), (3, .int ((x1 - x1 / r2 * r2) - (x1 - x1 / r2 * r2) / (u2 21 1) * (u2 21 1))), (2, .int (x1 / r1)), (0, .ref 21), (1, .int x1)]) dX9_isBehindShift_30 (by decide) rfl ?_
  refine z_iload_n dX9_isBehindShift_32 rfl 2 rfl ?_
  refine z_iconst (v := 4) dX9_isBehindShift_33 zciconst_4 ?_
  refine z_icmp_ne (tgt := 50) dX9_isBehindShift_34 (by decide) (fun h4 => ?_) (fun h4 => ?_)
  ·
    refine z_iload_n dX9_isBehindShift_50 rfl 2 rfl ?_
    refine z_iconst (v := 5) dX9_isBehindShift_51 zciconst_5 ?_
    refine z_icmp_ne (tgt := 62) dX9_isBehindShift_52 (by decide) (fun h5 => ?_) (fun h5 => ?_)
    ·
      refine z_iconst (v := 0) dX9_isBehindShift_62 zciconst_0 ?_
      refine z_istore (lv' := [(5, .int 0), (4, .int ((x1 - x1 / r3 * r3) / (u3 21 1))), (3, .int ((x1 - x1 / r2 * r2) - (x1 - x1 / r2 * r2) / (u2 21 1) * (u2 21 1))), (2, .int (x1 / r1)), (0, .ref 21), (1, .int x1)]) dX9_isBehindShift_63 (by decide) rfl ?_
      refine z_iconst (v := 0) dX9_isBehindShift_65 zciconst_0 ?_
      refine z_istore (lv' := [(6, .int 0), (5, .int 0), (4, .int ((x1 - x1 / r3 * r3) / (u3 21 1))), (3, .int ((x1 - x1 / r2 * r2) - (x1 - x1 / r2 * r2) / (u2 21 1) * (u2 21 1))), (2, .int (x1 / r1)), (0, .ref 21), (1, .int x1)]) dX9_isBehindShift_66 (by decide) rfl ?_
      refine z_sub [5, 4, 3, 2, 1, 0] rfl ?_
      exact ((k3.2.2.1 h4).1 h5)
    ·
      refine z_aload_n dX9_isBehindShift_55 rfl 3 rfl ?_
      refine z_getr (ci := 9) (j := 13) (r := 30) (T := TX9) rfl rfl hX9 rfl (by decide) fkX9_45 dX9_isBehindShift_56 ?_
      refine z_iload_n dX9_isBehindShift_59 rfl 1 rfl ?_
      refine z_bald (n := 36) rfl ((k3.2.2.1 h4).2 h5).1 dX9_isBehindShift_60 ?_
      exact z_zret rfl ((k3.2.2.1 h4).2 h5).2.1 dX9_isBehindShift_61 ((k3.2.2.1 h4).2 h5).2.2
  ·
    refine z_aload_n dX9_isBehindShift_37 rfl 3 rfl ?_
    refine z_getr (ci := 9) (j := 13) (r := 30) (T := TX9) rfl rfl hX9 rfl (by decide) fkX9_45 dX9_isBehindShift_38 ?_
    refine z_iload dX9_isBehindShift_41 0 rfl ?_
    refine z_aload_n dX9_isBehindShift_43 rfl 3 rfl ?_
    refine z_geti (ci := 9) (j := 1) (T := TX9) rfl rfl hX9 rfl (by decide) fkX9_7 dX9_isBehindShift_44 ?_
    refine z_imul dX9_isBehindShift_47 ?_
    refine z_bald (n := 36) rfl (k3.2.2.2 h4).1 dX9_isBehindShift_48 ?_
    exact z_zret rfl (k3.2.2.2 h4).2.1 dX9_isBehindShift_49 (k3.2.2.2 h4).2.2
theorem bX9_isBehindShift_68 (x2 : Int32) (x3 : Int32) (x4 : Int32) (x5 : Int32) (x6 : Int32) (mem : zm_Mem) (post : zm_Post) (kk : (((mem 21 1) ≤ x6 → ((x5 = 0 ∨ x5 = 1) ∧ post x5 0 mem)) ∧ (¬ (mem 21 1) ≤ x6 → ((¬ x2 = 6 → zm_Call gX9_rest [.int (-x6), .int (mem 21 1)] mem (fun r3 w3 u3 => zm_Z gX9_isBehindShift post 114 [(0, .ref 21), (2, .int x2), (3, .int x3), (4, .int x4), (5, .int x5), (6, .int x6)] [.int ((r3 * (u3 21 1)) + x6)] u3)) ∧ (x2 = 6 → zm_Z gX9_isBehindShift post 114 [(0, .ref 21), (2, .int x2), (3, .int x3), (4, .int x4), (5, .int x5), (6, .int x6)] [.int ((x6 * (mem 21 1)) + x6)] mem))))) : zm_Z gX9_isBehindShift post 68 [(0, .ref 21), (2, .int x2), (3, .int x3), (4, .int x4), (5, .int x5), (6, .int x6)] [] mem := by
  refine z_iload dX9_isBehindShift_68 5 rfl ?_
  refine z_aload_n dX9_isBehindShift_70 rfl 0 rfl ?_
  refine z_geti (ci := 9) (j := 1) (T := TX9) rfl rfl hX9 rfl (by decide) fkX9_7 dX9_isBehindShift_71 ?_
  refine z_icmp_ge (tgt := 185) dX9_isBehindShift_74 (by decide) (fun h1 => ?_) (fun h1 => ?_)
  ·
    refine z_iload dX9_isBehindShift_185 4 rfl ?_
    exact z_zret rfl (kk.1 h1).1 dX9_isBehindShift_187 (kk.1 h1).2
  ·
    refine z_iload_n dX9_isBehindShift_77 rfl 1 rfl ?_
    refine z_bipush (v := 6) dX9_isBehindShift_78 zcbipush_6 ?_
    refine z_icmp_ne (tgt := 96) dX9_isBehindShift_80 (by decide) (fun h2 => ?_) (fun h2 => ?_)
    ·
      refine z_iload dX9_isBehindShift_96 5 rfl ?_
      refine z_ineg dX9_isBehindShift_98 ?_
      refine z_aload_n dX9_isBehindShift_99 rfl 0 rfl ?_
      refine z_geti (ci := 9) (j := 1) (T := TX9) rfl rfl hX9 rfl (by decide) fkX9_7 dX9_isBehindShift_100 ?_
      refine z_callSi (g' := gX9_rest) (st := []) [.int (-x6), .int (mem 21 1)] ⟨lkX9_88, pdX9_rest, by decide, by decide⟩ ⟨_, rfl, by decide⟩ rfl (Nat.le_of_ble_eq_true rfl) dX9_isBehindShift_103 (zm_Call.mono ((kk.2 h1).1 h2) (fun r3 w3 u3 k3 => ?_))
      refine z_aload_n dX9_isBehindShift_106 rfl 0 rfl ?_
      refine z_geti (ci := 9) (j := 1) (T := TX9) rfl rfl hX9 rfl (by decide) fkX9_7 dX9_isBehindShift_107 ?_
      refine z_imul dX9_isBehindShift_110 ?_
      refine z_iload dX9_isBehindShift_111 5 rfl ?_
      refine z_iadd dX9_isBehindShift_113 ?_
      exact k3
    ·
      refine z_iload dX9_isBehindShift_83 5 rfl ?_
      refine z_aload_n dX9_isBehindShift_85 rfl 0 rfl ?_
      refine z_geti (ci := 9) (j := 1) (T := TX9) rfl rfl hX9 rfl (by decide) fkX9_7 dX9_isBehindShift_86 ?_
      refine z_imul dX9_isBehindShift_89 ?_
      refine z_iload dX9_isBehindShift_90 5 rfl ?_
      refine z_iadd dX9_isBehindShift_92 ?_
      refine z_goto (tgt := 114) dX9_isBehindShift_93 (by decide) ?_
      exact ((kk.2 h1).2 h2)
theorem bX9_isBehindShift_114 (x2 : Int32) (x3 : Int32) (x4 : Int32) (x5 : Int32) (x6 : Int32) (s0 : Int32) (mem : zm_Mem) (post : zm_Post) (kk : ((¬ x2 = 6 → zm_Z gX9_isBehindShift post 143 [(0, .ref 21), (2, .int x2), (3, .int x3), (4, .int x4), (5, .int x5), (6, .int x6), (7, .int s0)] [.int ((x3 - x4) - (2 * x6))] mem) ∧ (x2 = 6 → zm_Z gX9_isBehindShift post 143 [(0, .ref 21), (2, .int x2), (3, .int x3), (4, .int x4), (5, .int x5), (6, .int x6), (7, .int s0)] [.int ((x3 + x4) - (2 * x6))] mem))) : zm_Z gX9_isBehindShift post 114 [(0, .ref 21), (2, .int x2), (3, .int x3), (4, .int x4), (5, .int x5), (6, .int x6)] [.int s0] mem := by
  refine z_istore (lv' := [(7, .int s0), (0, .ref 21), (2, .int x2), (3, .int x3), (4, .int x4), (5, .int x5), (6, .int x6)]) dX9_isBehindShift_114 (by decide) rfl ?_
  refine z_iload_n dX9_isBehindShift_116 rfl 2 rfl ?_
  refine z_bipush (v := 6) dX9_isBehindShift_117 zcbipush_6 ?_
  refine z_icmp_ne (tgt := 134) dX9_isBehindShift_119 (by decide) (fun h1 => ?_) (fun h1 => ?_)
  ·
    refine z_iload_n dX9_isBehindShift_134 rfl 3 rfl ?_
    refine z_iload dX9_isBehindShift_135 4 rfl ?_
    refine z_isub dX9_isBehindShift_137 ?_
    refine z_iconst (v := 2) dX9_isBehindShift_138 zciconst_2 ?_
    refine z_iload dX9_isBehindShift_139 6 rfl ?_
    refine z_imul dX9_isBehindShift_141 ?_
    refine z_isub dX9_isBehindShift_142 ?_
    refine z_sub [1, 2, 3, 4, 5, 6, 0] rfl ?_
    exact (kk.1 h1)
  ·
    refine z_iload_n dX9_isBehindShift_122 rfl 3 rfl ?_
    refine z_iload dX9_isBehindShift_123 4 rfl ?_
    refine z_iadd dX9_isBehindShift_125 ?_
    refine z_iconst (v := 2) dX9_isBehindShift_126 zciconst_2 ?_
    refine z_iload dX9_isBehindShift_127 6 rfl ?_
    refine z_imul dX9_isBehindShift_129 ?_
    refine z_isub dX9_isBehindShift_130 ?_
    refine z_goto (tgt := 143) dX9_isBehindShift_131 (by decide) ?_
    refine z_sub [1, 2, 3, 4, 5, 6, 0] rfl ?_
    exact (kk.2 h1)
theorem bX9_isBehindShift_143 (x2 : Int32) (x3 : Int32) (x4 : Int32) (x5 : Int32) (x6 : Int32) (x7 : Int32) (s0 : Int32) (mem : zm_Mem) (post : zm_Post) (kk : ((¬ x5 = 0 → zm_Z gX9_isBehindShift post 172 [(0, .ref 21), (2, .int x2), (3, .int x3), (4, .int x4), (6, .int x6)] [] mem) ∧ (x5 = 0 → (vp_in x7 36 ∧ (((mem 30 (Int32.toNatClampNeg x7)) = 0 → zm_Z gX9_isBehindShift post 68 [(0, .ref 21), (2, .int x2), (3, .int x3), (4, .int x4), (5, .int 0), (6, .int (x6 + 1))] [] mem) ∧ (¬ (mem 30 (Int32.toNatClampNeg x7)) = 0 → zm_Call gX9_rest [.int s0, .int (mem 21 1)] mem (fun r3 w3 u3 => ((¬ r3 = 0 → zm_Z gX9_isBehindShift post 68 [(0, .ref 21), (2, .int x2), (3, .int x3), (4, .int x4), (5, .int 0), (6, .int (x6 + 1))] [] u3) ∧ (r3 = 0 → zm_Z gX9_isBehindShift post 172 [(0, .ref 21), (2, .int x2), (3, .int x3), (4, .int x4), (6, .int x6)] [] u3))))))))) : zm_Z gX9_isBehindShift post 143 [(0, .ref 21), (2, .int x2), (3, .int x3), (4, .int x4), (5, .int x5), (6, .int x6), (7, .int x7)] [.int s0] mem := by
  refine z_istore (lv' := [(8, .int s0), (0, .ref 21), (2, .int x2), (3, .int x3), (4, .int x4), (5, .int x5), (6, .int x6), (7, .int x7)]) dX9_isBehindShift_143 (by decide) rfl ?_
  refine z_iload dX9_isBehindShift_145 5 rfl ?_
  refine z_if_ne (tgt := 172) dX9_isBehindShift_147 (by decide) (fun h1 => ?_) (fun h1 => ?_)
  ·
    refine z_sub [1, 2, 3, 4, 6] rfl ?_
    exact (kk.1 h1)
  ·
    refine z_aload_n dX9_isBehindShift_150 rfl 1 rfl ?_
    refine z_getr (ci := 9) (j := 13) (r := 30) (T := TX9) rfl rfl hX9 rfl (by decide) fkX9_45 dX9_isBehindShift_151 ?_
    refine z_iload dX9_isBehindShift_154 7 rfl ?_
    refine z_bald (n := 36) rfl (kk.2 h1).1 dX9_isBehindShift_156 ?_
    refine z_if_eq (tgt := 176) dX9_isBehindShift_157 (by decide) (fun h2 => ?_) (fun h2 => ?_)
    ·
      refine z_iconst (v := 0) dX9_isBehindShift_176 zciconst_0 ?_
      refine z_istore (lv' := [(5, .int 0), (8, .int s0), (0, .ref 21), (2, .int x2), (3, .int x3), (4, .int x4), (6, .int x6), (7, .int x7)]) dX9_isBehindShift_177 (by decide) rfl ?_
      refine z_iinc (v := x6 + 1) (lv' := [(6, .int (x6 + 1)), (5, .int 0), (8, .int s0), (0, .ref 21), (2, .int x2), (3, .int x3), (4, .int x4), (7, .int x7)]) dX9_isBehindShift_179 6 rfl (by rw [zciconst_1]) (by decide) rfl ?_
      refine z_goto (tgt := 68) dX9_isBehindShift_182 (by decide) ?_
      refine z_sub [3, 4, 5, 6, 1, 0] rfl ?_
      exact ((kk.2 h1).2.1 h2)
    ·
      refine z_iload dX9_isBehindShift_160 0 rfl ?_
      refine z_aload_n dX9_isBehindShift_162 rfl 1 rfl ?_
      refine z_geti (ci := 9) (j := 1) (T := TX9) rfl rfl hX9 rfl (by decide) fkX9_7 dX9_isBehindShift_163 ?_
      refine z_callSi (g' := gX9_rest) (st := []) [.int s0, .int (mem 21 1)] ⟨lkX9_88, pdX9_rest, by decide, by decide⟩ ⟨_, rfl, by decide⟩ rfl (Nat.le_of_ble_eq_true rfl) dX9_isBehindShift_166 (zm_Call.mono ((kk.2 h1).2.2 h2) (fun r3 w3 u3 k3 => ?_))
      refine z_if_ne (tgt := 176) dX9_isBehindShift_169 (by decide) (fun h4 => ?_) (fun h4 => ?_)
      ·
        refine z_iconst (v := 0) dX9_isBehindShift_176 zciconst_0 ?_
        refine z_istore (lv' := [(5, .int 0), (8, .int s0), (0, .ref 21), (2, .int x2), (3, .int x3), (4, .int x4), (6, .int x6), (7, .int x7)]) dX9_isBehindShift_177 (by decide) rfl ?_
        refine z_iinc (v := x6 + 1) (lv' := [(6, .int (x6 + 1)), (5, .int 0), (8, .int s0), (0, .ref 21), (2, .int x2), (3, .int x3), (4, .int x4), (7, .int x7)]) dX9_isBehindShift_179 6 rfl (by rw [zciconst_1]) (by decide) rfl ?_
        refine z_goto (tgt := 68) dX9_isBehindShift_182 (by decide) ?_
        refine z_sub [3, 4, 5, 6, 1, 0] rfl ?_
        exact (k3.1 h4)
      ·
        refine z_sub [1, 2, 3, 4, 6] rfl ?_
        exact (k3.2 h4)
theorem bX9_isBehindShift_172 (x2 : Int32) (x3 : Int32) (x4 : Int32) (x6 : Int32) (mem : zm_Mem) (post : zm_Post) (kk : zm_Z gX9_isBehindShift post 68 [(0, .ref 21), (2, .int x2), (3, .int x3), (4, .int x4), (5, .int 1), (6, .int (x6 + 1))] [] mem) : zm_Z gX9_isBehindShift post 172 [(0, .ref 21), (2, .int x2), (3, .int x3), (4, .int x4), (6, .int x6)] [] mem := by
  refine z_iconst (v := 1) dX9_isBehindShift_172 zciconst_1 ?_
  refine z_goto (tgt := 177) dX9_isBehindShift_173 (by decide) ?_
  refine z_istore (lv' := [(5, .int 1), (0, .ref 21), (2, .int x2), (3, .int x3), (4, .int x4), (6, .int x6)]) dX9_isBehindShift_177 (by decide) rfl ?_
  refine z_iinc (v := x6 + 1) (lv' := [(6, .int (x6 + 1)), (5, .int 1), (0, .ref 21), (2, .int x2), (3, .int x3), (4, .int x4)]) dX9_isBehindShift_179 5 rfl (by rw [zciconst_1]) (by decide) rfl ?_
  refine z_goto (tgt := 68) dX9_isBehindShift_182 (by decide) ?_
  refine z_sub [2, 3, 4, 5, 1, 0] rfl ?_
  exact kk
theorem dX9_allBehind_0 : decode cX9_allBehind 0 = .ok (.iconst 1, 1) := by decide +kernel
theorem dX9_allBehind_1 : decode cX9_allBehind 1 = .ok (.istore_n 2, 1) := by decide +kernel
theorem dX9_allBehind_2 : decode cX9_allBehind 2 = .ok (.iconst 0, 1) := by decide +kernel
theorem dX9_allBehind_3 : decode cX9_allBehind 3 = .ok (.istore_n 3, 1) := by decide +kernel
theorem dX9_allBehind_4 : decode cX9_allBehind 4 = .ok (.iload_n 3, 1) := by decide +kernel
theorem dX9_allBehind_5 : decode cX9_allBehind 5 = .ok (.aload_n 0, 1) := by decide +kernel
theorem dX9_allBehind_6 : decode cX9_allBehind 6 = .ok (.invokevirtual 72, 3) := by decide +kernel
theorem dX9_allBehind_9 : decode cX9_allBehind 9 = .ok (.if_icmp .ge 55, 3) := by decide +kernel
theorem dX9_allBehind_12 : decode cX9_allBehind 12 = .ok (.aload_n 0, 1) := by decide +kernel
theorem dX9_allBehind_13 : decode cX9_allBehind 13 = .ok (.iload_n 1, 1) := by decide +kernel
theorem dX9_allBehind_14 : decode cX9_allBehind 14 = .ok (.invokevirtual 80, 3) := by decide +kernel
theorem dX9_allBehind_17 : decode cX9_allBehind 17 = .ok (.ifCond .eq 47, 3) := by decide +kernel
theorem dX9_allBehind_20 : decode cX9_allBehind 20 = .ok (.aload_n 0, 1) := by decide +kernel
theorem dX9_allBehind_21 : decode cX9_allBehind 21 = .ok (.invokevirtual 72, 3) := by decide +kernel
theorem dX9_allBehind_24 : decode cX9_allBehind 24 = .ok (.iload_n 1, 1) := by decide +kernel
theorem dX9_allBehind_25 : decode cX9_allBehind 25 = .ok (.imul, 1) := by decide +kernel
theorem dX9_allBehind_26 : decode cX9_allBehind 26 = .ok (.iload_n 3, 1) := by decide +kernel
theorem dX9_allBehind_27 : decode cX9_allBehind 27 = .ok (.iadd, 1) := by decide +kernel
theorem dX9_allBehind_28 : decode cX9_allBehind 28 = .ok (.istore 4, 2) := by decide +kernel
theorem dX9_allBehind_30 : decode cX9_allBehind 30 = .ok (.iload_n 2, 1) := by decide +kernel
theorem dX9_allBehind_31 : decode cX9_allBehind 31 = .ok (.ifCond .eq 25, 3) := by decide +kernel
theorem dX9_allBehind_34 : decode cX9_allBehind 34 = .ok (.aload_n 0, 1) := by decide +kernel
theorem dX9_allBehind_35 : decode cX9_allBehind 35 = .ok (.iload 4, 2) := by decide +kernel
theorem dX9_allBehind_37 : decode cX9_allBehind 37 = .ok (.invokevirtual 122, 3) := by decide +kernel
theorem dX9_allBehind_40 : decode cX9_allBehind 40 = .ok (.ifCond .eq 12, 3) := by decide +kernel
theorem dX9_allBehind_43 : decode cX9_allBehind 43 = .ok (.aload_n 0, 1) := by decide +kernel
theorem dX9_allBehind_44 : decode cX9_allBehind 44 = .ok (.iload 4, 2) := by decide +kernel
theorem dX9_allBehind_46 : decode cX9_allBehind 46 = .ok (.invokevirtual 138, 3) := by decide +kernel
theorem dX9_allBehind_49 : decode cX9_allBehind 49 = .ok (.ifCond .eq 7, 3) := by decide +kernel
theorem dX9_allBehind_52 : decode cX9_allBehind 52 = .ok (.iconst 1, 1) := by decide +kernel
theorem dX9_allBehind_53 : decode cX9_allBehind 53 = .ok (.goto 4, 3) := by decide +kernel
theorem dX9_allBehind_56 : decode cX9_allBehind 56 = .ok (.iconst 0, 1) := by decide +kernel
theorem dX9_allBehind_57 : decode cX9_allBehind 57 = .ok (.istore_n 2, 1) := by decide +kernel
theorem dX9_allBehind_58 : decode cX9_allBehind 58 = .ok (.iinc 3 1, 3) := by decide +kernel
theorem dX9_allBehind_61 : decode cX9_allBehind 61 = .ok (.goto (-57), 3) := by decide +kernel
theorem dX9_allBehind_64 : decode cX9_allBehind 64 = .ok (.iload_n 2, 1) := by decide +kernel
theorem dX9_allBehind_65 : decode cX9_allBehind 65 = .ok (.ireturn, 1) := by decide +kernel
theorem bX9_allBehind_0 (x1 : Int32) (mem : zm_Mem) (post : zm_Post) (kk : zm_Z gX9_allBehind post 4 [(0, .ref 21), (1, .int x1), (2, .int 1), (3, .int 0)] [] mem) : zm_Call gX9_allBehind [.ref 21, .int x1] mem post := by
  refine z_entry (by decide) (Nat.le_of_ble_eq_true rfl) ?_
  show zm_Z gX9_allBehind post 0 [(0, .ref 21), (1, .int x1)] [] mem
  refine z_iconst (v := 1) dX9_allBehind_0 zciconst_1 ?_
  refine z_istore_n (lv' := [(2, .int 1), (0, .ref 21), (1, .int x1)]) dX9_allBehind_1 rfl (by decide) rfl ?_
  refine z_iconst (v := 0) dX9_allBehind_2 zciconst_0 ?_
  refine z_istore_n (lv' := [(3, .int 0), (2, .int 1), (0, .ref 21), (1, .int x1)]) dX9_allBehind_3 rfl (by decide) rfl ?_
  refine z_sub [2, 3, 1, 0] rfl ?_
  exact kk
theorem bX9_allBehind_4 (x1 : Int32) (x2 : Int32) (x3 : Int32) (mem : zm_Mem) (post : zm_Post) (kk : zm_Call gX9_cells [.ref 21] mem (fun r1 w1 u1 => ((r1 ≤ x3 → ((x2 = 0 ∨ x2 = 1) ∧ post x2 0 u1)) ∧ (¬ r1 ≤ x3 → zm_Call gX9_isTurn [.ref 21, .int x1] u1 (fun r3 w3 u3 => ((r3 = 0 → ((x2 = 0 ∨ x2 = 1) ∧ post x2 0 u3)) ∧ (¬ r3 = 0 → zm_Call gX9_cells [.ref 21] u3 (fun r5 w5 u5 => ((x2 = 0 → zm_Z gX9_allBehind post 4 [(0, .ref 21), (1, .int x1), (2, .int 0), (3, .int (x3 + 1))] [] u5) ∧ (¬ x2 = 0 → zm_Call gX9_keepsIt [.ref 21, .int ((r5 * x1) + x3)] u5 (fun r7 w7 u7 => ((r7 = 0 → zm_Z gX9_allBehind post 52 [(0, .ref 21), (1, .int x1), (3, .int x3)] [] u7) ∧ (¬ r7 = 0 → zm_Call gX9_isBehindShift [.ref 21, .int ((r5 * x1) + x3)] u7 (fun r9 w9 u9 => ((r9 = 0 → zm_Z gX9_allBehind post 4 [(0, .ref 21), (1, .int x1), (2, .int 0), (3, .int (x3 + 1))] [] u9) ∧ (¬ r9 = 0 → zm_Z gX9_allBehind post 52 [(0, .ref 21), (1, .int x1), (3, .int x3)] [] u9)))))))))))))))) : zm_Z gX9_allBehind post 4 [(0, .ref 21), (1, .int x1), (2, .int x2), (3, .int x3)] [] mem := by
  refine z_iload_n dX9_allBehind_4 rfl 3 rfl ?_
  refine z_aload_n dX9_allBehind_5 rfl 0 rfl ?_
  refine z_callVi (g' := gX9_cells) [] (q := 21) (ci := 9) (T := TX9) rfl rfl ⟨lkX9_72, pdX9_cells, by decide, by decide⟩ ⟨_, rfl, by decide⟩ rfl (Nat.le_of_ble_eq_true rfl) dX9_allBehind_6 (zm_Call.mono kk (fun r1 w1 u1 k1 => ?_))
  refine z_icmp_ge (tgt := 64) dX9_allBehind_9 (by decide) (fun h2 => ?_) (fun h2 => ?_)
  ·
    refine z_iload_n dX9_allBehind_64 rfl 2 rfl ?_
    exact z_zret rfl (k1.1 h2).1 dX9_allBehind_65 (k1.1 h2).2
  ·
    refine z_aload_n dX9_allBehind_12 rfl 0 rfl ?_
    refine z_iload_n dX9_allBehind_13 rfl 1 rfl ?_
    refine z_callVi (g' := gX9_isTurn) [.int x1] (q := 21) (ci := 9) (T := TX9) rfl rfl ⟨lkX9_80, pdX9_isTurn, by decide, by decide⟩ ⟨_, rfl, by decide⟩ rfl (Nat.le_of_ble_eq_true rfl) dX9_allBehind_14 (zm_Call.mono (k1.2 h2) (fun r3 w3 u3 k3 => ?_))
    refine z_if_eq (tgt := 64) dX9_allBehind_17 (by decide) (fun h4 => ?_) (fun h4 => ?_)
    ·
      refine z_iload_n dX9_allBehind_64 rfl 2 rfl ?_
      exact z_zret rfl (k3.1 h4).1 dX9_allBehind_65 (k3.1 h4).2
    ·
      refine z_aload_n dX9_allBehind_20 rfl 0 rfl ?_
      refine z_callVi (g' := gX9_cells) [] (q := 21) (ci := 9) (T := TX9) rfl rfl ⟨lkX9_72, pdX9_cells, by decide, by decide⟩ ⟨_, rfl, by decide⟩ rfl (Nat.le_of_ble_eq_true rfl) dX9_allBehind_21 (zm_Call.mono (k3.2 h4) (fun r5 w5 u5 k5 => ?_))
      refine z_iload_n dX9_allBehind_24 rfl 1 rfl ?_
      refine z_imul dX9_allBehind_25 ?_
      refine z_iload_n dX9_allBehind_26 rfl 3 rfl ?_
      refine z_iadd dX9_allBehind_27 ?_
      refine z_istore (lv' := [(4, .int ((r5 * x1) + x3)), (0, .ref 21), (1, .int x1), (2, .int x2), (3, .int x3)]) dX9_allBehind_28 (by decide) rfl ?_
      refine z_iload_n dX9_allBehind_30 rfl 3 rfl ?_
      refine z_if_eq (tgt := 56) dX9_allBehind_31 (by decide) (fun h6 => ?_) (fun h6 => ?_)
      ·
        refine z_iconst (v := 0) dX9_allBehind_56 zciconst_0 ?_
        refine z_istore_n (lv' := [(2, .int 0), (4, .int ((r5 * x1) + x3)), (0, .ref 21), (1, .int x1), (3, .int x3)]) dX9_allBehind_57 rfl (by decide) rfl ?_
        refine z_iinc (v := x3 + 1) (lv' := [(3, .int (x3 + 1)), (2, .int 0), (4, .int ((r5 * x1) + x3)), (0, .ref 21), (1, .int x1)]) dX9_allBehind_58 4 rfl (by rw [zciconst_1]) (by decide) rfl ?_
        refine z_goto (tgt := 4) dX9_allBehind_61 (by decide) ?_
        refine z_sub [3, 4, 1, 0] rfl ?_
        exact (k5.1 h6)
      ·
        refine z_aload_n dX9_allBehind_34 rfl 1 rfl ?_
        refine z_iload dX9_allBehind_35 0 rfl ?_
        refine z_callVi (g' := gX9_keepsIt) [.int ((r5 * x1) + x3)] (q := 21) (ci := 9) (T := TX9) rfl rfl ⟨lkX9_122, pdX9_keepsIt, by decide, by decide⟩ ⟨_, rfl, by decide⟩ rfl (Nat.le_of_ble_eq_true rfl) dX9_allBehind_37 (zm_Call.mono (k5.2 h6) (fun r7 w7 u7 k7 => ?_))
        refine z_if_eq (tgt := 52) dX9_allBehind_40 (by decide) (fun h8 => ?_) (fun h8 => ?_)
        ·
          refine z_sub [1, 2, 4] rfl ?_
          exact (k7.1 h8)
        ·
          refine z_aload_n dX9_allBehind_43 rfl 1 rfl ?_
          refine z_iload dX9_allBehind_44 0 rfl ?_
          refine z_callVi (g' := gX9_isBehindShift) [.int ((r5 * x1) + x3)] (q := 21) (ci := 9) (T := TX9) rfl rfl ⟨lkX9_138, pdX9_isBehindShift, by decide, by decide⟩ ⟨_, rfl, by decide⟩ rfl (Nat.le_of_ble_eq_true rfl) dX9_allBehind_46 (zm_Call.mono (k7.2 h8) (fun r9 w9 u9 k9 => ?_))
          refine z_if_eq (tgt := 56) dX9_allBehind_49 (by decide) (fun h10 => ?_) (fun h10 => ?_)
          ·
            refine z_iconst (v := 0) dX9_allBehind_56 zciconst_0 ?_
            refine z_istore_n (lv' := [(2, .int 0), (4, .int ((r5 * x1) + x3)), (0, .ref 21), (1, .int x1), (3, .int x3)]) dX9_allBehind_57 rfl (by decide) rfl ?_
            refine z_iinc (v := x3 + 1) (lv' := [(3, .int (x3 + 1)), (2, .int 0), (4, .int ((r5 * x1) + x3)), (0, .ref 21), (1, .int x1)]) dX9_allBehind_58 4 rfl (by rw [zciconst_1]) (by decide) rfl ?_
            refine z_goto (tgt := 4) dX9_allBehind_61 (by decide) ?_
            refine z_sub [3, 4, 1, 0] rfl ?_
            exact (k9.1 h10)
          ·
            refine z_sub [1, 2, 4] rfl ?_
            exact (k9.2 h10)
theorem bX9_allBehind_52 (x1 : Int32) (x3 : Int32) (mem : zm_Mem) (post : zm_Post) (kk : zm_Z gX9_allBehind post 4 [(0, .ref 21), (1, .int x1), (2, .int 1), (3, .int (x3 + 1))] [] mem) : zm_Z gX9_allBehind post 52 [(0, .ref 21), (1, .int x1), (3, .int x3)] [] mem := by
  refine z_iconst (v := 1) dX9_allBehind_52 zciconst_1 ?_
  refine z_goto (tgt := 57) dX9_allBehind_53 (by decide) ?_
  refine z_istore_n (lv' := [(2, .int 1), (0, .ref 21), (1, .int x1), (3, .int x3)]) dX9_allBehind_57 rfl (by decide) rfl ?_
  refine z_iinc (v := x3 + 1) (lv' := [(3, .int (x3 + 1)), (2, .int 1), (0, .ref 21), (1, .int x1)]) dX9_allBehind_58 3 rfl (by rw [zciconst_1]) (by decide) rfl ?_
  refine z_goto (tgt := 4) dX9_allBehind_61 (by decide) ?_
  refine z_sub [2, 3, 1, 0] rfl ?_
  exact kk
theorem dX9_kind_0 : decode cX9_kind 0 = .ok (.aload_n 0, 1) := by decide +kernel
theorem dX9_kind_1 : decode cX9_kind 1 = .ok (.iconst 0, 1) := by decide +kernel
theorem dX9_kind_2 : decode cX9_kind 2 = .ok (.putfield 69, 3) := by decide +kernel
theorem dX9_kind_5 : decode cX9_kind 5 = .ok (.aload_n 0, 1) := by decide +kernel
theorem dX9_kind_6 : decode cX9_kind 6 = .ok (.invokevirtual 127, 3) := by decide +kernel
theorem dX9_kind_9 : decode cX9_kind 9 = .ok (.pop, 1) := by decide +kernel
theorem dX9_kind_10 : decode cX9_kind 10 = .ok (.aload_n 0, 1) := by decide +kernel
theorem dX9_kind_11 : decode cX9_kind 11 = .ok (.iconst 1, 1) := by decide +kernel
theorem dX9_kind_12 : decode cX9_kind 12 = .ok (.invokevirtual 141, 3) := by decide +kernel
theorem dX9_kind_15 : decode cX9_kind 15 = .ok (.istore_n 1, 1) := by decide +kernel
theorem dX9_kind_16 : decode cX9_kind 16 = .ok (.aload_n 0, 1) := by decide +kernel
theorem dX9_kind_17 : decode cX9_kind 17 = .ok (.iconst 2, 1) := by decide +kernel
theorem dX9_kind_18 : decode cX9_kind 18 = .ok (.invokevirtual 141, 3) := by decide +kernel
theorem dX9_kind_21 : decode cX9_kind 21 = .ok (.istore_n 2, 1) := by decide +kernel
theorem dX9_kind_22 : decode cX9_kind 22 = .ok (.iconst 0, 1) := by decide +kernel
theorem dX9_kind_23 : decode cX9_kind 23 = .ok (.istore_n 3, 1) := by decide +kernel
theorem dX9_kind_24 : decode cX9_kind 24 = .ok (.iconst 0, 1) := by decide +kernel
theorem dX9_kind_25 : decode cX9_kind 25 = .ok (.istore 4, 2) := by decide +kernel
theorem dX9_kind_27 : decode cX9_kind 27 = .ok (.iconst 1, 1) := by decide +kernel
theorem dX9_kind_28 : decode cX9_kind 28 = .ok (.istore 5, 2) := by decide +kernel
theorem dX9_kind_30 : decode cX9_kind 30 = .ok (.iconst 4, 1) := by decide +kernel
theorem dX9_kind_31 : decode cX9_kind 31 = .ok (.istore 6, 2) := by decide +kernel
theorem dX9_kind_33 : decode cX9_kind 33 = .ok (.iload 6, 2) := by decide +kernel
theorem dX9_kind_35 : decode cX9_kind 35 = .ok (.bipush 8, 2) := by decide +kernel
theorem dX9_kind_37 : decode cX9_kind 37 = .ok (.if_icmp .ge 75, 3) := by decide +kernel
theorem dX9_kind_40 : decode cX9_kind 40 = .ok (.aload_n 0, 1) := by decide +kernel
theorem dX9_kind_41 : decode cX9_kind 41 = .ok (.iload 6, 2) := by decide +kernel
theorem dX9_kind_43 : decode cX9_kind 43 = .ok (.invokevirtual 141, 3) := by decide +kernel
theorem dX9_kind_46 : decode cX9_kind 46 = .ok (.istore 7, 2) := by decide +kernel
theorem dX9_kind_48 : decode cX9_kind 48 = .ok (.iload_n 3, 1) := by decide +kernel
theorem dX9_kind_49 : decode cX9_kind 49 = .ok (.iload 7, 2) := by decide +kernel
theorem dX9_kind_51 : decode cX9_kind 51 = .ok (.ifCond .eq 7, 3) := by decide +kernel
theorem dX9_kind_54 : decode cX9_kind 54 = .ok (.iconst 1, 1) := by decide +kernel
theorem dX9_kind_55 : decode cX9_kind 55 = .ok (.goto 4, 3) := by decide +kernel
theorem dX9_kind_58 : decode cX9_kind 58 = .ok (.iconst 0, 1) := by decide +kernel
theorem dX9_kind_59 : decode cX9_kind 59 = .ok (.iadd, 1) := by decide +kernel
theorem dX9_kind_60 : decode cX9_kind 60 = .ok (.istore_n 3, 1) := by decide +kernel
theorem dX9_kind_61 : decode cX9_kind 61 = .ok (.iload 4, 2) := by decide +kernel
theorem dX9_kind_63 : decode cX9_kind 63 = .ok (.aload_n 0, 1) := by decide +kernel
theorem dX9_kind_64 : decode cX9_kind 64 = .ok (.iload 6, 2) := by decide +kernel
theorem dX9_kind_66 : decode cX9_kind 66 = .ok (.invokevirtual 135, 3) := by decide +kernel
theorem dX9_kind_69 : decode cX9_kind 69 = .ok (.ifCond .eq 7, 3) := by decide +kernel
theorem dX9_kind_72 : decode cX9_kind 72 = .ok (.iconst 1, 1) := by decide +kernel
theorem dX9_kind_73 : decode cX9_kind 73 = .ok (.goto 4, 3) := by decide +kernel
theorem dX9_kind_76 : decode cX9_kind 76 = .ok (.iconst 0, 1) := by decide +kernel
theorem dX9_kind_77 : decode cX9_kind 77 = .ok (.iadd, 1) := by decide +kernel
theorem dX9_kind_78 : decode cX9_kind 78 = .ok (.istore 4, 2) := by decide +kernel
theorem dX9_kind_80 : decode cX9_kind 80 = .ok (.iload 5, 2) := by decide +kernel
theorem dX9_kind_82 : decode cX9_kind 82 = .ok (.ifCond .eq 21, 3) := by decide +kernel
theorem dX9_kind_85 : decode cX9_kind 85 = .ok (.iload 7, 2) := by decide +kernel
theorem dX9_kind_87 : decode cX9_kind 87 = .ok (.ifCond .eq 12, 3) := by decide +kernel
theorem dX9_kind_90 : decode cX9_kind 90 = .ok (.aload_n 0, 1) := by decide +kernel
theorem dX9_kind_91 : decode cX9_kind 91 = .ok (.iload 6, 2) := by decide +kernel
theorem dX9_kind_93 : decode cX9_kind 93 = .ok (.invokevirtual 144, 3) := by decide +kernel
theorem dX9_kind_96 : decode cX9_kind 96 = .ok (.ifCond .eq 7, 3) := by decide +kernel
theorem dX9_kind_99 : decode cX9_kind 99 = .ok (.iconst 1, 1) := by decide +kernel
theorem dX9_kind_100 : decode cX9_kind 100 = .ok (.goto 4, 3) := by decide +kernel
theorem dX9_kind_103 : decode cX9_kind 103 = .ok (.iconst 0, 1) := by decide +kernel
theorem dX9_kind_104 : decode cX9_kind 104 = .ok (.istore 5, 2) := by decide +kernel
theorem dX9_kind_106 : decode cX9_kind 106 = .ok (.iinc 6 1, 3) := by decide +kernel
theorem dX9_kind_109 : decode cX9_kind 109 = .ok (.goto (-76), 3) := by decide +kernel
theorem dX9_kind_112 : decode cX9_kind 112 = .ok (.iload_n 3, 1) := by decide +kernel
theorem dX9_kind_113 : decode cX9_kind 113 = .ok (.ifCond .ne 22, 3) := by decide +kernel
theorem dX9_kind_116 : decode cX9_kind 116 = .ok (.iload_n 1, 1) := by decide +kernel
theorem dX9_kind_117 : decode cX9_kind 117 = .ok (.ifCond .eq 8, 3) := by decide +kernel
theorem dX9_kind_120 : decode cX9_kind 120 = .ok (.bipush 9, 2) := by decide +kernel
theorem dX9_kind_122 : decode cX9_kind 122 = .ok (.goto 12, 3) := by decide +kernel
theorem dX9_kind_125 : decode cX9_kind 125 = .ok (.iload_n 2, 1) := by decide +kernel
theorem dX9_kind_126 : decode cX9_kind 126 = .ok (.ifCond .eq 7, 3) := by decide +kernel
theorem dX9_kind_129 : decode cX9_kind 129 = .ok (.iconst 1, 1) := by decide +kernel
theorem dX9_kind_130 : decode cX9_kind 130 = .ok (.goto 4, 3) := by decide +kernel
theorem dX9_kind_133 : decode cX9_kind 133 = .ok (.iconst 0, 1) := by decide +kernel
theorem dX9_kind_134 : decode cX9_kind 134 = .ok (.ireturn, 1) := by decide +kernel
theorem dX9_kind_135 : decode cX9_kind 135 = .ok (.iload_n 1, 1) := by decide +kernel
theorem dX9_kind_136 : decode cX9_kind 136 = .ok (.ifCond .eq 17, 3) := by decide +kernel
theorem dX9_kind_139 : decode cX9_kind 139 = .ok (.iload 4, 2) := by decide +kernel
theorem dX9_kind_141 : decode cX9_kind 141 = .ok (.iconst 4, 1) := by decide +kernel
theorem dX9_kind_142 : decode cX9_kind 142 = .ok (.if_icmp .ne 8, 3) := by decide +kernel
theorem dX9_kind_145 : decode cX9_kind 145 = .ok (.bipush 10, 2) := by decide +kernel
theorem dX9_kind_147 : decode cX9_kind 147 = .ok (.goto 5, 3) := by decide +kernel
theorem dX9_kind_150 : decode cX9_kind 150 = .ok (.bipush 11, 2) := by decide +kernel
theorem dX9_kind_152 : decode cX9_kind 152 = .ok (.ireturn, 1) := by decide +kernel
theorem dX9_kind_153 : decode cX9_kind 153 = .ok (.iload_n 2, 1) := by decide +kernel
theorem dX9_kind_154 : decode cX9_kind 154 = .ok (.ifCond .eq 37, 3) := by decide +kernel
theorem dX9_kind_157 : decode cX9_kind 157 = .ok (.iload 4, 2) := by decide +kernel
theorem dX9_kind_159 : decode cX9_kind 159 = .ok (.iconst 2, 1) := by decide +kernel
theorem dX9_kind_160 : decode cX9_kind 160 = .ok (.if_icmp .ne 17, 3) := by decide +kernel
theorem dX9_kind_163 : decode cX9_kind 163 = .ok (.iload 5, 2) := by decide +kernel
theorem dX9_kind_165 : decode cX9_kind 165 = .ok (.ifCond .eq 7, 3) := by decide +kernel
theorem dX9_kind_168 : decode cX9_kind 168 = .ok (.iconst 5, 1) := by decide +kernel
theorem dX9_kind_169 : decode cX9_kind 169 = .ok (.goto 21, 3) := by decide +kernel
theorem dX9_kind_172 : decode cX9_kind 172 = .ok (.bipush 8, 2) := by decide +kernel
theorem dX9_kind_174 : decode cX9_kind 174 = .ok (.goto 16, 3) := by decide +kernel
theorem dX9_kind_177 : decode cX9_kind 177 = .ok (.iload 4, 2) := by decide +kernel
theorem dX9_kind_179 : decode cX9_kind 179 = .ok (.iconst 1, 1) := by decide +kernel
theorem dX9_kind_180 : decode cX9_kind 180 = .ok (.if_icmp .ne 8, 3) := by decide +kernel
theorem dX9_kind_183 : decode cX9_kind 183 = .ok (.bipush 6, 2) := by decide +kernel
theorem dX9_kind_185 : decode cX9_kind 185 = .ok (.goto 5, 3) := by decide +kernel
theorem dX9_kind_188 : decode cX9_kind 188 = .ok (.bipush 7, 2) := by decide +kernel
theorem dX9_kind_190 : decode cX9_kind 190 = .ok (.ireturn, 1) := by decide +kernel
theorem dX9_kind_191 : decode cX9_kind 191 = .ok (.iload 4, 2) := by decide +kernel
theorem dX9_kind_193 : decode cX9_kind 193 = .ok (.iconst 1, 1) := by decide +kernel
theorem dX9_kind_194 : decode cX9_kind 194 = .ok (.if_icmp .ne 16, 3) := by decide +kernel
theorem dX9_kind_197 : decode cX9_kind 197 = .ok (.iload 5, 2) := by decide +kernel
theorem dX9_kind_199 : decode cX9_kind 199 = .ok (.ifCond .eq 7, 3) := by decide +kernel
theorem dX9_kind_202 : decode cX9_kind 202 = .ok (.iconst 2, 1) := by decide +kernel
theorem dX9_kind_203 : decode cX9_kind 203 = .ok (.goto 8, 3) := by decide +kernel
theorem dX9_kind_206 : decode cX9_kind 206 = .ok (.iconst 4, 1) := by decide +kernel
theorem dX9_kind_207 : decode cX9_kind 207 = .ok (.goto 4, 3) := by decide +kernel
theorem dX9_kind_210 : decode cX9_kind 210 = .ok (.iconst 3, 1) := by decide +kernel
theorem dX9_kind_211 : decode cX9_kind 211 = .ok (.ireturn, 1) := by decide +kernel
theorem bX9_kind_0 (mem : zm_Mem) (post : zm_Post) (kk : zm_Call gX9_layShifts [.ref 21] (zm_st mem 21 0 0) (fun r1 w1 u1 => zm_Call gX9_fits [.ref 21, .int 1] u1 (fun r2 w2 u2 => zm_Call gX9_fits [.ref 21, .int 2] u2 (fun r3 w3 u3 => zm_Z gX9_kind post 33 [(0, .ref 21), (1, .int r2), (2, .int r3), (3, .int 0), (4, .int 0), (5, .int 1), (6, .int 4)] [] u3)))) : zm_Call gX9_kind [.ref 21] mem post := by
  refine z_entry (by decide) (Nat.le_of_ble_eq_true rfl) ?_
  show zm_Z gX9_kind post 0 [(0, .ref 21)] [] mem
  refine z_aload_n dX9_kind_0 rfl 0 rfl ?_
  refine z_iconst (v := 0) dX9_kind_1 zciconst_0 ?_
  refine z_put (ci := 9) (j := 0) (T := TX9) (ty0 := tyX9) rfl rfl hX9 tyX9_ok nmX9 rfl (by decide) fkX9_69 rfl rfl rfl dX9_kind_2 ?_
  refine z_aload_n dX9_kind_5 rfl 0 rfl ?_
  refine z_callVi (g' := gX9_layShifts) [] (q := 21) (ci := 9) (T := TX9) rfl rfl ⟨lkX9_127, pdX9_layShifts, by decide, by decide⟩ ⟨_, rfl, by decide⟩ rfl (Nat.le_of_ble_eq_true rfl) dX9_kind_6 (zm_Call.mono kk (fun r1 w1 u1 k1 => ?_))
  refine z_popi dX9_kind_9 ?_
  refine z_aload_n dX9_kind_10 rfl 0 rfl ?_
  refine z_iconst (v := 1) dX9_kind_11 zciconst_1 ?_
  refine z_callVi (g' := gX9_fits) [.int 1] (q := 21) (ci := 9) (T := TX9) rfl rfl ⟨lkX9_141, pdX9_fits, by decide, by decide⟩ ⟨_, rfl, by decide⟩ rfl (Nat.le_of_ble_eq_true rfl) dX9_kind_12 (zm_Call.mono k1 (fun r2 w2 u2 k2 => ?_))
  refine z_istore_n (lv' := [(1, .int r2), (0, .ref 21)]) dX9_kind_15 rfl (by decide) rfl ?_
  refine z_aload_n dX9_kind_16 rfl 1 rfl ?_
  refine z_iconst (v := 2) dX9_kind_17 zciconst_2 ?_
  refine z_callVi (g' := gX9_fits) [.int 2] (q := 21) (ci := 9) (T := TX9) rfl rfl ⟨lkX9_141, pdX9_fits, by decide, by decide⟩ ⟨_, rfl, by decide⟩ rfl (Nat.le_of_ble_eq_true rfl) dX9_kind_18 (zm_Call.mono k2 (fun r3 w3 u3 k3 => ?_))
  refine z_istore_n (lv' := [(2, .int r3), (1, .int r2), (0, .ref 21)]) dX9_kind_21 rfl (by decide) rfl ?_
  refine z_iconst (v := 0) dX9_kind_22 zciconst_0 ?_
  refine z_istore_n (lv' := [(3, .int 0), (2, .int r3), (1, .int r2), (0, .ref 21)]) dX9_kind_23 rfl (by decide) rfl ?_
  refine z_iconst (v := 0) dX9_kind_24 zciconst_0 ?_
  refine z_istore (lv' := [(4, .int 0), (3, .int 0), (2, .int r3), (1, .int r2), (0, .ref 21)]) dX9_kind_25 (by decide) rfl ?_
  refine z_iconst (v := 1) dX9_kind_27 zciconst_1 ?_
  refine z_istore (lv' := [(5, .int 1), (4, .int 0), (3, .int 0), (2, .int r3), (1, .int r2), (0, .ref 21)]) dX9_kind_28 (by decide) rfl ?_
  refine z_iconst (v := 4) dX9_kind_30 zciconst_4 ?_
  refine z_istore (lv' := [(6, .int 4), (5, .int 1), (4, .int 0), (3, .int 0), (2, .int r3), (1, .int r2), (0, .ref 21)]) dX9_kind_31 (by decide) rfl ?_
  refine z_sub [6, 5, 4, 3, 2, 1, 0] rfl ?_
  exact k3
theorem bX9_kind_33 (x1 : Int32) (x2 : Int32) (x3 : Int32) (x4 : Int32) (x5 : Int32) (x6 : Int32) (mem : zm_Mem) (post : zm_Post) (kk : ((8 ≤ x6 → ((¬ x3 = 0 → ((x1 = 0 → ((x2 = 0 → ((¬ x4 = 1 → post 3 0 mem) ∧ (x4 = 1 → ((x5 = 0 → post 4 0 mem) ∧ (¬ x5 = 0 → post 2 0 mem))))) ∧ (¬ x2 = 0 → ((¬ x4 = 2 → ((¬ x4 = 1 → post 7 0 mem) ∧ (x4 = 1 → post 6 0 mem))) ∧ (x4 = 2 → ((x5 = 0 → post 8 0 mem) ∧ (¬ x5 = 0 → post 5 0 mem))))))) ∧ (¬ x1 = 0 → ((¬ x4 = 4 → post 11 0 mem) ∧ (x4 = 4 → post 10 0 mem))))) ∧ (x3 = 0 → ((x1 = 0 → ((x2 = 0 → post 0 0 mem) ∧ (¬ x2 = 0 → post 1 0 mem))) ∧ (¬ x1 = 0 → post 9 0 mem))))) ∧ (¬ 8 ≤ x6 → zm_Call gX9_fits [.ref 21, .int x6] mem (fun r13 w13 u13 => ((r13 = 0 → zm_Z gX9_kind post 59 [(0, .ref 21), (1, .int x1), (2, .int x2), (4, .int x4), (5, .int x5), (6, .int x6), (7, .int r13)] [.int 0, .int x3] u13) ∧ (¬ r13 = 0 → zm_Z gX9_kind post 59 [(0, .ref 21), (1, .int x1), (2, .int x2), (4, .int x4), (5, .int x5), (6, .int x6), (7, .int r13)] [.int 1, .int x3] u13)))))) : zm_Z gX9_kind post 33 [(0, .ref 21), (1, .int x1), (2, .int x2), (3, .int x3), (4, .int x4), (5, .int x5), (6, .int x6)] [] mem := by
  refine z_iload dX9_kind_33 6 rfl ?_
  refine z_bipush (v := 8) dX9_kind_35 zcbipush_8 ?_
  refine z_icmp_ge (tgt := 112) dX9_kind_37 (by decide) (fun h1 => ?_) (fun h1 => ?_)
  ·
    refine z_iload_n dX9_kind_112 rfl 3 rfl ?_
    refine z_if_ne (tgt := 135) dX9_kind_113 (by decide) (fun h2 => ?_) (fun h2 => ?_)
    ·
      refine z_iload_n dX9_kind_135 rfl 1 rfl ?_
      refine z_if_eq (tgt := 153) dX9_kind_136 (by decide) (fun h3 => ?_) (fun h3 => ?_)
      ·
        refine z_iload_n dX9_kind_153 rfl 2 rfl ?_
        refine z_if_eq (tgt := 191) dX9_kind_154 (by decide) (fun h4 => ?_) (fun h4 => ?_)
        ·
          refine z_iload dX9_kind_191 4 rfl ?_
          refine z_iconst (v := 1) dX9_kind_193 zciconst_1 ?_
          refine z_icmp_ne (tgt := 210) dX9_kind_194 (by decide) (fun h5 => ?_) (fun h5 => ?_)
          ·
            refine z_iconst (v := 3) dX9_kind_210 zciconst_3 ?_
            exact z_iret rfl dX9_kind_211 (((((kk.1 h1).1 h2).1 h3).1 h4).1 h5)
          ·
            refine z_iload dX9_kind_197 5 rfl ?_
            refine z_if_eq (tgt := 206) dX9_kind_199 (by decide) (fun h6 => ?_) (fun h6 => ?_)
            ·
              refine z_iconst (v := 4) dX9_kind_206 zciconst_4 ?_
              refine z_goto (tgt := 211) dX9_kind_207 (by decide) ?_
              exact z_iret rfl dX9_kind_211 ((((((kk.1 h1).1 h2).1 h3).1 h4).2 h5).1 h6)
            ·
              refine z_iconst (v := 2) dX9_kind_202 zciconst_2 ?_
              refine z_goto (tgt := 211) dX9_kind_203 (by decide) ?_
              exact z_iret rfl dX9_kind_211 ((((((kk.1 h1).1 h2).1 h3).1 h4).2 h5).2 h6)
        ·
          refine z_iload dX9_kind_157 4 rfl ?_
          refine z_iconst (v := 2) dX9_kind_159 zciconst_2 ?_
          refine z_icmp_ne (tgt := 177) dX9_kind_160 (by decide) (fun h7 => ?_) (fun h7 => ?_)
          ·
            refine z_iload dX9_kind_177 4 rfl ?_
            refine z_iconst (v := 1) dX9_kind_179 zciconst_1 ?_
            refine z_icmp_ne (tgt := 188) dX9_kind_180 (by decide) (fun h8 => ?_) (fun h8 => ?_)
            ·
              refine z_bipush (v := 7) dX9_kind_188 zcbipush_7 ?_
              exact z_iret rfl dX9_kind_190 ((((((kk.1 h1).1 h2).1 h3).2 h4).1 h7).1 h8)
            ·
              refine z_bipush (v := 6) dX9_kind_183 zcbipush_6 ?_
              refine z_goto (tgt := 190) dX9_kind_185 (by decide) ?_
              exact z_iret rfl dX9_kind_190 ((((((kk.1 h1).1 h2).1 h3).2 h4).1 h7).2 h8)
          ·
            refine z_iload dX9_kind_163 5 rfl ?_
            refine z_if_eq (tgt := 172) dX9_kind_165 (by decide) (fun h9 => ?_) (fun h9 => ?_)
            ·
              refine z_bipush (v := 8) dX9_kind_172 zcbipush_8 ?_
              refine z_goto (tgt := 190) dX9_kind_174 (by decide) ?_
              exact z_iret rfl dX9_kind_190 ((((((kk.1 h1).1 h2).1 h3).2 h4).2 h7).1 h9)
            ·
              refine z_iconst (v := 5) dX9_kind_168 zciconst_5 ?_
              refine z_goto (tgt := 190) dX9_kind_169 (by decide) ?_
              exact z_iret rfl dX9_kind_190 ((((((kk.1 h1).1 h2).1 h3).2 h4).2 h7).2 h9)
      ·
        refine z_iload dX9_kind_139 4 rfl ?_
        refine z_iconst (v := 4) dX9_kind_141 zciconst_4 ?_
        refine z_icmp_ne (tgt := 150) dX9_kind_142 (by decide) (fun h10 => ?_) (fun h10 => ?_)
        ·
          refine z_bipush (v := 11) dX9_kind_150 zcbipush_11 ?_
          exact z_iret rfl dX9_kind_152 ((((kk.1 h1).1 h2).2 h3).1 h10)
        ·
          refine z_bipush (v := 10) dX9_kind_145 zcbipush_10 ?_
          refine z_goto (tgt := 152) dX9_kind_147 (by decide) ?_
          exact z_iret rfl dX9_kind_152 ((((kk.1 h1).1 h2).2 h3).2 h10)
    ·
      refine z_iload_n dX9_kind_116 rfl 1 rfl ?_
      refine z_if_eq (tgt := 125) dX9_kind_117 (by decide) (fun h11 => ?_) (fun h11 => ?_)
      ·
        refine z_iload_n dX9_kind_125 rfl 2 rfl ?_
        refine z_if_eq (tgt := 133) dX9_kind_126 (by decide) (fun h12 => ?_) (fun h12 => ?_)
        ·
          refine z_iconst (v := 0) dX9_kind_133 zciconst_0 ?_
          exact z_iret rfl dX9_kind_134 ((((kk.1 h1).2 h2).1 h11).1 h12)
        ·
          refine z_iconst (v := 1) dX9_kind_129 zciconst_1 ?_
          refine z_goto (tgt := 134) dX9_kind_130 (by decide) ?_
          exact z_iret rfl dX9_kind_134 ((((kk.1 h1).2 h2).1 h11).2 h12)
      ·
        refine z_bipush (v := 9) dX9_kind_120 zcbipush_9 ?_
        refine z_goto (tgt := 134) dX9_kind_122 (by decide) ?_
        exact z_iret rfl dX9_kind_134 (((kk.1 h1).2 h2).2 h11)
  ·
    refine z_aload_n dX9_kind_40 rfl 0 rfl ?_
    refine z_iload dX9_kind_41 6 rfl ?_
    refine z_callVi (g' := gX9_fits) [.int x6] (q := 21) (ci := 9) (T := TX9) rfl rfl ⟨lkX9_141, pdX9_fits, by decide, by decide⟩ ⟨_, rfl, by decide⟩ rfl (Nat.le_of_ble_eq_true rfl) dX9_kind_43 (zm_Call.mono (kk.2 h1) (fun r13 w13 u13 k13 => ?_))
    refine z_istore (lv' := [(7, .int r13), (0, .ref 21), (1, .int x1), (2, .int x2), (3, .int x3), (4, .int x4), (5, .int x5), (6, .int x6)]) dX9_kind_46 (by decide) rfl ?_
    refine z_iload_n dX9_kind_48 rfl 4 rfl ?_
    refine z_iload dX9_kind_49 0 rfl ?_
    refine z_if_eq (tgt := 58) dX9_kind_51 (by decide) (fun h14 => ?_) (fun h14 => ?_)
    ·
      refine z_iconst (v := 0) dX9_kind_58 zciconst_0 ?_
      refine z_sub [1, 2, 3, 5, 6, 7, 0] rfl ?_
      exact (k13.1 h14)
    ·
      refine z_iconst (v := 1) dX9_kind_54 zciconst_1 ?_
      refine z_goto (tgt := 59) dX9_kind_55 (by decide) ?_
      refine z_sub [1, 2, 3, 5, 6, 7, 0] rfl ?_
      exact (k13.2 h14)
theorem bX9_kind_59 (x1 : Int32) (x2 : Int32) (x4 : Int32) (x5 : Int32) (x6 : Int32) (x7 : Int32) (s0 : Int32) (s1 : Int32) (mem : zm_Mem) (post : zm_Post) (kk : zm_Call gX9_isMirrored [.ref 21, .int x6] mem (fun r1 w1 u1 => ((r1 = 0 → zm_Z gX9_kind post 77 [(0, .ref 21), (1, .int x1), (2, .int x2), (3, .int (s1 + s0)), (5, .int x5), (6, .int x6), (7, .int x7)] [.int 0, .int x4] u1) ∧ (¬ r1 = 0 → zm_Z gX9_kind post 77 [(0, .ref 21), (1, .int x1), (2, .int x2), (3, .int (s1 + s0)), (5, .int x5), (6, .int x6), (7, .int x7)] [.int 1, .int x4] u1)))) : zm_Z gX9_kind post 59 [(0, .ref 21), (1, .int x1), (2, .int x2), (4, .int x4), (5, .int x5), (6, .int x6), (7, .int x7)] [.int s0, .int s1] mem := by
  refine z_iadd dX9_kind_59 ?_
  refine z_istore_n (lv' := [(3, .int (s1 + s0)), (0, .ref 21), (1, .int x1), (2, .int x2), (4, .int x4), (5, .int x5), (6, .int x6), (7, .int x7)]) dX9_kind_60 rfl (by decide) rfl ?_
  refine z_iload dX9_kind_61 4 rfl ?_
  refine z_aload_n dX9_kind_63 rfl 1 rfl ?_
  refine z_iload dX9_kind_64 6 rfl ?_
  refine z_callVi (g' := gX9_isMirrored) [.int x6] (q := 21) (ci := 9) (T := TX9) rfl rfl ⟨lkX9_135, pdX9_isMirrored, by decide, by decide⟩ ⟨_, rfl, by decide⟩ rfl (Nat.le_of_ble_eq_true rfl) dX9_kind_66 (zm_Call.mono kk (fun r1 w1 u1 k1 => ?_))
  refine z_if_eq (tgt := 76) dX9_kind_69 (by decide) (fun h2 => ?_) (fun h2 => ?_)
  ·
    refine z_iconst (v := 0) dX9_kind_76 zciconst_0 ?_
    refine z_sub [1, 2, 3, 0, 5, 6, 7] rfl ?_
    exact (k1.1 h2)
  ·
    refine z_iconst (v := 1) dX9_kind_72 zciconst_1 ?_
    refine z_goto (tgt := 77) dX9_kind_73 (by decide) ?_
    refine z_sub [1, 2, 3, 0, 5, 6, 7] rfl ?_
    exact (k1.2 h2)
theorem bX9_kind_77 (x1 : Int32) (x2 : Int32) (x3 : Int32) (x5 : Int32) (x6 : Int32) (x7 : Int32) (s0 : Int32) (s1 : Int32) (mem : zm_Mem) (post : zm_Post) (kk : ((x5 = 0 → zm_Z gX9_kind post 33 [(0, .ref 21), (1, .int x1), (2, .int x2), (3, .int x3), (4, .int (s1 + s0)), (5, .int 0), (6, .int (x6 + 1))] [] mem) ∧ (¬ x5 = 0 → ((x7 = 0 → zm_Z gX9_kind post 99 [(0, .ref 21), (1, .int x1), (2, .int x2), (3, .int x3), (4, .int (s1 + s0)), (6, .int x6)] [] mem) ∧ (¬ x7 = 0 → zm_Call gX9_allBehind [.ref 21, .int x6] mem (fun r3 w3 u3 => ((r3 = 0 → zm_Z gX9_kind post 33 [(0, .ref 21), (1, .int x1), (2, .int x2), (3, .int x3), (4, .int (s1 + s0)), (5, .int 0), (6, .int (x6 + 1))] [] u3) ∧ (¬ r3 = 0 → zm_Z gX9_kind post 99 [(0, .ref 21), (1, .int x1), (2, .int x2), (3, .int x3), (4, .int (s1 + s0)), (6, .int x6)] [] u3)))))))) : zm_Z gX9_kind post 77 [(0, .ref 21), (1, .int x1), (2, .int x2), (3, .int x3), (5, .int x5), (6, .int x6), (7, .int x7)] [.int s0, .int s1] mem := by
  refine z_iadd dX9_kind_77 ?_
  refine z_istore (lv' := [(4, .int (s1 + s0)), (0, .ref 21), (1, .int x1), (2, .int x2), (3, .int x3), (5, .int x5), (6, .int x6), (7, .int x7)]) dX9_kind_78 (by decide) rfl ?_
  refine z_iload dX9_kind_80 5 rfl ?_
  refine z_if_eq (tgt := 103) dX9_kind_82 (by decide) (fun h1 => ?_) (fun h1 => ?_)
  ·
    refine z_iconst (v := 0) dX9_kind_103 zciconst_0 ?_
    refine z_istore (lv' := [(5, .int 0), (4, .int (s1 + s0)), (0, .ref 21), (1, .int x1), (2, .int x2), (3, .int x3), (6, .int x6), (7, .int x7)]) dX9_kind_104 (by decide) rfl ?_
    refine z_iinc (v := x6 + 1) (lv' := [(6, .int (x6 + 1)), (5, .int 0), (4, .int (s1 + s0)), (0, .ref 21), (1, .int x1), (2, .int x2), (3, .int x3), (7, .int x7)]) dX9_kind_106 6 rfl (by rw [zciconst_1]) (by decide) rfl ?_
    refine z_goto (tgt := 33) dX9_kind_109 (by decide) ?_
    refine z_sub [3, 4, 5, 6, 2, 1, 0] rfl ?_
    exact (kk.1 h1)
  ·
    refine z_iload dX9_kind_85 7 rfl ?_
    refine z_if_eq (tgt := 99) dX9_kind_87 (by decide) (fun h2 => ?_) (fun h2 => ?_)
    ·
      refine z_sub [1, 2, 3, 4, 0, 6] rfl ?_
      exact ((kk.2 h1).1 h2)
    ·
      refine z_aload_n dX9_kind_90 rfl 1 rfl ?_
      refine z_iload dX9_kind_91 6 rfl ?_
      refine z_callVi (g' := gX9_allBehind) [.int x6] (q := 21) (ci := 9) (T := TX9) rfl rfl ⟨lkX9_144, pdX9_allBehind, by decide, by decide⟩ ⟨_, rfl, by decide⟩ rfl (Nat.le_of_ble_eq_true rfl) dX9_kind_93 (zm_Call.mono ((kk.2 h1).2 h2) (fun r3 w3 u3 k3 => ?_))
      refine z_if_eq (tgt := 103) dX9_kind_96 (by decide) (fun h4 => ?_) (fun h4 => ?_)
      ·
        refine z_iconst (v := 0) dX9_kind_103 zciconst_0 ?_
        refine z_istore (lv' := [(5, .int 0), (4, .int (s1 + s0)), (0, .ref 21), (1, .int x1), (2, .int x2), (3, .int x3), (6, .int x6), (7, .int x7)]) dX9_kind_104 (by decide) rfl ?_
        refine z_iinc (v := x6 + 1) (lv' := [(6, .int (x6 + 1)), (5, .int 0), (4, .int (s1 + s0)), (0, .ref 21), (1, .int x1), (2, .int x2), (3, .int x3), (7, .int x7)]) dX9_kind_106 6 rfl (by rw [zciconst_1]) (by decide) rfl ?_
        refine z_goto (tgt := 33) dX9_kind_109 (by decide) ?_
        refine z_sub [3, 4, 5, 6, 2, 1, 0] rfl ?_
        exact (k3.1 h4)
      ·
        refine z_sub [1, 2, 3, 4, 0, 6] rfl ?_
        exact (k3.2 h4)
theorem bX9_kind_99 (x1 : Int32) (x2 : Int32) (x3 : Int32) (x4 : Int32) (x6 : Int32) (mem : zm_Mem) (post : zm_Post) (kk : zm_Z gX9_kind post 33 [(0, .ref 21), (1, .int x1), (2, .int x2), (3, .int x3), (4, .int x4), (5, .int 1), (6, .int (x6 + 1))] [] mem) : zm_Z gX9_kind post 99 [(0, .ref 21), (1, .int x1), (2, .int x2), (3, .int x3), (4, .int x4), (6, .int x6)] [] mem := by
  refine z_iconst (v := 1) dX9_kind_99 zciconst_1 ?_
  refine z_goto (tgt := 104) dX9_kind_100 (by decide) ?_
  refine z_istore (lv' := [(5, .int 1), (0, .ref 21), (1, .int x1), (2, .int x2), (3, .int x3), (4, .int x4), (6, .int x6)]) dX9_kind_104 (by decide) rfl ?_
  refine z_iinc (v := x6 + 1) (lv' := [(6, .int (x6 + 1)), (5, .int 1), (0, .ref 21), (1, .int x1), (2, .int x2), (3, .int x3), (4, .int x4)]) dX9_kind_106 6 rfl (by rw [zciconst_1]) (by decide) rfl ?_
  refine z_goto (tgt := 33) dX9_kind_109 (by decide) ?_
  refine z_sub [2, 3, 4, 5, 6, 1, 0] rfl ?_
  exact kk
theorem dX9_paintMany_0 : decode cX9_paintMany 0 = .ok (.iconst 1, 1) := by decide +kernel
theorem dX9_paintMany_1 : decode cX9_paintMany 1 = .ok (.istore_n 1, 1) := by decide +kernel
theorem dX9_paintMany_2 : decode cX9_paintMany 2 = .ok (.iconst 2, 1) := by decide +kernel
theorem dX9_paintMany_3 : decode cX9_paintMany 3 = .ok (.istore_n 2, 1) := by decide +kernel
theorem dX9_paintMany_4 : decode cX9_paintMany 4 = .ok (.iload_n 2, 1) := by decide +kernel
theorem dX9_paintMany_5 : decode cX9_paintMany 5 = .ok (.aload_n 0, 1) := by decide +kernel
theorem dX9_paintMany_6 : decode cX9_paintMany 6 = .ok (.getfield 16, 3) := by decide +kernel
theorem dX9_paintMany_9 : decode cX9_paintMany 9 = .ok (.if_icmp .gt 13, 3) := by decide +kernel
theorem dX9_paintMany_12 : decode cX9_paintMany 12 = .ok (.iload_n 1, 1) := by decide +kernel
theorem dX9_paintMany_13 : decode cX9_paintMany 13 = .ok (.iload_n 2, 1) := by decide +kernel
theorem dX9_paintMany_14 : decode cX9_paintMany 14 = .ok (.imul, 1) := by decide +kernel
theorem dX9_paintMany_15 : decode cX9_paintMany 15 = .ok (.istore_n 1, 1) := by decide +kernel
theorem dX9_paintMany_16 : decode cX9_paintMany 16 = .ok (.iinc 2 1, 3) := by decide +kernel
theorem dX9_paintMany_19 : decode cX9_paintMany 19 = .ok (.goto (-15), 3) := by decide +kernel
theorem dX9_paintMany_22 : decode cX9_paintMany 22 = .ok (.iload_n 1, 1) := by decide +kernel
theorem dX9_paintMany_23 : decode cX9_paintMany 23 = .ok (.ireturn, 1) := by decide +kernel
theorem bX9_paintMany_0 (mem : zm_Mem) (post : zm_Post) (kk : zm_Z gX9_paintMany post 4 [(0, .ref 21), (1, .int 1), (2, .int 2)] [] mem) : zm_Call gX9_paintMany [.ref 21] mem post := by
  refine z_entry (by decide) (Nat.le_of_ble_eq_true rfl) ?_
  show zm_Z gX9_paintMany post 0 [(0, .ref 21)] [] mem
  refine z_iconst (v := 1) dX9_paintMany_0 zciconst_1 ?_
  refine z_istore_n (lv' := [(1, .int 1), (0, .ref 21)]) dX9_paintMany_1 rfl (by decide) rfl ?_
  refine z_iconst (v := 2) dX9_paintMany_2 zciconst_2 ?_
  refine z_istore_n (lv' := [(2, .int 2), (1, .int 1), (0, .ref 21)]) dX9_paintMany_3 rfl (by decide) rfl ?_
  refine z_sub [2, 1, 0] rfl ?_
  exact kk
theorem bX9_paintMany_4 (x1 : Int32) (x2 : Int32) (mem : zm_Mem) (post : zm_Post) (kk : (((mem 21 3) < x2 → post x1 0 mem) ∧ (¬ (mem 21 3) < x2 → zm_Z gX9_paintMany post 4 [(0, .ref 21), (1, .int (x1 * x2)), (2, .int (x2 + 1))] [] mem))) : zm_Z gX9_paintMany post 4 [(0, .ref 21), (1, .int x1), (2, .int x2)] [] mem := by
  refine z_iload_n dX9_paintMany_4 rfl 2 rfl ?_
  refine z_aload_n dX9_paintMany_5 rfl 0 rfl ?_
  refine z_geti (ci := 9) (j := 3) (T := TX9) rfl rfl hX9 rfl (by decide) fkX9_16 dX9_paintMany_6 ?_
  refine z_icmp_gt (tgt := 22) dX9_paintMany_9 (by decide) (fun h1 => ?_) (fun h1 => ?_)
  ·
    refine z_iload_n dX9_paintMany_22 rfl 1 rfl ?_
    exact z_iret rfl dX9_paintMany_23 (kk.1 h1)
  ·
    refine z_iload_n dX9_paintMany_12 rfl 1 rfl ?_
    refine z_iload_n dX9_paintMany_13 rfl 2 rfl ?_
    refine z_imul dX9_paintMany_14 ?_
    refine z_istore_n (lv' := [(1, .int (x1 * x2)), (0, .ref 21), (2, .int x2)]) dX9_paintMany_15 rfl (by decide) rfl ?_
    refine z_iinc (v := x2 + 1) (lv' := [(2, .int (x2 + 1)), (1, .int (x1 * x2)), (0, .ref 21)]) dX9_paintMany_16 2 rfl (by rw [zciconst_1]) (by decide) rfl ?_
    refine z_goto (tgt := 4) dX9_paintMany_19 (by decide) ?_
    refine z_sub [2, 1, 0] rfl ?_
    exact (kk.2 h1)
theorem dX9_paints_0 : decode cX9_paints 0 = .ok (.aload_n 0, 1) := by decide +kernel
theorem dX9_paints_1 : decode cX9_paints 1 = .ok (.iconst 0, 1) := by decide +kernel
theorem dX9_paints_2 : decode cX9_paints 2 = .ok (.putfield 69, 3) := by decide +kernel
theorem dX9_paints_5 : decode cX9_paints 5 = .ok (.aload_n 0, 1) := by decide +kernel
theorem dX9_paints_6 : decode cX9_paints 6 = .ok (.invokevirtual 147, 3) := by decide +kernel
theorem dX9_paints_9 : decode cX9_paints 9 = .ok (.ireturn, 1) := by decide +kernel
theorem bX9_paints_0 (mem : zm_Mem) (post : zm_Post) (kk : zm_Call gX9_paintMany [.ref 21] (zm_st mem 21 0 0) (fun r1 w1 u1 => post r1 0 u1)) : zm_Call gX9_paints [.ref 21] mem post := by
  refine z_entry (by decide) (Nat.le_of_ble_eq_true rfl) ?_
  show zm_Z gX9_paints post 0 [(0, .ref 21)] [] mem
  refine z_aload_n dX9_paints_0 rfl 0 rfl ?_
  refine z_iconst (v := 0) dX9_paints_1 zciconst_0 ?_
  refine z_put (ci := 9) (j := 0) (T := TX9) (ty0 := tyX9) rfl rfl hX9 tyX9_ok nmX9 rfl (by decide) fkX9_69 rfl rfl rfl dX9_paints_2 ?_
  refine z_aload_n dX9_paints_5 rfl 0 rfl ?_
  refine z_callVi (g' := gX9_paintMany) [] (q := 21) (ci := 9) (T := TX9) rfl rfl ⟨lkX9_147, pdX9_paintMany, by decide, by decide⟩ ⟨_, rfl, by decide⟩ rfl (Nat.le_of_ble_eq_true rfl) dX9_paints_6 (zm_Call.mono kk (fun r1 w1 u1 k1 => ?_))
  exact z_iret rfl dX9_paints_9 k1
theorem dX9_lay_0 : decode cX9_lay 0 = .ok (.iload_n 1, 1) := by decide +kernel
theorem dX9_lay_1 : decode cX9_lay 1 = .ok (.istore_n 2, 1) := by decide +kernel
theorem dX9_lay_2 : decode cX9_lay 2 = .ok (.aload_n 0, 1) := by decide +kernel
theorem dX9_lay_3 : decode cX9_lay 3 = .ok (.invokevirtual 147, 3) := by decide +kernel
theorem dX9_lay_6 : decode cX9_lay 6 = .ok (.istore_n 3, 1) := by decide +kernel
theorem dX9_lay_7 : decode cX9_lay 7 = .ok (.iconst 0, 1) := by decide +kernel
theorem dX9_lay_8 : decode cX9_lay 8 = .ok (.istore 4, 2) := by decide +kernel
theorem dX9_lay_10 : decode cX9_lay 10 = .ok (.iconst 0, 1) := by decide +kernel
theorem dX9_lay_11 : decode cX9_lay 11 = .ok (.istore 5, 2) := by decide +kernel
theorem dX9_lay_13 : decode cX9_lay 13 = .ok (.iload 5, 2) := by decide +kernel
theorem dX9_lay_15 : decode cX9_lay 15 = .ok (.aload_n 0, 1) := by decide +kernel
theorem dX9_lay_16 : decode cX9_lay 16 = .ok (.getfield 16, 3) := by decide +kernel
theorem dX9_lay_19 : decode cX9_lay 19 = .ok (.if_icmp .ge 92, 3) := by decide +kernel
theorem dX9_lay_22 : decode cX9_lay 22 = .ok (.iload_n 3, 1) := by decide +kernel
theorem dX9_lay_23 : decode cX9_lay 23 = .ok (.aload_n 0, 1) := by decide +kernel
theorem dX9_lay_24 : decode cX9_lay 24 = .ok (.getfield 16, 3) := by decide +kernel
theorem dX9_lay_27 : decode cX9_lay 27 = .ok (.iload 5, 2) := by decide +kernel
theorem dX9_lay_29 : decode cX9_lay 29 = .ok (.isub, 1) := by decide +kernel
theorem dX9_lay_30 : decode cX9_lay 30 = .ok (.idiv, 1) := by decide +kernel
theorem dX9_lay_31 : decode cX9_lay 31 = .ok (.istore_n 3, 1) := by decide +kernel
theorem dX9_lay_32 : decode cX9_lay 32 = .ok (.iload_n 2, 1) := by decide +kernel
theorem dX9_lay_33 : decode cX9_lay 33 = .ok (.iload_n 3, 1) := by decide +kernel
theorem dX9_lay_34 : decode cX9_lay 34 = .ok (.idiv, 1) := by decide +kernel
theorem dX9_lay_35 : decode cX9_lay 35 = .ok (.istore 6, 2) := by decide +kernel
theorem dX9_lay_37 : decode cX9_lay 37 = .ok (.iload_n 2, 1) := by decide +kernel
theorem dX9_lay_38 : decode cX9_lay 38 = .ok (.iload_n 3, 1) := by decide +kernel
theorem dX9_lay_39 : decode cX9_lay 39 = .ok (.irem, 1) := by decide +kernel
theorem dX9_lay_40 : decode cX9_lay 40 = .ok (.istore_n 2, 1) := by decide +kernel
theorem dX9_lay_41 : decode cX9_lay 41 = .ok (.iconst 0, 1) := by decide +kernel
theorem dX9_lay_42 : decode cX9_lay 42 = .ok (.istore 7, 2) := by decide +kernel
theorem dX9_lay_44 : decode cX9_lay 44 = .ok (.iload 4, 2) := by decide +kernel
theorem dX9_lay_46 : decode cX9_lay 46 = .ok (.iload 7, 2) := by decide +kernel
theorem dX9_lay_48 : decode cX9_lay 48 = .ok (.ishr, 1) := by decide +kernel
theorem dX9_lay_49 : decode cX9_lay 49 = .ok (.iconst 1, 1) := by decide +kernel
theorem dX9_lay_50 : decode cX9_lay 50 = .ok (.iand, 1) := by decide +kernel
theorem dX9_lay_51 : decode cX9_lay 51 = .ok (.iconst 1, 1) := by decide +kernel
theorem dX9_lay_52 : decode cX9_lay 52 = .ok (.if_icmp .eq 8, 3) := by decide +kernel
theorem dX9_lay_55 : decode cX9_lay 55 = .ok (.iload 6, 2) := by decide +kernel
theorem dX9_lay_57 : decode cX9_lay 57 = .ok (.ifCond .le 30, 3) := by decide +kernel
theorem dX9_lay_60 : decode cX9_lay 60 = .ok (.iload 6, 2) := by decide +kernel
theorem dX9_lay_62 : decode cX9_lay 62 = .ok (.iload 4, 2) := by decide +kernel
theorem dX9_lay_64 : decode cX9_lay 64 = .ok (.iload 7, 2) := by decide +kernel
theorem dX9_lay_66 : decode cX9_lay 66 = .ok (.ishr, 1) := by decide +kernel
theorem dX9_lay_67 : decode cX9_lay 67 = .ok (.iconst 1, 1) := by decide +kernel
theorem dX9_lay_68 : decode cX9_lay 68 = .ok (.iand, 1) := by decide +kernel
theorem dX9_lay_69 : decode cX9_lay 69 = .ok (.iconst 1, 1) := by decide +kernel
theorem dX9_lay_70 : decode cX9_lay 70 = .ok (.if_icmp .ne 7, 3) := by decide +kernel
theorem dX9_lay_73 : decode cX9_lay 73 = .ok (.iconst 0, 1) := by decide +kernel
theorem dX9_lay_74 : decode cX9_lay 74 = .ok (.goto 4, 3) := by decide +kernel
theorem dX9_lay_77 : decode cX9_lay 77 = .ok (.iconst 1, 1) := by decide +kernel
theorem dX9_lay_78 : decode cX9_lay 78 = .ok (.isub, 1) := by decide +kernel
theorem dX9_lay_79 : decode cX9_lay 79 = .ok (.istore 6, 2) := by decide +kernel
theorem dX9_lay_81 : decode cX9_lay 81 = .ok (.iinc 7 1, 3) := by decide +kernel
theorem dX9_lay_84 : decode cX9_lay 84 = .ok (.goto (-40), 3) := by decide +kernel
theorem dX9_lay_87 : decode cX9_lay 87 = .ok (.iload 4, 2) := by decide +kernel
theorem dX9_lay_89 : decode cX9_lay 89 = .ok (.iconst 1, 1) := by decide +kernel
theorem dX9_lay_90 : decode cX9_lay 90 = .ok (.iload 7, 2) := by decide +kernel
theorem dX9_lay_92 : decode cX9_lay 92 = .ok (.ishl, 1) := by decide +kernel
theorem dX9_lay_93 : decode cX9_lay 93 = .ok (.ior, 1) := by decide +kernel
theorem dX9_lay_94 : decode cX9_lay 94 = .ok (.istore 4, 2) := by decide +kernel
theorem dX9_lay_96 : decode cX9_lay 96 = .ok (.aload_n 0, 1) := by decide +kernel
theorem dX9_lay_97 : decode cX9_lay 97 = .ok (.getfield 48, 3) := by decide +kernel
theorem dX9_lay_100 : decode cX9_lay 100 = .ok (.iload 5, 2) := by decide +kernel
theorem dX9_lay_102 : decode cX9_lay 102 = .ok (.iload 7, 2) := by decide +kernel
theorem dX9_lay_104 : decode cX9_lay 104 = .ok (.iastore, 1) := by decide +kernel
theorem dX9_lay_105 : decode cX9_lay 105 = .ok (.iinc 5 1, 3) := by decide +kernel
theorem dX9_lay_108 : decode cX9_lay 108 = .ok (.goto (-95), 3) := by decide +kernel
theorem dX9_lay_111 : decode cX9_lay 111 = .ok (.return_, 1) := by decide +kernel
theorem bX9_lay_0 (x1 : Int32) (mem : zm_Mem) (post : zm_Post) (kk : zm_Call gX9_paintMany [.ref 21] mem (fun r1 w1 u1 => zm_Z gX9_lay post 13 [(0, .ref 21), (2, .int x1), (3, .int r1), (4, .int 0), (5, .int 0)] [] u1)) : zm_Call gX9_lay [.ref 21, .int x1] mem post := by
  refine z_entry (by decide) (Nat.le_of_ble_eq_true rfl) ?_
  show zm_Z gX9_lay post 0 [(0, .ref 21), (1, .int x1)] [] mem
  refine z_iload_n dX9_lay_0 rfl 1 rfl ?_
  refine z_istore_n (lv' := [(2, .int x1), (0, .ref 21), (1, .int x1)]) dX9_lay_1 rfl (by decide) rfl ?_
  refine z_aload_n dX9_lay_2 rfl 1 rfl ?_
  refine z_callVi (g' := gX9_paintMany) [] (q := 21) (ci := 9) (T := TX9) rfl rfl ⟨lkX9_147, pdX9_paintMany, by decide, by decide⟩ ⟨_, rfl, by decide⟩ rfl (Nat.le_of_ble_eq_true rfl) dX9_lay_3 (zm_Call.mono kk (fun r1 w1 u1 k1 => ?_))
  refine z_istore_n (lv' := [(3, .int r1), (2, .int x1), (0, .ref 21), (1, .int x1)]) dX9_lay_6 rfl (by decide) rfl ?_
  refine z_iconst (v := 0) dX9_lay_7 zciconst_0 ?_
  refine z_istore (lv' := [(4, .int 0), (3, .int r1), (2, .int x1), (0, .ref 21), (1, .int x1)]) dX9_lay_8 (by decide) rfl ?_
  refine z_iconst (v := 0) dX9_lay_10 zciconst_0 ?_
  refine z_istore (lv' := [(5, .int 0), (4, .int 0), (3, .int r1), (2, .int x1), (0, .ref 21), (1, .int x1)]) dX9_lay_11 (by decide) rfl ?_
  refine z_sub [4, 3, 2, 1, 0] rfl ?_
  exact k1
theorem bX9_lay_13 (x2 : Int32) (x3 : Int32) (x4 : Int32) (x5 : Int32) (mem : zm_Mem) (post : zm_Post) (kk : (((mem 21 3) ≤ x5 → post 0 0 mem) ∧ (¬ (mem 21 3) ≤ x5 → (¬ (mem 21 3) - x5 = 0 ∧ (¬ x3 / ((mem 21 3) - x5) = 0 ∧ (¬ x3 / ((mem 21 3) - x5) = 0 ∧ zm_Z gX9_lay post 44 [(0, .ref 21), (2, .int (x2 - x2 / (x3 / ((mem 21 3) - x5)) * (x3 / ((mem 21 3) - x5)))), (3, .int (x3 / ((mem 21 3) - x5))), (4, .int x4), (5, .int x5), (6, .int (x2 / (x3 / ((mem 21 3) - x5)))), (7, .int 0)] [] mem)))))) : zm_Z gX9_lay post 13 [(0, .ref 21), (2, .int x2), (3, .int x3), (4, .int x4), (5, .int x5)] [] mem := by
  refine z_iload dX9_lay_13 4 rfl ?_
  refine z_aload_n dX9_lay_15 rfl 0 rfl ?_
  refine z_geti (ci := 9) (j := 3) (T := TX9) rfl rfl hX9 rfl (by decide) fkX9_16 dX9_lay_16 ?_
  refine z_icmp_ge (tgt := 111) dX9_lay_19 (by decide) (fun h1 => ?_) (fun h1 => ?_)
  ·
    exact z_vret rfl dX9_lay_111 (kk.1 h1)
  ·
    refine z_iload_n dX9_lay_22 rfl 2 rfl ?_
    refine z_aload_n dX9_lay_23 rfl 0 rfl ?_
    refine z_geti (ci := 9) (j := 3) (T := TX9) rfl rfl hX9 rfl (by decide) fkX9_16 dX9_lay_24 ?_
    refine z_iload dX9_lay_27 4 rfl ?_
    refine z_isub dX9_lay_29 ?_
    refine z_idiv dX9_lay_30 (kk.2 h1).1 ?_
    refine z_istore_n (lv' := [(3, .int (x3 / ((mem 21 3) - x5))), (0, .ref 21), (2, .int x2), (4, .int x4), (5, .int x5)]) dX9_lay_31 rfl (by decide) rfl ?_
    refine z_iload_n dX9_lay_32 rfl 2 rfl ?_
    refine z_iload_n dX9_lay_33 rfl 0 rfl ?_
    refine z_idiv dX9_lay_34 (kk.2 h1).2.1 ?_
    refine z_istore (lv' := [(6, .int (x2 / (x3 / ((mem 21 3) - x5)))), (3, .int (x3 / ((mem 21 3) - x5))), (0, .ref 21), (2, .int x2), (4, .int x4), (5, .int x5)]) dX9_lay_35 (by decide) rfl ?_
    refine z_iload_n dX9_lay_37 rfl 3 rfl ?_
    refine z_iload_n dX9_lay_38 rfl 1 rfl ?_
    refine z_irem dX9_lay_39 (kk.2 h1).2.2.1 ?_
    refine z_istore_n (lv' := [(2, .int (x2 - x2 / (x3 / ((mem 21 3) - x5)) * (x3 / ((mem 21 3) - x5)))), (6, .int (x2 / (x3 / ((mem 21 3) - x5)))), (3, .int (x3 / ((mem 21 3) - x5))), (0, .ref 21), (4, .int x4), (5, .int x5)]) dX9_lay_40 rfl (by decide) rfl ?_
    refine z_iconst (v := 0) dX9_lay_41 zciconst_0 ?_
    refine z_istore (lv' := [(7, .int 0), (2, .int (x2 - x2 / (x3 / ((mem 21 3) - x5)) * (x3 / ((mem 21 3) - x5)))), (6, .int (x2 / (x3 / ((mem 21 3) - x5)))), (3, .int (x3 / ((mem 21 3) - x5))), (0, .ref 21), (4, .int x4), (5, .int x5)]) dX9_lay_42 (by decide) rfl ?_
    refine z_sub [4, 1, 3, 5, 6, 2, 0] rfl ?_
    exact (kk.2 h1).2.2.2
theorem bX9_lay_44 (x2 : Int32) (x3 : Int32) (x4 : Int32) (x5 : Int32) (x6 : Int32) (x7 : Int32) (mem : zm_Mem) (post : zm_Post) (kk : (((((x4 : Int32) >>> ((x7 : Int32) &&& 31)) &&& 1) = 1 → zm_Z gX9_lay post 60 [(0, .ref 21), (2, .int x2), (3, .int x3), (4, .int x4), (5, .int x5), (6, .int x6), (7, .int x7)] [] mem) ∧ (¬ (((x4 : Int32) >>> ((x7 : Int32) &&& 31)) &&& 1) = 1 → ((x6 ≤ 0 → (vp_in x5 4 ∧ zm_Z gX9_lay post 13 [(0, .ref 21), (2, .int x2), (3, .int x3), (4, .int (x4 ||| ((1 : Int32) <<< ((x7 : Int32) &&& 31)))), (5, .int (x5 + 1))] [] (zm_st mem 31 (Int32.toNatClampNeg x5) x7))) ∧ (¬ x6 ≤ 0 → zm_Z gX9_lay post 60 [(0, .ref 21), (2, .int x2), (3, .int x3), (4, .int x4), (5, .int x5), (6, .int x6), (7, .int x7)] [] mem))))) : zm_Z gX9_lay post 44 [(0, .ref 21), (2, .int x2), (3, .int x3), (4, .int x4), (5, .int x5), (6, .int x6), (7, .int x7)] [] mem := by
  refine z_iload dX9_lay_44 3 rfl ?_
  refine z_iload dX9_lay_46 6 rfl ?_
  refine z_ishr dX9_lay_48 ?_
  refine z_iconst (v := 1) dX9_lay_49 zciconst_1 ?_
  refine z_iand dX9_lay_50 ?_
  refine z_iconst (v := 1) dX9_lay_51 zciconst_1 ?_
  refine z_icmp_eq (tgt := 60) dX9_lay_52 (by decide) (fun h1 => ?_) (fun h1 => ?_)
  ·
    exact (kk.1 h1)
  ·
    refine z_iload dX9_lay_55 5 rfl ?_
    refine z_if_le (tgt := 87) dX9_lay_57 (by decide) (fun h2 => ?_) (fun h2 => ?_)
    ·
      refine z_iload dX9_lay_87 3 rfl ?_
      refine z_iconst (v := 1) dX9_lay_89 zciconst_1 ?_
      refine z_iload dX9_lay_90 6 rfl ?_
      refine z_ishl dX9_lay_92 ?_
      refine z_ior dX9_lay_93 ?_
      refine z_istore (lv' := [(4, .int (x4 ||| ((1 : Int32) <<< ((x7 : Int32) &&& 31)))), (0, .ref 21), (2, .int x2), (3, .int x3), (5, .int x5), (6, .int x6), (7, .int x7)]) dX9_lay_94 (by decide) rfl ?_
      refine z_aload_n dX9_lay_96 rfl 1 rfl ?_
      refine z_getr (ci := 9) (j := 14) (r := 31) (T := TX9) rfl rfl hX9 rfl (by decide) fkX9_48 dX9_lay_97 ?_
      refine z_iload dX9_lay_100 4 rfl ?_
      refine z_iload dX9_lay_102 6 rfl ?_
      refine z_iast (n := 4) rfl ((kk.2 h1).1 h2).1 dX9_lay_104 ?_
      refine z_iinc (v := x5 + 1) (lv' := [(5, .int (x5 + 1)), (4, .int (x4 ||| ((1 : Int32) <<< ((x7 : Int32) &&& 31)))), (0, .ref 21), (2, .int x2), (3, .int x3), (6, .int x6), (7, .int x7)]) dX9_lay_105 4 rfl (by rw [zciconst_1]) (by decide) rfl ?_
      refine z_goto (tgt := 13) dX9_lay_108 (by decide) ?_
      refine z_sub [2, 3, 4, 1, 0] rfl ?_
      exact ((kk.2 h1).1 h2).2
    ·
      exact ((kk.2 h1).2 h2)
theorem bX9_lay_60 (x2 : Int32) (x3 : Int32) (x4 : Int32) (x5 : Int32) (x6 : Int32) (x7 : Int32) (mem : zm_Mem) (post : zm_Post) (kk : ((¬ (((x4 : Int32) >>> ((x7 : Int32) &&& 31)) &&& 1) = 1 → zm_Z gX9_lay post 44 [(0, .ref 21), (2, .int x2), (3, .int x3), (4, .int x4), (5, .int x5), (6, .int (x6 - 1)), (7, .int (x7 + 1))] [] mem) ∧ ((((x4 : Int32) >>> ((x7 : Int32) &&& 31)) &&& 1) = 1 → zm_Z gX9_lay post 44 [(0, .ref 21), (2, .int x2), (3, .int x3), (4, .int x4), (5, .int x5), (6, .int (x6 - 0)), (7, .int (x7 + 1))] [] mem))) : zm_Z gX9_lay post 60 [(0, .ref 21), (2, .int x2), (3, .int x3), (4, .int x4), (5, .int x5), (6, .int x6), (7, .int x7)] [] mem := by
  refine z_iload dX9_lay_60 5 rfl ?_
  refine z_iload dX9_lay_62 3 rfl ?_
  refine z_iload dX9_lay_64 6 rfl ?_
  refine z_ishr dX9_lay_66 ?_
  refine z_iconst (v := 1) dX9_lay_67 zciconst_1 ?_
  refine z_iand dX9_lay_68 ?_
  refine z_iconst (v := 1) dX9_lay_69 zciconst_1 ?_
  refine z_icmp_ne (tgt := 77) dX9_lay_70 (by decide) (fun h1 => ?_) (fun h1 => ?_)
  ·
    refine z_iconst (v := 1) dX9_lay_77 zciconst_1 ?_
    refine z_isub dX9_lay_78 ?_
    refine z_istore (lv' := [(6, .int (x6 - 1)), (0, .ref 21), (2, .int x2), (3, .int x3), (4, .int x4), (5, .int x5), (7, .int x7)]) dX9_lay_79 (by decide) rfl ?_
    refine z_iinc (v := x7 + 1) (lv' := [(7, .int (x7 + 1)), (6, .int (x6 - 1)), (0, .ref 21), (2, .int x2), (3, .int x3), (4, .int x4), (5, .int x5)]) dX9_lay_81 6 rfl (by rw [zciconst_1]) (by decide) rfl ?_
    refine z_goto (tgt := 44) dX9_lay_84 (by decide) ?_
    refine z_sub [2, 3, 4, 5, 6, 1, 0] rfl ?_
    exact (kk.1 h1)
  ·
    refine z_iconst (v := 0) dX9_lay_73 zciconst_0 ?_
    refine z_goto (tgt := 78) dX9_lay_74 (by decide) ?_
    refine z_isub dX9_lay_78 ?_
    refine z_istore (lv' := [(6, .int (x6 - 0)), (0, .ref 21), (2, .int x2), (3, .int x3), (4, .int x4), (5, .int x5), (7, .int x7)]) dX9_lay_79 (by decide) rfl ?_
    refine z_iinc (v := x7 + 1) (lv' := [(7, .int (x7 + 1)), (6, .int (x6 - 0)), (0, .ref 21), (2, .int x2), (3, .int x3), (4, .int x4), (5, .int x5)]) dX9_lay_81 6 rfl (by rw [zciconst_1]) (by decide) rfl ?_
    refine z_goto (tgt := 44) dX9_lay_84 (by decide) ?_
    refine z_sub [2, 3, 4, 5, 6, 1, 0] rfl ?_
    exact (kk.2 h1)
theorem dX9_noPaint_0 : decode cX9_noPaint 0 = .ok (.iload_n 1, 1) := by decide +kernel
theorem dX9_noPaint_1 : decode cX9_noPaint 1 = .ok (.i2l, 1) := by decide +kernel
theorem dX9_noPaint_2 : decode cX9_noPaint 2 = .ok (.lconst 0, 1) := by decide +kernel
theorem dX9_noPaint_3 : decode cX9_noPaint 3 = .ok (.aload_n 0, 1) := by decide +kernel
theorem dX9_noPaint_4 : decode cX9_noPaint 4 = .ok (.invokevirtual 147, 3) := by decide +kernel
theorem dX9_noPaint_7 : decode cX9_noPaint 7 = .ok (.iconst 1, 1) := by decide +kernel
theorem dX9_noPaint_8 : decode cX9_noPaint 8 = .ok (.isub, 1) := by decide +kernel
theorem dX9_noPaint_9 : decode cX9_noPaint 9 = .ok (.i2l, 1) := by decide +kernel
theorem dX9_noPaint_10 : decode cX9_noPaint 10 = .ok (.invokestatic 76, 3) := by decide +kernel
theorem dX9_noPaint_13 : decode cX9_noPaint 13 = .ok (.ifCond .ne 7, 3) := by decide +kernel
theorem dX9_noPaint_16 : decode cX9_noPaint 16 = .ok (.iconst 1, 1) := by decide +kernel
theorem dX9_noPaint_17 : decode cX9_noPaint 17 = .ok (.goto 4, 3) := by decide +kernel
theorem dX9_noPaint_20 : decode cX9_noPaint 20 = .ok (.iconst 0, 1) := by decide +kernel
theorem dX9_noPaint_21 : decode cX9_noPaint 21 = .ok (.ireturn, 1) := by decide +kernel
theorem bX9_noPaint_0 (x1 : Int32) (mem : zm_Mem) (post : zm_Post) (kk : zm_Call gX9_paintMany [.ref 21] mem (fun r1 w1 u1 => zm_Call gX9_in [.long (Int32.toInt64 x1), .long 0, .long (Int32.toInt64 (r1 - 1))] u1 (fun r2 w2 u2 => ((¬ r2 = 0 → post 0 0 u2) ∧ (r2 = 0 → post 1 0 u2))))) : zm_Call gX9_noPaint [.ref 21, .int x1] mem post := by
  refine z_entry (by decide) (Nat.le_of_ble_eq_true rfl) ?_
  show zm_Z gX9_noPaint post 0 [(0, .ref 21), (1, .int x1)] [] mem
  refine z_iload_n dX9_noPaint_0 rfl 1 rfl ?_
  refine z_i2l dX9_noPaint_1 ?_
  refine z_lconst (v := 0) dX9_noPaint_2 zclconst_0 ?_
  refine z_aload_n dX9_noPaint_3 rfl 0 rfl ?_
  refine z_callVi (g' := gX9_paintMany) [] (q := 21) (ci := 9) (T := TX9) rfl rfl ⟨lkX9_147, pdX9_paintMany, by decide, by decide⟩ ⟨_, rfl, by decide⟩ rfl (Nat.le_of_ble_eq_true rfl) dX9_noPaint_4 (zm_Call.mono kk (fun r1 w1 u1 k1 => ?_))
  refine z_iconst (v := 1) dX9_noPaint_7 zciconst_1 ?_
  refine z_isub dX9_noPaint_8 ?_
  refine z_i2l dX9_noPaint_9 ?_
  refine z_callSi (g' := gX9_in) (st := []) [.long (Int32.toInt64 x1), .long 0, .long (Int32.toInt64 (r1 - 1))] ⟨lkX9_76, pdX9_in, by decide, by decide⟩ ⟨_, rfl, by decide⟩ rfl (Nat.le_of_ble_eq_true rfl) dX9_noPaint_10 (zm_Call.mono k1 (fun r2 w2 u2 k2 => ?_))
  refine z_if_ne (tgt := 20) dX9_noPaint_13 (by decide) (fun h3 => ?_) (fun h3 => ?_)
  ·
    refine z_iconst (v := 0) dX9_noPaint_20 zciconst_0 ?_
    exact z_zret rfl (by decide) dX9_noPaint_21 (k2.1 h3)
  ·
    refine z_iconst (v := 1) dX9_noPaint_16 zciconst_1 ?_
    refine z_goto (tgt := 21) dX9_noPaint_17 (by decide) ?_
    exact z_zret rfl (by decide) dX9_noPaint_21 (k2.2 h3)
theorem dX9_paint_0 : decode cX9_paint 0 = .ok (.aload_n 0, 1) := by decide +kernel
theorem dX9_paint_1 : decode cX9_paint 1 = .ok (.iconst 0, 1) := by decide +kernel
theorem dX9_paint_2 : decode cX9_paint 2 = .ok (.putfield 69, 3) := by decide +kernel
theorem dX9_paint_5 : decode cX9_paint 5 = .ok (.aload_n 0, 1) := by decide +kernel
theorem dX9_paint_6 : decode cX9_paint 6 = .ok (.iload_n 1, 1) := by decide +kernel
theorem dX9_paint_7 : decode cX9_paint 7 = .ok (.invokevirtual 150, 3) := by decide +kernel
theorem dX9_paint_10 : decode cX9_paint 10 = .ok (.ifCond .eq 5, 3) := by decide +kernel
theorem dX9_paint_13 : decode cX9_paint 13 = .ok (.iconst (-1), 1) := by decide +kernel
theorem dX9_paint_14 : decode cX9_paint 14 = .ok (.ireturn, 1) := by decide +kernel
theorem dX9_paint_15 : decode cX9_paint 15 = .ok (.iload_n 2, 1) := by decide +kernel
theorem dX9_paint_16 : decode cX9_paint 16 = .ok (.i2l, 1) := by decide +kernel
theorem dX9_paint_17 : decode cX9_paint 17 = .ok (.lconst 0, 1) := by decide +kernel
theorem dX9_paint_18 : decode cX9_paint 18 = .ok (.aload_n 0, 1) := by decide +kernel
theorem dX9_paint_19 : decode cX9_paint 19 = .ok (.getfield 16, 3) := by decide +kernel
theorem dX9_paint_22 : decode cX9_paint 22 = .ok (.iconst 1, 1) := by decide +kernel
theorem dX9_paint_23 : decode cX9_paint 23 = .ok (.isub, 1) := by decide +kernel
theorem dX9_paint_24 : decode cX9_paint 24 = .ok (.i2l, 1) := by decide +kernel
theorem dX9_paint_25 : decode cX9_paint 25 = .ok (.invokestatic 76, 3) := by decide +kernel
theorem dX9_paint_28 : decode cX9_paint 28 = .ok (.ifCond .ne 6, 3) := by decide +kernel
theorem dX9_paint_31 : decode cX9_paint 31 = .ok (.bipush (-2), 2) := by decide +kernel
theorem dX9_paint_33 : decode cX9_paint 33 = .ok (.ireturn, 1) := by decide +kernel
theorem dX9_paint_34 : decode cX9_paint 34 = .ok (.aload_n 0, 1) := by decide +kernel
theorem dX9_paint_35 : decode cX9_paint 35 = .ok (.iload_n 1, 1) := by decide +kernel
theorem dX9_paint_36 : decode cX9_paint 36 = .ok (.invokevirtual 153, 3) := by decide +kernel
theorem dX9_paint_39 : decode cX9_paint 39 = .ok (.aload_n 0, 1) := by decide +kernel
theorem dX9_paint_40 : decode cX9_paint 40 = .ok (.getfield 48, 3) := by decide +kernel
theorem dX9_paint_43 : decode cX9_paint 43 = .ok (.iload_n 2, 1) := by decide +kernel
theorem dX9_paint_44 : decode cX9_paint 44 = .ok (.iaload, 1) := by decide +kernel
theorem dX9_paint_45 : decode cX9_paint 45 = .ok (.ireturn, 1) := by decide +kernel
theorem bX9_paint_0 (x1 : Int32) (x2 : Int32) (mem : zm_Mem) (post : zm_Post) (kk : zm_Call gX9_noPaint [.ref 21, .int x1] (zm_st mem 21 0 0) (fun r1 w1 u1 => ((r1 = 0 → zm_Call gX9_in [.long (Int32.toInt64 x2), .long 0, .long (Int32.toInt64 ((u1 21 3) - 1))] u1 (fun r3 w3 u3 => ((¬ r3 = 0 → zm_Call gX9_lay [.ref 21, .int x1] u3 (fun r5 w5 u5 => (vp_in x2 4 ∧ post (u5 31 (Int32.toNatClampNeg x2)) 0 u5))) ∧ (r3 = 0 → post (-2) 0 u3)))) ∧ (¬ r1 = 0 → post (-1) 0 u1)))) : zm_Call gX9_paint [.ref 21, .int x1, .int x2] mem post := by
  refine z_entry (by decide) (Nat.le_of_ble_eq_true rfl) ?_
  show zm_Z gX9_paint post 0 [(0, .ref 21), (1, .int x1), (2, .int x2)] [] mem
  refine z_aload_n dX9_paint_0 rfl 0 rfl ?_
  refine z_iconst (v := 0) dX9_paint_1 zciconst_0 ?_
  refine z_put (ci := 9) (j := 0) (T := TX9) (ty0 := tyX9) rfl rfl hX9 tyX9_ok nmX9 rfl (by decide) fkX9_69 rfl rfl rfl dX9_paint_2 ?_
  refine z_aload_n dX9_paint_5 rfl 0 rfl ?_
  refine z_iload_n dX9_paint_6 rfl 1 rfl ?_
  refine z_callVi (g' := gX9_noPaint) [.int x1] (q := 21) (ci := 9) (T := TX9) rfl rfl ⟨lkX9_150, pdX9_noPaint, by decide, by decide⟩ ⟨_, rfl, by decide⟩ rfl (Nat.le_of_ble_eq_true rfl) dX9_paint_7 (zm_Call.mono kk (fun r1 w1 u1 k1 => ?_))
  refine z_if_eq (tgt := 15) dX9_paint_10 (by decide) (fun h2 => ?_) (fun h2 => ?_)
  ·
    refine z_iload_n dX9_paint_15 rfl 2 rfl ?_
    refine z_i2l dX9_paint_16 ?_
    refine z_lconst (v := 0) dX9_paint_17 zclconst_0 ?_
    refine z_aload_n dX9_paint_18 rfl 0 rfl ?_
    refine z_geti (ci := 9) (j := 3) (T := TX9) rfl rfl hX9 rfl (by decide) fkX9_16 dX9_paint_19 ?_
    refine z_iconst (v := 1) dX9_paint_22 zciconst_1 ?_
    refine z_isub dX9_paint_23 ?_
    refine z_i2l dX9_paint_24 ?_
    refine z_callSi (g' := gX9_in) (st := []) [.long (Int32.toInt64 x2), .long 0, .long (Int32.toInt64 ((u1 21 3) - 1))] ⟨lkX9_76, pdX9_in, by decide, by decide⟩ ⟨_, rfl, by decide⟩ rfl (Nat.le_of_ble_eq_true rfl) dX9_paint_25 (zm_Call.mono (k1.1 h2) (fun r3 w3 u3 k3 => ?_))
    refine z_if_ne (tgt := 34) dX9_paint_28 (by decide) (fun h4 => ?_) (fun h4 => ?_)
    ·
      refine z_aload_n dX9_paint_34 rfl 0 rfl ?_
      refine z_iload_n dX9_paint_35 rfl 1 rfl ?_
      refine z_callVv (g' := gX9_lay) [.int x1] (q := 21) (ci := 9) (T := TX9) rfl rfl ⟨lkX9_153, pdX9_lay, by decide, by decide⟩ rfl rfl (Nat.le_of_ble_eq_true rfl) dX9_paint_36 (zm_Call.mono (k3.1 h4) (fun r5 w5 u5 k5 => ?_))
      refine z_aload_n dX9_paint_39 rfl 0 rfl ?_
      refine z_getr (ci := 9) (j := 14) (r := 31) (T := TX9) rfl rfl hX9 rfl (by decide) fkX9_48 dX9_paint_40 ?_
      refine z_iload_n dX9_paint_43 rfl 2 rfl ?_
      refine z_iald (n := 4) rfl k5.1 dX9_paint_44 ?_
      exact z_iret rfl dX9_paint_45 k5.2
    ·
      refine z_bipush (v := (-2)) dX9_paint_31 zcbipush_m2 ?_
      exact z_iret rfl dX9_paint_33 (k3.2 h4)
  ·
    refine z_iconst (v := (-1)) dX9_paint_13 zciconst_m1 ?_
    exact z_iret rfl dX9_paint_14 (k1.2 h2)
theorem dX9_keepsPainted_0 : decode cX9_keepsPainted 0 = .ok (.iconst 1, 1) := by decide +kernel
theorem dX9_keepsPainted_1 : decode cX9_keepsPainted 1 = .ok (.istore_n 2, 1) := by decide +kernel
theorem dX9_keepsPainted_2 : decode cX9_keepsPainted 2 = .ok (.iconst 0, 1) := by decide +kernel
theorem dX9_keepsPainted_3 : decode cX9_keepsPainted 3 = .ok (.istore_n 3, 1) := by decide +kernel
theorem dX9_keepsPainted_4 : decode cX9_keepsPainted 4 = .ok (.iload_n 3, 1) := by decide +kernel
theorem dX9_keepsPainted_5 : decode cX9_keepsPainted 5 = .ok (.aload_n 0, 1) := by decide +kernel
theorem dX9_keepsPainted_6 : decode cX9_keepsPainted 6 = .ok (.invokevirtual 72, 3) := by decide +kernel
theorem dX9_keepsPainted_9 : decode cX9_keepsPainted 9 = .ok (.if_icmp .ge 64, 3) := by decide +kernel
theorem dX9_keepsPainted_12 : decode cX9_keepsPainted 12 = .ok (.aload_n 0, 1) := by decide +kernel
theorem dX9_keepsPainted_13 : decode cX9_keepsPainted 13 = .ok (.getfield 19, 3) := by decide +kernel
theorem dX9_keepsPainted_16 : decode cX9_keepsPainted 16 = .ok (.iload_n 3, 1) := by decide +kernel
theorem dX9_keepsPainted_17 : decode cX9_keepsPainted 17 = .ok (.iaload, 1) := by decide +kernel
theorem dX9_keepsPainted_18 : decode cX9_keepsPainted 18 = .ok (.bipush 9, 2) := by decide +kernel
theorem dX9_keepsPainted_20 : decode cX9_keepsPainted 20 = .ok (.if_icmp .ne 8, 3) := by decide +kernel
theorem dX9_keepsPainted_23 : decode cX9_keepsPainted 23 = .ok (.bipush 9, 2) := by decide +kernel
theorem dX9_keepsPainted_25 : decode cX9_keepsPainted 25 = .ok (.goto 14, 3) := by decide +kernel
theorem dX9_keepsPainted_28 : decode cX9_keepsPainted 28 = .ok (.aload_n 0, 1) := by decide +kernel
theorem dX9_keepsPainted_29 : decode cX9_keepsPainted 29 = .ok (.getfield 48, 3) := by decide +kernel
theorem dX9_keepsPainted_32 : decode cX9_keepsPainted 32 = .ok (.aload_n 0, 1) := by decide +kernel
theorem dX9_keepsPainted_33 : decode cX9_keepsPainted 33 = .ok (.getfield 19, 3) := by decide +kernel
theorem dX9_keepsPainted_36 : decode cX9_keepsPainted 36 = .ok (.iload_n 3, 1) := by decide +kernel
theorem dX9_keepsPainted_37 : decode cX9_keepsPainted 37 = .ok (.iaload, 1) := by decide +kernel
theorem dX9_keepsPainted_38 : decode cX9_keepsPainted 38 = .ok (.iaload, 1) := by decide +kernel
theorem dX9_keepsPainted_39 : decode cX9_keepsPainted 39 = .ok (.istore 4, 2) := by decide +kernel
theorem dX9_keepsPainted_41 : decode cX9_keepsPainted 41 = .ok (.iload_n 2, 1) := by decide +kernel
theorem dX9_keepsPainted_42 : decode cX9_keepsPainted 42 = .ok (.ifCond .eq 23, 3) := by decide +kernel
theorem dX9_keepsPainted_45 : decode cX9_keepsPainted 45 = .ok (.aload_n 0, 1) := by decide +kernel
theorem dX9_keepsPainted_46 : decode cX9_keepsPainted 46 = .ok (.getfield 19, 3) := by decide +kernel
theorem dX9_keepsPainted_49 : decode cX9_keepsPainted 49 = .ok (.aload_n 0, 1) := by decide +kernel
theorem dX9_keepsPainted_50 : decode cX9_keepsPainted 50 = .ok (.iload_n 1, 1) := by decide +kernel
theorem dX9_keepsPainted_51 : decode cX9_keepsPainted 51 = .ok (.iload_n 3, 1) := by decide +kernel
theorem dX9_keepsPainted_52 : decode cX9_keepsPainted 52 = .ok (.invokevirtual 113, 3) := by decide +kernel
theorem dX9_keepsPainted_55 : decode cX9_keepsPainted 55 = .ok (.iaload, 1) := by decide +kernel
theorem dX9_keepsPainted_56 : decode cX9_keepsPainted 56 = .ok (.iload 4, 2) := by decide +kernel
theorem dX9_keepsPainted_58 : decode cX9_keepsPainted 58 = .ok (.if_icmp .ne 7, 3) := by decide +kernel
theorem dX9_keepsPainted_61 : decode cX9_keepsPainted 61 = .ok (.iconst 1, 1) := by decide +kernel
theorem dX9_keepsPainted_62 : decode cX9_keepsPainted 62 = .ok (.goto 4, 3) := by decide +kernel
theorem dX9_keepsPainted_65 : decode cX9_keepsPainted 65 = .ok (.iconst 0, 1) := by decide +kernel
theorem dX9_keepsPainted_66 : decode cX9_keepsPainted 66 = .ok (.istore_n 2, 1) := by decide +kernel
theorem dX9_keepsPainted_67 : decode cX9_keepsPainted 67 = .ok (.iinc 3 1, 3) := by decide +kernel
theorem dX9_keepsPainted_70 : decode cX9_keepsPainted 70 = .ok (.goto (-66), 3) := by decide +kernel
theorem dX9_keepsPainted_73 : decode cX9_keepsPainted 73 = .ok (.iload_n 2, 1) := by decide +kernel
theorem dX9_keepsPainted_74 : decode cX9_keepsPainted 74 = .ok (.ireturn, 1) := by decide +kernel
theorem bX9_keepsPainted_0 (x1 : Int32) (mem : zm_Mem) (post : zm_Post) (kk : zm_Z gX9_keepsPainted post 4 [(0, .ref 21), (1, .int x1), (2, .int 1), (3, .int 0)] [] mem) : zm_Call gX9_keepsPainted [.ref 21, .int x1] mem post := by
  refine z_entry (by decide) (Nat.le_of_ble_eq_true rfl) ?_
  show zm_Z gX9_keepsPainted post 0 [(0, .ref 21), (1, .int x1)] [] mem
  refine z_iconst (v := 1) dX9_keepsPainted_0 zciconst_1 ?_
  refine z_istore_n (lv' := [(2, .int 1), (0, .ref 21), (1, .int x1)]) dX9_keepsPainted_1 rfl (by decide) rfl ?_
  refine z_iconst (v := 0) dX9_keepsPainted_2 zciconst_0 ?_
  refine z_istore_n (lv' := [(3, .int 0), (2, .int 1), (0, .ref 21), (1, .int x1)]) dX9_keepsPainted_3 rfl (by decide) rfl ?_
  refine z_sub [2, 3, 1, 0] rfl ?_
  exact kk
theorem bX9_keepsPainted_4 (x1 : Int32) (x2 : Int32) (x3 : Int32) (mem : zm_Mem) (post : zm_Post) (kk : zm_Call gX9_cells [.ref 21] mem (fun r1 w1 u1 => ((r1 ≤ x3 → ((x2 = 0 ∨ x2 = 1) ∧ post x2 0 u1)) ∧ (¬ r1 ≤ x3 → (vp_in x3 36 ∧ ((¬ (u1 22 (Int32.toNatClampNeg x3)) = 9 → (vp_in x3 36 ∧ (vp_in (u1 22 (Int32.toNatClampNeg x3)) 4 ∧ zm_Z gX9_keepsPainted post 39 [(0, .ref 21), (1, .int x1), (2, .int x2), (3, .int x3)] [.int (u1 31 (Int32.toNatClampNeg (u1 22 (Int32.toNatClampNeg x3))))] u1))) ∧ ((u1 22 (Int32.toNatClampNeg x3)) = 9 → zm_Z gX9_keepsPainted post 39 [(0, .ref 21), (1, .int x1), (2, .int x2), (3, .int x3)] [.int 9] u1))))))) : zm_Z gX9_keepsPainted post 4 [(0, .ref 21), (1, .int x1), (2, .int x2), (3, .int x3)] [] mem := by
  refine z_iload_n dX9_keepsPainted_4 rfl 3 rfl ?_
  refine z_aload_n dX9_keepsPainted_5 rfl 0 rfl ?_
  refine z_callVi (g' := gX9_cells) [] (q := 21) (ci := 9) (T := TX9) rfl rfl ⟨lkX9_72, pdX9_cells, by decide, by decide⟩ ⟨_, rfl, by decide⟩ rfl (Nat.le_of_ble_eq_true rfl) dX9_keepsPainted_6 (zm_Call.mono kk (fun r1 w1 u1 k1 => ?_))
  refine z_icmp_ge (tgt := 73) dX9_keepsPainted_9 (by decide) (fun h2 => ?_) (fun h2 => ?_)
  ·
    refine z_iload_n dX9_keepsPainted_73 rfl 2 rfl ?_
    exact z_zret rfl (k1.1 h2).1 dX9_keepsPainted_74 (k1.1 h2).2
  ·
    refine z_aload_n dX9_keepsPainted_12 rfl 0 rfl ?_
    refine z_getr (ci := 9) (j := 4) (r := 22) (T := TX9) rfl rfl hX9 rfl (by decide) fkX9_19 dX9_keepsPainted_13 ?_
    refine z_iload_n dX9_keepsPainted_16 rfl 3 rfl ?_
    refine z_iald (n := 36) rfl (k1.2 h2).1 dX9_keepsPainted_17 ?_
    refine z_bipush (v := 9) dX9_keepsPainted_18 zcbipush_9 ?_
    refine z_icmp_ne (tgt := 28) dX9_keepsPainted_20 (by decide) (fun h3 => ?_) (fun h3 => ?_)
    ·
      refine z_aload_n dX9_keepsPainted_28 rfl 0 rfl ?_
      refine z_getr (ci := 9) (j := 14) (r := 31) (T := TX9) rfl rfl hX9 rfl (by decide) fkX9_48 dX9_keepsPainted_29 ?_
      refine z_aload_n dX9_keepsPainted_32 rfl 0 rfl ?_
      refine z_getr (ci := 9) (j := 4) (r := 22) (T := TX9) rfl rfl hX9 rfl (by decide) fkX9_19 dX9_keepsPainted_33 ?_
      refine z_iload_n dX9_keepsPainted_36 rfl 3 rfl ?_
      refine z_iald (n := 36) rfl ((k1.2 h2).2.1 h3).1 dX9_keepsPainted_37 ?_
      refine z_iald (n := 4) rfl ((k1.2 h2).2.1 h3).2.1 dX9_keepsPainted_38 ?_
      exact ((k1.2 h2).2.1 h3).2.2
    ·
      refine z_bipush (v := 9) dX9_keepsPainted_23 zcbipush_9 ?_
      refine z_goto (tgt := 39) dX9_keepsPainted_25 (by decide) ?_
      exact ((k1.2 h2).2.2 h3)
theorem bX9_keepsPainted_39 (x1 : Int32) (x2 : Int32) (x3 : Int32) (s0 : Int32) (mem : zm_Mem) (post : zm_Post) (kk : ((x2 = 0 → zm_Z gX9_keepsPainted post 4 [(0, .ref 21), (1, .int x1), (2, .int 0), (3, .int (x3 + 1))] [] mem) ∧ (¬ x2 = 0 → zm_Call gX9_ledTo [.ref 21, .int x1, .int x3] mem (fun r2 w2 u2 => (vp_in r2 36 ∧ ((¬ (u2 22 (Int32.toNatClampNeg r2)) = s0 → zm_Z gX9_keepsPainted post 4 [(0, .ref 21), (1, .int x1), (2, .int 0), (3, .int (x3 + 1))] [] u2) ∧ ((u2 22 (Int32.toNatClampNeg r2)) = s0 → zm_Z gX9_keepsPainted post 4 [(0, .ref 21), (1, .int x1), (2, .int 1), (3, .int (x3 + 1))] [] u2))))))) : zm_Z gX9_keepsPainted post 39 [(0, .ref 21), (1, .int x1), (2, .int x2), (3, .int x3)] [.int s0] mem := by
  refine z_istore (lv' := [(4, .int s0), (0, .ref 21), (1, .int x1), (2, .int x2), (3, .int x3)]) dX9_keepsPainted_39 (by decide) rfl ?_
  refine z_iload_n dX9_keepsPainted_41 rfl 3 rfl ?_
  refine z_if_eq (tgt := 65) dX9_keepsPainted_42 (by decide) (fun h1 => ?_) (fun h1 => ?_)
  ·
    refine z_iconst (v := 0) dX9_keepsPainted_65 zciconst_0 ?_
    refine z_istore_n (lv' := [(2, .int 0), (4, .int s0), (0, .ref 21), (1, .int x1), (3, .int x3)]) dX9_keepsPainted_66 rfl (by decide) rfl ?_
    refine z_iinc (v := x3 + 1) (lv' := [(3, .int (x3 + 1)), (2, .int 0), (4, .int s0), (0, .ref 21), (1, .int x1)]) dX9_keepsPainted_67 4 rfl (by rw [zciconst_1]) (by decide) rfl ?_
    refine z_goto (tgt := 4) dX9_keepsPainted_70 (by decide) ?_
    refine z_sub [3, 4, 1, 0] rfl ?_
    exact (kk.1 h1)
  ·
    refine z_aload_n dX9_keepsPainted_45 rfl 1 rfl ?_
    refine z_getr (ci := 9) (j := 4) (r := 22) (T := TX9) rfl rfl hX9 rfl (by decide) fkX9_19 dX9_keepsPainted_46 ?_
    refine z_aload_n dX9_keepsPainted_49 rfl 1 rfl ?_
    refine z_iload_n dX9_keepsPainted_50 rfl 2 rfl ?_
    refine z_iload_n dX9_keepsPainted_51 rfl 4 rfl ?_
    refine z_callVi (g' := gX9_ledTo) [.int x1, .int x3] (q := 21) (ci := 9) (T := TX9) rfl rfl ⟨lkX9_113, pdX9_ledTo, by decide, by decide⟩ ⟨_, rfl, by decide⟩ rfl (Nat.le_of_ble_eq_true rfl) dX9_keepsPainted_52 (zm_Call.mono (kk.2 h1) (fun r2 w2 u2 k2 => ?_))
    refine z_iald (n := 36) rfl k2.1 dX9_keepsPainted_55 ?_
    refine z_iload dX9_keepsPainted_56 0 rfl ?_
    refine z_icmp_ne (tgt := 65) dX9_keepsPainted_58 (by decide) (fun h3 => ?_) (fun h3 => ?_)
    ·
      refine z_iconst (v := 0) dX9_keepsPainted_65 zciconst_0 ?_
      refine z_istore_n (lv' := [(2, .int 0), (4, .int s0), (0, .ref 21), (1, .int x1), (3, .int x3)]) dX9_keepsPainted_66 rfl (by decide) rfl ?_
      refine z_iinc (v := x3 + 1) (lv' := [(3, .int (x3 + 1)), (2, .int 0), (4, .int s0), (0, .ref 21), (1, .int x1)]) dX9_keepsPainted_67 4 rfl (by rw [zciconst_1]) (by decide) rfl ?_
      refine z_goto (tgt := 4) dX9_keepsPainted_70 (by decide) ?_
      refine z_sub [3, 4, 1, 0] rfl ?_
      exact (k2.2.1 h3)
    ·
      refine z_iconst (v := 1) dX9_keepsPainted_61 zciconst_1 ?_
      refine z_goto (tgt := 66) dX9_keepsPainted_62 (by decide) ?_
      refine z_istore_n (lv' := [(2, .int 1), (4, .int s0), (0, .ref 21), (1, .int x1), (3, .int x3)]) dX9_keepsPainted_66 rfl (by decide) rfl ?_
      refine z_iinc (v := x3 + 1) (lv' := [(3, .int (x3 + 1)), (2, .int 1), (4, .int s0), (0, .ref 21), (1, .int x1)]) dX9_keepsPainted_67 4 rfl (by rw [zciconst_1]) (by decide) rfl ?_
      refine z_goto (tgt := 4) dX9_keepsPainted_70 (by decide) ?_
      refine z_sub [3, 4, 1, 0] rfl ?_
      exact (k2.2.2 h3)
theorem dX9_keepsBy_0 : decode cX9_keepsBy 0 = .ok (.aload_n 0, 1) := by decide +kernel
theorem dX9_keepsBy_1 : decode cX9_keepsBy 1 = .ok (.iconst 0, 1) := by decide +kernel
theorem dX9_keepsBy_2 : decode cX9_keepsBy 2 = .ok (.putfield 69, 3) := by decide +kernel
theorem dX9_keepsBy_5 : decode cX9_keepsBy 5 = .ok (.aload_n 0, 1) := by decide +kernel
theorem dX9_keepsBy_6 : decode cX9_keepsBy 6 = .ok (.iload_n 1, 1) := by decide +kernel
theorem dX9_keepsBy_7 : decode cX9_keepsBy 7 = .ok (.invokevirtual 110, 3) := by decide +kernel
theorem dX9_keepsBy_10 : decode cX9_keepsBy 10 = .ok (.ifCond .ne 11, 3) := by decide +kernel
theorem dX9_keepsBy_13 : decode cX9_keepsBy 13 = .ok (.aload_n 0, 1) := by decide +kernel
theorem dX9_keepsBy_14 : decode cX9_keepsBy 14 = .ok (.iload_n 2, 1) := by decide +kernel
theorem dX9_keepsBy_15 : decode cX9_keepsBy 15 = .ok (.invokevirtual 150, 3) := by decide +kernel
theorem dX9_keepsBy_18 : decode cX9_keepsBy 18 = .ok (.ifCond .eq 5, 3) := by decide +kernel
theorem dX9_keepsBy_21 : decode cX9_keepsBy 21 = .ok (.iconst (-1), 1) := by decide +kernel
theorem dX9_keepsBy_22 : decode cX9_keepsBy 22 = .ok (.ireturn, 1) := by decide +kernel
theorem dX9_keepsBy_23 : decode cX9_keepsBy 23 = .ok (.aload_n 0, 1) := by decide +kernel
theorem dX9_keepsBy_24 : decode cX9_keepsBy 24 = .ok (.iload_n 2, 1) := by decide +kernel
theorem dX9_keepsBy_25 : decode cX9_keepsBy 25 = .ok (.invokevirtual 153, 3) := by decide +kernel
theorem dX9_keepsBy_28 : decode cX9_keepsBy 28 = .ok (.aload_n 0, 1) := by decide +kernel
theorem dX9_keepsBy_29 : decode cX9_keepsBy 29 = .ok (.iload_n 1, 1) := by decide +kernel
theorem dX9_keepsBy_30 : decode cX9_keepsBy 30 = .ok (.invokevirtual 157, 3) := by decide +kernel
theorem dX9_keepsBy_33 : decode cX9_keepsBy 33 = .ok (.ifCond .eq 7, 3) := by decide +kernel
theorem dX9_keepsBy_36 : decode cX9_keepsBy 36 = .ok (.iconst 1, 1) := by decide +kernel
theorem dX9_keepsBy_37 : decode cX9_keepsBy 37 = .ok (.goto 4, 3) := by decide +kernel
theorem dX9_keepsBy_40 : decode cX9_keepsBy 40 = .ok (.iconst 0, 1) := by decide +kernel
theorem dX9_keepsBy_41 : decode cX9_keepsBy 41 = .ok (.ireturn, 1) := by decide +kernel
theorem bX9_keepsBy_0 (x1 : Int32) (x2 : Int32) (mem : zm_Mem) (post : zm_Post) (kk : zm_Call gX9_noMove [.ref 21, .int x1] (zm_st mem 21 0 0) (fun r1 w1 u1 => ((¬ r1 = 0 → post (-1) 0 u1) ∧ (r1 = 0 → zm_Call gX9_noPaint [.ref 21, .int x2] u1 (fun r3 w3 u3 => ((r3 = 0 → zm_Call gX9_lay [.ref 21, .int x2] u3 (fun r5 w5 u5 => zm_Call gX9_keepsPainted [.ref 21, .int x1] u5 (fun r6 w6 u6 => ((r6 = 0 → post 0 0 u6) ∧ (¬ r6 = 0 → post 1 0 u6))))) ∧ (¬ r3 = 0 → post (-1) 0 u3))))))) : zm_Call gX9_keepsBy [.ref 21, .int x1, .int x2] mem post := by
  refine z_entry (by decide) (Nat.le_of_ble_eq_true rfl) ?_
  show zm_Z gX9_keepsBy post 0 [(0, .ref 21), (1, .int x1), (2, .int x2)] [] mem
  refine z_aload_n dX9_keepsBy_0 rfl 0 rfl ?_
  refine z_iconst (v := 0) dX9_keepsBy_1 zciconst_0 ?_
  refine z_put (ci := 9) (j := 0) (T := TX9) (ty0 := tyX9) rfl rfl hX9 tyX9_ok nmX9 rfl (by decide) fkX9_69 rfl rfl rfl dX9_keepsBy_2 ?_
  refine z_aload_n dX9_keepsBy_5 rfl 0 rfl ?_
  refine z_iload_n dX9_keepsBy_6 rfl 1 rfl ?_
  refine z_callVi (g' := gX9_noMove) [.int x1] (q := 21) (ci := 9) (T := TX9) rfl rfl ⟨lkX9_110, pdX9_noMove, by decide, by decide⟩ ⟨_, rfl, by decide⟩ rfl (Nat.le_of_ble_eq_true rfl) dX9_keepsBy_7 (zm_Call.mono kk (fun r1 w1 u1 k1 => ?_))
  refine z_if_ne (tgt := 21) dX9_keepsBy_10 (by decide) (fun h2 => ?_) (fun h2 => ?_)
  ·
    refine z_iconst (v := (-1)) dX9_keepsBy_21 zciconst_m1 ?_
    exact z_iret rfl dX9_keepsBy_22 (k1.1 h2)
  ·
    refine z_aload_n dX9_keepsBy_13 rfl 0 rfl ?_
    refine z_iload_n dX9_keepsBy_14 rfl 2 rfl ?_
    refine z_callVi (g' := gX9_noPaint) [.int x2] (q := 21) (ci := 9) (T := TX9) rfl rfl ⟨lkX9_150, pdX9_noPaint, by decide, by decide⟩ ⟨_, rfl, by decide⟩ rfl (Nat.le_of_ble_eq_true rfl) dX9_keepsBy_15 (zm_Call.mono (k1.2 h2) (fun r3 w3 u3 k3 => ?_))
    refine z_if_eq (tgt := 23) dX9_keepsBy_18 (by decide) (fun h4 => ?_) (fun h4 => ?_)
    ·
      refine z_aload_n dX9_keepsBy_23 rfl 0 rfl ?_
      refine z_iload_n dX9_keepsBy_24 rfl 2 rfl ?_
      refine z_callVv (g' := gX9_lay) [.int x2] (q := 21) (ci := 9) (T := TX9) rfl rfl ⟨lkX9_153, pdX9_lay, by decide, by decide⟩ rfl rfl (Nat.le_of_ble_eq_true rfl) dX9_keepsBy_25 (zm_Call.mono (k3.1 h4) (fun r5 w5 u5 k5 => ?_))
      refine z_aload_n dX9_keepsBy_28 rfl 0 rfl ?_
      refine z_iload_n dX9_keepsBy_29 rfl 1 rfl ?_
      refine z_callVi (g' := gX9_keepsPainted) [.int x1] (q := 21) (ci := 9) (T := TX9) rfl rfl ⟨lkX9_157, pdX9_keepsPainted, by decide, by decide⟩ ⟨_, rfl, by decide⟩ rfl (Nat.le_of_ble_eq_true rfl) dX9_keepsBy_30 (zm_Call.mono k5 (fun r6 w6 u6 k6 => ?_))
      refine z_if_eq (tgt := 40) dX9_keepsBy_33 (by decide) (fun h7 => ?_) (fun h7 => ?_)
      ·
        refine z_iconst (v := 0) dX9_keepsBy_40 zciconst_0 ?_
        exact z_iret rfl dX9_keepsBy_41 (k6.1 h7)
      ·
        refine z_iconst (v := 1) dX9_keepsBy_36 zciconst_1 ?_
        refine z_goto (tgt := 41) dX9_keepsBy_37 (by decide) ?_
        exact z_iret rfl dX9_keepsBy_41 (k6.2 h7)
    ·
      refine z_iconst (v := (-1)) dX9_keepsBy_21 zciconst_m1 ?_
      exact z_iret rfl dX9_keepsBy_22 (k3.2 h4)
theorem dX9_leastPaint_0 : decode cX9_leastPaint 0 = .ok (.iconst 0, 1) := by decide +kernel
theorem dX9_leastPaint_1 : decode cX9_leastPaint 1 = .ok (.istore_n 2, 1) := by decide +kernel
theorem dX9_leastPaint_2 : decode cX9_leastPaint 2 = .ok (.iload_n 2, 1) := by decide +kernel
theorem dX9_leastPaint_3 : decode cX9_leastPaint 3 = .ok (.aload_n 0, 1) := by decide +kernel
theorem dX9_leastPaint_4 : decode cX9_leastPaint 4 = .ok (.invokevirtual 147, 3) := by decide +kernel
theorem dX9_leastPaint_7 : decode cX9_leastPaint 7 = .ok (.if_icmp .ge 24, 3) := by decide +kernel
theorem dX9_leastPaint_10 : decode cX9_leastPaint 10 = .ok (.aload_n 0, 1) := by decide +kernel
theorem dX9_leastPaint_11 : decode cX9_leastPaint 11 = .ok (.iload_n 2, 1) := by decide +kernel
theorem dX9_leastPaint_12 : decode cX9_leastPaint 12 = .ok (.invokevirtual 153, 3) := by decide +kernel
theorem dX9_leastPaint_15 : decode cX9_leastPaint 15 = .ok (.aload_n 0, 1) := by decide +kernel
theorem dX9_leastPaint_16 : decode cX9_leastPaint 16 = .ok (.iload_n 1, 1) := by decide +kernel
theorem dX9_leastPaint_17 : decode cX9_leastPaint 17 = .ok (.invokevirtual 157, 3) := by decide +kernel
theorem dX9_leastPaint_20 : decode cX9_leastPaint 20 = .ok (.ifCond .eq 5, 3) := by decide +kernel
theorem dX9_leastPaint_23 : decode cX9_leastPaint 23 = .ok (.iload_n 2, 1) := by decide +kernel
theorem dX9_leastPaint_24 : decode cX9_leastPaint 24 = .ok (.ireturn, 1) := by decide +kernel
theorem dX9_leastPaint_25 : decode cX9_leastPaint 25 = .ok (.iinc 2 1, 3) := by decide +kernel
theorem dX9_leastPaint_28 : decode cX9_leastPaint 28 = .ok (.goto (-26), 3) := by decide +kernel
theorem dX9_leastPaint_31 : decode cX9_leastPaint 31 = .ok (.bipush (-9), 2) := by decide +kernel
theorem dX9_leastPaint_33 : decode cX9_leastPaint 33 = .ok (.ireturn, 1) := by decide +kernel
theorem bX9_leastPaint_0 (x1 : Int32) (mem : zm_Mem) (post : zm_Post) (kk : zm_Z gX9_leastPaint post 2 [(0, .ref 21), (1, .int x1), (2, .int 0)] [] mem) : zm_Call gX9_leastPaint [.ref 21, .int x1] mem post := by
  refine z_entry (by decide) (Nat.le_of_ble_eq_true rfl) ?_
  show zm_Z gX9_leastPaint post 0 [(0, .ref 21), (1, .int x1)] [] mem
  refine z_iconst (v := 0) dX9_leastPaint_0 zciconst_0 ?_
  refine z_istore_n (lv' := [(2, .int 0), (0, .ref 21), (1, .int x1)]) dX9_leastPaint_1 rfl (by decide) rfl ?_
  refine z_sub [1, 2, 0] rfl ?_
  exact kk
theorem bX9_leastPaint_2 (x1 : Int32) (x2 : Int32) (mem : zm_Mem) (post : zm_Post) (kk : zm_Call gX9_paintMany [.ref 21] mem (fun r1 w1 u1 => ((r1 ≤ x2 → post (-9) 0 u1) ∧ (¬ r1 ≤ x2 → zm_Call gX9_lay [.ref 21, .int x2] u1 (fun r3 w3 u3 => zm_Call gX9_keepsPainted [.ref 21, .int x1] u3 (fun r4 w4 u4 => ((r4 = 0 → zm_Z gX9_leastPaint post 2 [(0, .ref 21), (1, .int x1), (2, .int (x2 + 1))] [] u4) ∧ (¬ r4 = 0 → post x2 0 u4)))))))) : zm_Z gX9_leastPaint post 2 [(0, .ref 21), (1, .int x1), (2, .int x2)] [] mem := by
  refine z_iload_n dX9_leastPaint_2 rfl 2 rfl ?_
  refine z_aload_n dX9_leastPaint_3 rfl 0 rfl ?_
  refine z_callVi (g' := gX9_paintMany) [] (q := 21) (ci := 9) (T := TX9) rfl rfl ⟨lkX9_147, pdX9_paintMany, by decide, by decide⟩ ⟨_, rfl, by decide⟩ rfl (Nat.le_of_ble_eq_true rfl) dX9_leastPaint_4 (zm_Call.mono kk (fun r1 w1 u1 k1 => ?_))
  refine z_icmp_ge (tgt := 31) dX9_leastPaint_7 (by decide) (fun h2 => ?_) (fun h2 => ?_)
  ·
    refine z_bipush (v := (-9)) dX9_leastPaint_31 zcbipush_m9 ?_
    exact z_iret rfl dX9_leastPaint_33 (k1.1 h2)
  ·
    refine z_aload_n dX9_leastPaint_10 rfl 0 rfl ?_
    refine z_iload_n dX9_leastPaint_11 rfl 2 rfl ?_
    refine z_callVv (g' := gX9_lay) [.int x2] (q := 21) (ci := 9) (T := TX9) rfl rfl ⟨lkX9_153, pdX9_lay, by decide, by decide⟩ rfl rfl (Nat.le_of_ble_eq_true rfl) dX9_leastPaint_12 (zm_Call.mono (k1.2 h2) (fun r3 w3 u3 k3 => ?_))
    refine z_aload_n dX9_leastPaint_15 rfl 0 rfl ?_
    refine z_iload_n dX9_leastPaint_16 rfl 1 rfl ?_
    refine z_callVi (g' := gX9_keepsPainted) [.int x1] (q := 21) (ci := 9) (T := TX9) rfl rfl ⟨lkX9_157, pdX9_keepsPainted, by decide, by decide⟩ ⟨_, rfl, by decide⟩ rfl (Nat.le_of_ble_eq_true rfl) dX9_leastPaint_17 (zm_Call.mono k3 (fun r4 w4 u4 k4 => ?_))
    refine z_if_eq (tgt := 25) dX9_leastPaint_20 (by decide) (fun h5 => ?_) (fun h5 => ?_)
    ·
      refine z_iinc (v := x2 + 1) (lv' := [(2, .int (x2 + 1)), (0, .ref 21), (1, .int x1)]) dX9_leastPaint_25 2 rfl (by rw [zciconst_1]) (by decide) rfl ?_
      refine z_goto (tgt := 2) dX9_leastPaint_28 (by decide) ?_
      refine z_sub [1, 2, 0] rfl ?_
      exact (k4.1 h5)
    ·
      refine z_iload_n dX9_leastPaint_23 rfl 2 rfl ?_
      exact z_iret rfl dX9_leastPaint_24 (k4.2 h5)
theorem dX9_by_0 : decode cX9_by 0 = .ok (.aload_n 0, 1) := by decide +kernel
theorem dX9_by_1 : decode cX9_by 1 = .ok (.iconst 0, 1) := by decide +kernel
theorem dX9_by_2 : decode cX9_by 2 = .ok (.putfield 69, 3) := by decide +kernel
theorem dX9_by_5 : decode cX9_by 5 = .ok (.aload_n 0, 1) := by decide +kernel
theorem dX9_by_6 : decode cX9_by 6 = .ok (.iload_n 1, 1) := by decide +kernel
theorem dX9_by_7 : decode cX9_by 7 = .ok (.invokevirtual 110, 3) := by decide +kernel
theorem dX9_by_10 : decode cX9_by 10 = .ok (.ifCond .eq 7, 3) := by decide +kernel
theorem dX9_by_13 : decode cX9_by 13 = .ok (.iconst (-1), 1) := by decide +kernel
theorem dX9_by_14 : decode cX9_by 14 = .ok (.goto 8, 3) := by decide +kernel
theorem dX9_by_17 : decode cX9_by 17 = .ok (.aload_n 0, 1) := by decide +kernel
theorem dX9_by_18 : decode cX9_by 18 = .ok (.iload_n 1, 1) := by decide +kernel
theorem dX9_by_19 : decode cX9_by 19 = .ok (.invokevirtual 160, 3) := by decide +kernel
theorem dX9_by_22 : decode cX9_by 22 = .ok (.ireturn, 1) := by decide +kernel
theorem bX9_by_0 (x1 : Int32) (mem : zm_Mem) (post : zm_Post) (kk : zm_Call gX9_noMove [.ref 21, .int x1] (zm_st mem 21 0 0) (fun r1 w1 u1 => ((r1 = 0 → zm_Call gX9_leastPaint [.ref 21, .int x1] u1 (fun r3 w3 u3 => post r3 0 u3)) ∧ (¬ r1 = 0 → post (-1) 0 u1)))) : zm_Call gX9_by [.ref 21, .int x1] mem post := by
  refine z_entry (by decide) (Nat.le_of_ble_eq_true rfl) ?_
  show zm_Z gX9_by post 0 [(0, .ref 21), (1, .int x1)] [] mem
  refine z_aload_n dX9_by_0 rfl 0 rfl ?_
  refine z_iconst (v := 0) dX9_by_1 zciconst_0 ?_
  refine z_put (ci := 9) (j := 0) (T := TX9) (ty0 := tyX9) rfl rfl hX9 tyX9_ok nmX9 rfl (by decide) fkX9_69 rfl rfl rfl dX9_by_2 ?_
  refine z_aload_n dX9_by_5 rfl 0 rfl ?_
  refine z_iload_n dX9_by_6 rfl 1 rfl ?_
  refine z_callVi (g' := gX9_noMove) [.int x1] (q := 21) (ci := 9) (T := TX9) rfl rfl ⟨lkX9_110, pdX9_noMove, by decide, by decide⟩ ⟨_, rfl, by decide⟩ rfl (Nat.le_of_ble_eq_true rfl) dX9_by_7 (zm_Call.mono kk (fun r1 w1 u1 k1 => ?_))
  refine z_if_eq (tgt := 17) dX9_by_10 (by decide) (fun h2 => ?_) (fun h2 => ?_)
  ·
    refine z_aload_n dX9_by_17 rfl 0 rfl ?_
    refine z_iload_n dX9_by_18 rfl 1 rfl ?_
    refine z_callVi (g' := gX9_leastPaint) [.int x1] (q := 21) (ci := 9) (T := TX9) rfl rfl ⟨lkX9_160, pdX9_leastPaint, by decide, by decide⟩ ⟨_, rfl, by decide⟩ rfl (Nat.le_of_ble_eq_true rfl) dX9_by_19 (zm_Call.mono (k1.1 h2) (fun r3 w3 u3 k3 => ?_))
    exact z_iret rfl dX9_by_22 k3
  ·
    refine z_iconst (v := (-1)) dX9_by_13 zciconst_m1 ?_
    refine z_goto (tgt := 22) dX9_by_14 (by decide) ?_
    exact z_iret rfl dX9_by_22 (k1.2 h2)
theorem dX9_swaps_0 : decode cX9_swaps 0 = .ok (.aload_n 0, 1) := by decide +kernel
theorem dX9_swaps_1 : decode cX9_swaps 1 = .ok (.iconst 0, 1) := by decide +kernel
theorem dX9_swaps_2 : decode cX9_swaps 2 = .ok (.putfield 69, 3) := by decide +kernel
theorem dX9_swaps_5 : decode cX9_swaps 5 = .ok (.iconst 0, 1) := by decide +kernel
theorem dX9_swaps_6 : decode cX9_swaps 6 = .ok (.istore_n 1, 1) := by decide +kernel
theorem dX9_swaps_7 : decode cX9_swaps 7 = .ok (.iconst 0, 1) := by decide +kernel
theorem dX9_swaps_8 : decode cX9_swaps 8 = .ok (.istore_n 2, 1) := by decide +kernel
theorem dX9_swaps_9 : decode cX9_swaps 9 = .ok (.iload_n 2, 1) := by decide +kernel
theorem dX9_swaps_10 : decode cX9_swaps 10 = .ok (.bipush 8, 2) := by decide +kernel
theorem dX9_swaps_12 : decode cX9_swaps 12 = .ok (.aload_n 0, 1) := by decide +kernel
theorem dX9_swaps_13 : decode cX9_swaps 13 = .ok (.invokevirtual 72, 3) := by decide +kernel
theorem dX9_swaps_16 : decode cX9_swaps 16 = .ok (.imul, 1) := by decide +kernel
theorem dX9_swaps_17 : decode cX9_swaps 17 = .ok (.if_icmp .ge 35, 3) := by decide +kernel
theorem dX9_swaps_20 : decode cX9_swaps 20 = .ok (.iload_n 1, 1) := by decide +kernel
theorem dX9_swaps_21 : decode cX9_swaps 21 = .ok (.aload_n 0, 1) := by decide +kernel
theorem dX9_swaps_22 : decode cX9_swaps 22 = .ok (.iload_n 2, 1) := by decide +kernel
theorem dX9_swaps_23 : decode cX9_swaps 23 = .ok (.invokevirtual 110, 3) := by decide +kernel
theorem dX9_swaps_26 : decode cX9_swaps 26 = .ok (.ifCond .ne 17, 3) := by decide +kernel
theorem dX9_swaps_29 : decode cX9_swaps 29 = .ok (.aload_n 0, 1) := by decide +kernel
theorem dX9_swaps_30 : decode cX9_swaps 30 = .ok (.iload_n 2, 1) := by decide +kernel
theorem dX9_swaps_31 : decode cX9_swaps 31 = .ok (.invokevirtual 160, 3) := by decide +kernel
theorem dX9_swaps_34 : decode cX9_swaps 34 = .ok (.bipush (-9), 2) := by decide +kernel
theorem dX9_swaps_36 : decode cX9_swaps 36 = .ok (.if_icmp .eq 7, 3) := by decide +kernel
theorem dX9_swaps_39 : decode cX9_swaps 39 = .ok (.iconst 1, 1) := by decide +kernel
theorem dX9_swaps_40 : decode cX9_swaps 40 = .ok (.goto 4, 3) := by decide +kernel
theorem dX9_swaps_43 : decode cX9_swaps 43 = .ok (.iconst 0, 1) := by decide +kernel
theorem dX9_swaps_44 : decode cX9_swaps 44 = .ok (.iadd, 1) := by decide +kernel
theorem dX9_swaps_45 : decode cX9_swaps 45 = .ok (.istore_n 1, 1) := by decide +kernel
theorem dX9_swaps_46 : decode cX9_swaps 46 = .ok (.iinc 2 1, 3) := by decide +kernel
theorem dX9_swaps_49 : decode cX9_swaps 49 = .ok (.goto (-40), 3) := by decide +kernel
theorem dX9_swaps_52 : decode cX9_swaps 52 = .ok (.iload_n 1, 1) := by decide +kernel
theorem dX9_swaps_53 : decode cX9_swaps 53 = .ok (.ireturn, 1) := by decide +kernel
theorem bX9_swaps_0 (mem : zm_Mem) (post : zm_Post) (kk : zm_Z gX9_swaps post 9 [(0, .ref 21), (1, .int 0), (2, .int 0)] [] (zm_st mem 21 0 0)) : zm_Call gX9_swaps [.ref 21] mem post := by
  refine z_entry (by decide) (Nat.le_of_ble_eq_true rfl) ?_
  show zm_Z gX9_swaps post 0 [(0, .ref 21)] [] mem
  refine z_aload_n dX9_swaps_0 rfl 0 rfl ?_
  refine z_iconst (v := 0) dX9_swaps_1 zciconst_0 ?_
  refine z_put (ci := 9) (j := 0) (T := TX9) (ty0 := tyX9) rfl rfl hX9 tyX9_ok nmX9 rfl (by decide) fkX9_69 rfl rfl rfl dX9_swaps_2 ?_
  refine z_iconst (v := 0) dX9_swaps_5 zciconst_0 ?_
  refine z_istore_n (lv' := [(1, .int 0), (0, .ref 21)]) dX9_swaps_6 rfl (by decide) rfl ?_
  refine z_iconst (v := 0) dX9_swaps_7 zciconst_0 ?_
  refine z_istore_n (lv' := [(2, .int 0), (1, .int 0), (0, .ref 21)]) dX9_swaps_8 rfl (by decide) rfl ?_
  refine z_sub [2, 1, 0] rfl ?_
  exact kk
theorem bX9_swaps_9 (x1 : Int32) (x2 : Int32) (mem : zm_Mem) (post : zm_Post) (kk : zm_Call gX9_cells [.ref 21] mem (fun r1 w1 u1 => (((8 * r1) ≤ x2 → post x1 0 u1) ∧ (¬ (8 * r1) ≤ x2 → zm_Call gX9_noMove [.ref 21, .int x2] u1 (fun r3 w3 u3 => ((¬ r3 = 0 → zm_Z gX9_swaps post 43 [(0, .ref 21), (2, .int x2)] [.int x1] u3) ∧ (r3 = 0 → zm_Call gX9_leastPaint [.ref 21, .int x2] u3 (fun r5 w5 u5 => ((r5 = (-9) → zm_Z gX9_swaps post 43 [(0, .ref 21), (2, .int x2)] [.int x1] u5) ∧ (¬ r5 = (-9) → zm_Z gX9_swaps post 9 [(0, .ref 21), (1, .int (x1 + 1)), (2, .int (x2 + 1))] [] u5)))))))))) : zm_Z gX9_swaps post 9 [(0, .ref 21), (1, .int x1), (2, .int x2)] [] mem := by
  refine z_iload_n dX9_swaps_9 rfl 2 rfl ?_
  refine z_bipush (v := 8) dX9_swaps_10 zcbipush_8 ?_
  refine z_aload_n dX9_swaps_12 rfl 0 rfl ?_
  refine z_callVi (g' := gX9_cells) [] (q := 21) (ci := 9) (T := TX9) rfl rfl ⟨lkX9_72, pdX9_cells, by decide, by decide⟩ ⟨_, rfl, by decide⟩ rfl (Nat.le_of_ble_eq_true rfl) dX9_swaps_13 (zm_Call.mono kk (fun r1 w1 u1 k1 => ?_))
  refine z_imul dX9_swaps_16 ?_
  refine z_icmp_ge (tgt := 52) dX9_swaps_17 (by decide) (fun h2 => ?_) (fun h2 => ?_)
  ·
    refine z_iload_n dX9_swaps_52 rfl 1 rfl ?_
    exact z_iret rfl dX9_swaps_53 (k1.1 h2)
  ·
    refine z_iload_n dX9_swaps_20 rfl 1 rfl ?_
    refine z_aload_n dX9_swaps_21 rfl 0 rfl ?_
    refine z_iload_n dX9_swaps_22 rfl 2 rfl ?_
    refine z_callVi (g' := gX9_noMove) [.int x2] (q := 21) (ci := 9) (T := TX9) rfl rfl ⟨lkX9_110, pdX9_noMove, by decide, by decide⟩ ⟨_, rfl, by decide⟩ rfl (Nat.le_of_ble_eq_true rfl) dX9_swaps_23 (zm_Call.mono (k1.2 h2) (fun r3 w3 u3 k3 => ?_))
    refine z_if_ne (tgt := 43) dX9_swaps_26 (by decide) (fun h4 => ?_) (fun h4 => ?_)
    ·
      refine z_sub [0, 2] rfl ?_
      exact (k3.1 h4)
    ·
      refine z_aload_n dX9_swaps_29 rfl 0 rfl ?_
      refine z_iload_n dX9_swaps_30 rfl 2 rfl ?_
      refine z_callVi (g' := gX9_leastPaint) [.int x2] (q := 21) (ci := 9) (T := TX9) rfl rfl ⟨lkX9_160, pdX9_leastPaint, by decide, by decide⟩ ⟨_, rfl, by decide⟩ rfl (Nat.le_of_ble_eq_true rfl) dX9_swaps_31 (zm_Call.mono (k3.2 h4) (fun r5 w5 u5 k5 => ?_))
      refine z_bipush (v := (-9)) dX9_swaps_34 zcbipush_m9 ?_
      refine z_icmp_eq (tgt := 43) dX9_swaps_36 (by decide) (fun h6 => ?_) (fun h6 => ?_)
      ·
        refine z_sub [0, 2] rfl ?_
        exact (k5.1 h6)
      ·
        refine z_iconst (v := 1) dX9_swaps_39 zciconst_1 ?_
        refine z_goto (tgt := 44) dX9_swaps_40 (by decide) ?_
        refine z_iadd dX9_swaps_44 ?_
        refine z_istore_n (lv' := [(1, .int (x1 + 1)), (0, .ref 21), (2, .int x2)]) dX9_swaps_45 rfl (by decide) rfl ?_
        refine z_iinc (v := x2 + 1) (lv' := [(2, .int (x2 + 1)), (1, .int (x1 + 1)), (0, .ref 21)]) dX9_swaps_46 2 rfl (by rw [zciconst_1]) (by decide) rfl ?_
        refine z_goto (tgt := 9) dX9_swaps_49 (by decide) ?_
        refine z_sub [2, 1, 0] rfl ?_
        exact (k5.2 h6)
theorem bX9_swaps_43 (x2 : Int32) (s0 : Int32) (mem : zm_Mem) (post : zm_Post) (kk : zm_Z gX9_swaps post 9 [(0, .ref 21), (1, .int (s0 + 0)), (2, .int (x2 + 1))] [] mem) : zm_Z gX9_swaps post 43 [(0, .ref 21), (2, .int x2)] [.int s0] mem := by
  refine z_iconst (v := 0) dX9_swaps_43 zciconst_0 ?_
  refine z_iadd dX9_swaps_44 ?_
  refine z_istore_n (lv' := [(1, .int (s0 + 0)), (0, .ref 21), (2, .int x2)]) dX9_swaps_45 rfl (by decide) rfl ?_
  refine z_iinc (v := x2 + 1) (lv' := [(2, .int (x2 + 1)), (1, .int (s0 + 0)), (0, .ref 21)]) dX9_swaps_46 2 rfl (by rw [zciconst_1]) (by decide) rfl ?_
  refine z_goto (tgt := 9) dX9_swaps_49 (by decide) ?_
  refine z_sub [2, 1, 0] rfl ?_
  exact kk
theorem dX9_tell_0 : decode cX9_tell 0 = .ok (.aload_n 0, 1) := by decide +kernel
theorem dX9_tell_1 : decode cX9_tell 1 = .ok (.iconst 0, 1) := by decide +kernel
theorem dX9_tell_2 : decode cX9_tell 2 = .ok (.putfield 69, 3) := by decide +kernel
theorem dX9_tell_5 : decode cX9_tell 5 = .ok (.aload_n 0, 1) := by decide +kernel
theorem dX9_tell_6 : decode cX9_tell 6 = .ok (.iload_n 1, 1) := by decide +kernel
theorem dX9_tell_7 : decode cX9_tell 7 = .ok (.invokevirtual 110, 3) := by decide +kernel
theorem dX9_tell_10 : decode cX9_tell 10 = .ok (.ifCond .eq 5, 3) := by decide +kernel
theorem dX9_tell_13 : decode cX9_tell 13 = .ok (.iconst (-1), 1) := by decide +kernel
theorem dX9_tell_14 : decode cX9_tell 14 = .ok (.ireturn, 1) := by decide +kernel
theorem dX9_tell_15 : decode cX9_tell 15 = .ok (.aload_n 0, 1) := by decide +kernel
theorem dX9_tell_16 : decode cX9_tell 16 = .ok (.getfield 97, 3) := by decide +kernel
theorem dX9_tell_19 : decode cX9_tell 19 = .ok (.iconst 4, 1) := by decide +kernel
theorem dX9_tell_20 : decode cX9_tell 20 = .ok (.if_icmp .ne 6, 3) := by decide +kernel
theorem dX9_tell_23 : decode cX9_tell 23 = .ok (.bipush (-4), 2) := by decide +kernel
theorem dX9_tell_25 : decode cX9_tell 25 = .ok (.ireturn, 1) := by decide +kernel
theorem dX9_tell_26 : decode cX9_tell 26 = .ok (.aload_n 0, 1) := by decide +kernel
theorem dX9_tell_27 : decode cX9_tell 27 = .ok (.getfield 35, 3) := by decide +kernel
theorem dX9_tell_30 : decode cX9_tell 30 = .ok (.aload_n 0, 1) := by decide +kernel
theorem dX9_tell_31 : decode cX9_tell 31 = .ok (.getfield 97, 3) := by decide +kernel
theorem dX9_tell_34 : decode cX9_tell 34 = .ok (.iload_n 1, 1) := by decide +kernel
theorem dX9_tell_35 : decode cX9_tell 35 = .ok (.iastore, 1) := by decide +kernel
theorem dX9_tell_36 : decode cX9_tell 36 = .ok (.aload_n 0, 1) := by decide +kernel
theorem dX9_tell_37 : decode cX9_tell 37 = .ok (.dup, 1) := by decide +kernel
theorem dX9_tell_38 : decode cX9_tell 38 = .ok (.getfield 97, 3) := by decide +kernel
theorem dX9_tell_41 : decode cX9_tell 41 = .ok (.iconst 1, 1) := by decide +kernel
theorem dX9_tell_42 : decode cX9_tell 42 = .ok (.iadd, 1) := by decide +kernel
theorem dX9_tell_43 : decode cX9_tell 43 = .ok (.putfield 97, 3) := by decide +kernel
theorem dX9_tell_46 : decode cX9_tell 46 = .ok (.aload_n 0, 1) := by decide +kernel
theorem dX9_tell_47 : decode cX9_tell 47 = .ok (.getfield 97, 3) := by decide +kernel
theorem dX9_tell_50 : decode cX9_tell 50 = .ok (.ireturn, 1) := by decide +kernel
theorem bX9_tell_0 (x1 : Int32) (mem : zm_Mem) (post : zm_Post) (kk : zm_Call gX9_noMove [.ref 21, .int x1] (zm_st mem 21 0 0) (fun r1 w1 u1 => ((r1 = 0 → ((¬ (u1 21 10) = 4 → (vp_in (u1 21 10) 4 ∧ post ((zm_st (zm_st u1 27 (Int32.toNatClampNeg (u1 21 10)) x1) 21 10 (((zm_st u1 27 (Int32.toNatClampNeg (u1 21 10)) x1) 21 10) + 1)) 21 10) 0 (zm_st (zm_st u1 27 (Int32.toNatClampNeg (u1 21 10)) x1) 21 10 (((zm_st u1 27 (Int32.toNatClampNeg (u1 21 10)) x1) 21 10) + 1)))) ∧ ((u1 21 10) = 4 → post (-4) 0 u1))) ∧ (¬ r1 = 0 → post (-1) 0 u1)))) : zm_Call gX9_tell [.ref 21, .int x1] mem post := by
  refine z_entry (by decide) (Nat.le_of_ble_eq_true rfl) ?_
  show zm_Z gX9_tell post 0 [(0, .ref 21), (1, .int x1)] [] mem
  refine z_aload_n dX9_tell_0 rfl 0 rfl ?_
  refine z_iconst (v := 0) dX9_tell_1 zciconst_0 ?_
  refine z_put (ci := 9) (j := 0) (T := TX9) (ty0 := tyX9) rfl rfl hX9 tyX9_ok nmX9 rfl (by decide) fkX9_69 rfl rfl rfl dX9_tell_2 ?_
  refine z_aload_n dX9_tell_5 rfl 0 rfl ?_
  refine z_iload_n dX9_tell_6 rfl 1 rfl ?_
  refine z_callVi (g' := gX9_noMove) [.int x1] (q := 21) (ci := 9) (T := TX9) rfl rfl ⟨lkX9_110, pdX9_noMove, by decide, by decide⟩ ⟨_, rfl, by decide⟩ rfl (Nat.le_of_ble_eq_true rfl) dX9_tell_7 (zm_Call.mono kk (fun r1 w1 u1 k1 => ?_))
  refine z_if_eq (tgt := 15) dX9_tell_10 (by decide) (fun h2 => ?_) (fun h2 => ?_)
  ·
    refine z_aload_n dX9_tell_15 rfl 0 rfl ?_
    refine z_geti (ci := 9) (j := 10) (T := TX9) rfl rfl hX9 rfl (by decide) fkX9_97 dX9_tell_16 ?_
    refine z_iconst (v := 4) dX9_tell_19 zciconst_4 ?_
    refine z_icmp_ne (tgt := 26) dX9_tell_20 (by decide) (fun h3 => ?_) (fun h3 => ?_)
    ·
      refine z_aload_n dX9_tell_26 rfl 0 rfl ?_
      refine z_getr (ci := 9) (j := 9) (r := 27) (T := TX9) rfl rfl hX9 rfl (by decide) fkX9_35 dX9_tell_27 ?_
      refine z_aload_n dX9_tell_30 rfl 0 rfl ?_
      refine z_geti (ci := 9) (j := 10) (T := TX9) rfl rfl hX9 rfl (by decide) fkX9_97 dX9_tell_31 ?_
      refine z_iload_n dX9_tell_34 rfl 1 rfl ?_
      refine z_iast (n := 4) rfl ((k1.1 h2).1 h3).1 dX9_tell_35 ?_
      refine z_aload_n dX9_tell_36 rfl 0 rfl ?_
      refine z_dupr dX9_tell_37 ?_
      refine z_geti (ci := 9) (j := 10) (T := TX9) rfl rfl hX9 rfl (by decide) fkX9_97 dX9_tell_38 ?_
      refine z_iconst (v := 1) dX9_tell_41 zciconst_1 ?_
      refine z_iadd dX9_tell_42 ?_
      refine z_put (ci := 9) (j := 10) (T := TX9) (ty0 := tyX9) rfl rfl hX9 tyX9_ok nmX9 rfl (by decide) fkX9_97 rfl rfl rfl dX9_tell_43 ?_
      refine z_aload_n dX9_tell_46 rfl 0 rfl ?_
      refine z_geti (ci := 9) (j := 10) (T := TX9) rfl rfl hX9 rfl (by decide) fkX9_97 dX9_tell_47 ?_
      exact z_iret rfl dX9_tell_50 ((k1.1 h2).1 h3).2
    ·
      refine z_bipush (v := (-4)) dX9_tell_23 zcbipush_m4 ?_
      exact z_iret rfl dX9_tell_25 ((k1.1 h2).2 h3)
  ·
    refine z_iconst (v := (-1)) dX9_tell_13 zciconst_m1 ?_
    exact z_iret rfl dX9_tell_14 (k1.2 h2)
theorem dX9_untell_0 : decode cX9_untell 0 = .ok (.aload_n 0, 1) := by decide +kernel
theorem dX9_untell_1 : decode cX9_untell 1 = .ok (.iconst 0, 1) := by decide +kernel
theorem dX9_untell_2 : decode cX9_untell 2 = .ok (.putfield 69, 3) := by decide +kernel
theorem dX9_untell_5 : decode cX9_untell 5 = .ok (.aload_n 0, 1) := by decide +kernel
theorem dX9_untell_6 : decode cX9_untell 6 = .ok (.getfield 97, 3) := by decide +kernel
theorem dX9_untell_9 : decode cX9_untell 9 = .ok (.istore_n 1, 1) := by decide +kernel
theorem dX9_untell_10 : decode cX9_untell 10 = .ok (.aload_n 0, 1) := by decide +kernel
theorem dX9_untell_11 : decode cX9_untell 11 = .ok (.iconst 0, 1) := by decide +kernel
theorem dX9_untell_12 : decode cX9_untell 12 = .ok (.putfield 97, 3) := by decide +kernel
theorem dX9_untell_15 : decode cX9_untell 15 = .ok (.iload_n 1, 1) := by decide +kernel
theorem dX9_untell_16 : decode cX9_untell 16 = .ok (.ireturn, 1) := by decide +kernel
theorem bX9_untell_0 (mem : zm_Mem) (post : zm_Post) (kk : post ((zm_st mem 21 0 0) 21 10) 0 (zm_st (zm_st mem 21 0 0) 21 10 0)) : zm_Call gX9_untell [.ref 21] mem post := by
  refine z_entry (by decide) (Nat.le_of_ble_eq_true rfl) ?_
  show zm_Z gX9_untell post 0 [(0, .ref 21)] [] mem
  refine z_aload_n dX9_untell_0 rfl 0 rfl ?_
  refine z_iconst (v := 0) dX9_untell_1 zciconst_0 ?_
  refine z_put (ci := 9) (j := 0) (T := TX9) (ty0 := tyX9) rfl rfl hX9 tyX9_ok nmX9 rfl (by decide) fkX9_69 rfl rfl rfl dX9_untell_2 ?_
  refine z_aload_n dX9_untell_5 rfl 0 rfl ?_
  refine z_geti (ci := 9) (j := 10) (T := TX9) rfl rfl hX9 rfl (by decide) fkX9_97 dX9_untell_6 ?_
  refine z_istore_n (lv' := [(1, .int ((zm_st mem 21 0 0) 21 10)), (0, .ref 21)]) dX9_untell_9 rfl (by decide) rfl ?_
  refine z_aload_n dX9_untell_10 rfl 1 rfl ?_
  refine z_iconst (v := 0) dX9_untell_11 zciconst_0 ?_
  refine z_put (ci := 9) (j := 10) (T := TX9) (ty0 := tyX9) rfl rfl hX9 tyX9_ok nmX9 rfl (by decide) fkX9_97 rfl rfl rfl dX9_untell_12 ?_
  refine z_iload_n dX9_untell_15 rfl 0 rfl ?_
  exact z_iret rfl dX9_untell_16 kk
theorem dX9_together_0 : decode cX9_together 0 = .ok (.aload_n 0, 1) := by decide +kernel
theorem dX9_together_1 : decode cX9_together 1 = .ok (.iconst 0, 1) := by decide +kernel
theorem dX9_together_2 : decode cX9_together 2 = .ok (.putfield 69, 3) := by decide +kernel
theorem dX9_together_5 : decode cX9_together 5 = .ok (.iconst 0, 1) := by decide +kernel
theorem dX9_together_6 : decode cX9_together 6 = .ok (.istore_n 1, 1) := by decide +kernel
theorem dX9_together_7 : decode cX9_together 7 = .ok (.iload_n 1, 1) := by decide +kernel
theorem dX9_together_8 : decode cX9_together 8 = .ok (.sipush 288, 3) := by decide +kernel
theorem dX9_together_11 : decode cX9_together 11 = .ok (.if_icmp .ge 16, 3) := by decide +kernel
theorem dX9_together_14 : decode cX9_together 14 = .ok (.aload_n 0, 1) := by decide +kernel
theorem dX9_together_15 : decode cX9_together 15 = .ok (.getfield 38, 3) := by decide +kernel
theorem dX9_together_18 : decode cX9_together 18 = .ok (.iload_n 1, 1) := by decide +kernel
theorem dX9_together_19 : decode cX9_together 19 = .ok (.iconst 0, 1) := by decide +kernel
theorem dX9_together_20 : decode cX9_together 20 = .ok (.bastore, 1) := by decide +kernel
theorem dX9_together_21 : decode cX9_together 21 = .ok (.iinc 1 1, 3) := by decide +kernel
theorem dX9_together_24 : decode cX9_together 24 = .ok (.goto (-17), 3) := by decide +kernel
theorem dX9_together_27 : decode cX9_together 27 = .ok (.aload_n 0, 1) := by decide +kernel
theorem dX9_together_28 : decode cX9_together 28 = .ok (.getfield 38, 3) := by decide +kernel
theorem dX9_together_31 : decode cX9_together 31 = .ok (.iconst 0, 1) := by decide +kernel
theorem dX9_together_32 : decode cX9_together 32 = .ok (.iconst 1, 1) := by decide +kernel
theorem dX9_together_33 : decode cX9_together 33 = .ok (.bastore, 1) := by decide +kernel
theorem dX9_together_34 : decode cX9_together 34 = .ok (.aload_n 0, 1) := by decide +kernel
theorem dX9_together_35 : decode cX9_together 35 = .ok (.getfield 42, 3) := by decide +kernel
theorem dX9_together_38 : decode cX9_together 38 = .ok (.iconst 0, 1) := by decide +kernel
theorem dX9_together_39 : decode cX9_together 39 = .ok (.iconst 0, 1) := by decide +kernel
theorem dX9_together_40 : decode cX9_together 40 = .ok (.iastore, 1) := by decide +kernel
theorem dX9_together_41 : decode cX9_together 41 = .ok (.iconst 1, 1) := by decide +kernel
theorem dX9_together_42 : decode cX9_together 42 = .ok (.istore_n 1, 1) := by decide +kernel
theorem dX9_together_43 : decode cX9_together 43 = .ok (.iconst 0, 1) := by decide +kernel
theorem dX9_together_44 : decode cX9_together 44 = .ok (.istore_n 2, 1) := by decide +kernel
theorem dX9_together_45 : decode cX9_together 45 = .ok (.iload_n 2, 1) := by decide +kernel
theorem dX9_together_46 : decode cX9_together 46 = .ok (.iload_n 1, 1) := by decide +kernel
theorem dX9_together_47 : decode cX9_together 47 = .ok (.if_icmp .ge 72, 3) := by decide +kernel
theorem dX9_together_50 : decode cX9_together 50 = .ok (.iconst 0, 1) := by decide +kernel
theorem dX9_together_51 : decode cX9_together 51 = .ok (.istore_n 3, 1) := by decide +kernel
theorem dX9_together_52 : decode cX9_together 52 = .ok (.iload_n 3, 1) := by decide +kernel
theorem dX9_together_53 : decode cX9_together 53 = .ok (.aload_n 0, 1) := by decide +kernel
theorem dX9_together_54 : decode cX9_together 54 = .ok (.getfield 97, 3) := by decide +kernel
theorem dX9_together_57 : decode cX9_together 57 = .ok (.if_icmp .ge 56, 3) := by decide +kernel
theorem dX9_together_60 : decode cX9_together 60 = .ok (.aload_n 0, 1) := by decide +kernel
theorem dX9_together_61 : decode cX9_together 61 = .ok (.aload_n 0, 1) := by decide +kernel
theorem dX9_together_62 : decode cX9_together 62 = .ok (.getfield 42, 3) := by decide +kernel
theorem dX9_together_65 : decode cX9_together 65 = .ok (.iload_n 2, 1) := by decide +kernel
theorem dX9_together_66 : decode cX9_together 66 = .ok (.iaload, 1) := by decide +kernel
theorem dX9_together_67 : decode cX9_together 67 = .ok (.aload_n 0, 1) := by decide +kernel
theorem dX9_together_68 : decode cX9_together 68 = .ok (.getfield 35, 3) := by decide +kernel
theorem dX9_together_71 : decode cX9_together 71 = .ok (.iload_n 3, 1) := by decide +kernel
theorem dX9_together_72 : decode cX9_together 72 = .ok (.iaload, 1) := by decide +kernel
theorem dX9_together_73 : decode cX9_together 73 = .ok (.invokevirtual 119, 3) := by decide +kernel
theorem dX9_together_76 : decode cX9_together 76 = .ok (.istore 4, 2) := by decide +kernel
theorem dX9_together_78 : decode cX9_together 78 = .ok (.aload_n 0, 1) := by decide +kernel
theorem dX9_together_79 : decode cX9_together 79 = .ok (.getfield 38, 3) := by decide +kernel
theorem dX9_together_82 : decode cX9_together 82 = .ok (.iload 4, 2) := by decide +kernel
theorem dX9_together_84 : decode cX9_together 84 = .ok (.baload, 1) := by decide +kernel
theorem dX9_together_85 : decode cX9_together 85 = .ok (.ifCond .ne 22, 3) := by decide +kernel
theorem dX9_together_88 : decode cX9_together 88 = .ok (.aload_n 0, 1) := by decide +kernel
theorem dX9_together_89 : decode cX9_together 89 = .ok (.getfield 38, 3) := by decide +kernel
theorem dX9_together_92 : decode cX9_together 92 = .ok (.iload 4, 2) := by decide +kernel
theorem dX9_together_94 : decode cX9_together 94 = .ok (.iconst 1, 1) := by decide +kernel
theorem dX9_together_95 : decode cX9_together 95 = .ok (.bastore, 1) := by decide +kernel
theorem dX9_together_96 : decode cX9_together 96 = .ok (.aload_n 0, 1) := by decide +kernel
theorem dX9_together_97 : decode cX9_together 97 = .ok (.getfield 42, 3) := by decide +kernel
theorem dX9_together_100 : decode cX9_together 100 = .ok (.iload_n 1, 1) := by decide +kernel
theorem dX9_together_101 : decode cX9_together 101 = .ok (.iload 4, 2) := by decide +kernel
theorem dX9_together_103 : decode cX9_together 103 = .ok (.iastore, 1) := by decide +kernel
theorem dX9_together_104 : decode cX9_together 104 = .ok (.iinc 1 1, 3) := by decide +kernel
theorem dX9_together_107 : decode cX9_together 107 = .ok (.iinc 3 1, 3) := by decide +kernel
theorem dX9_together_110 : decode cX9_together 110 = .ok (.goto (-58), 3) := by decide +kernel
theorem dX9_together_113 : decode cX9_together 113 = .ok (.iinc 2 1, 3) := by decide +kernel
theorem dX9_together_116 : decode cX9_together 116 = .ok (.goto (-71), 3) := by decide +kernel
theorem dX9_together_119 : decode cX9_together 119 = .ok (.iload_n 1, 1) := by decide +kernel
theorem dX9_together_120 : decode cX9_together 120 = .ok (.ireturn, 1) := by decide +kernel
theorem bX9_together_0 (mem : zm_Mem) (post : zm_Post) (kk : zm_Z gX9_together post 7 [(0, .ref 21), (1, .int 0)] [] (zm_st mem 21 0 0)) : zm_Call gX9_together [.ref 21] mem post := by
  refine z_entry (by decide) (Nat.le_of_ble_eq_true rfl) ?_
  show zm_Z gX9_together post 0 [(0, .ref 21)] [] mem
  refine z_aload_n dX9_together_0 rfl 0 rfl ?_
  refine z_iconst (v := 0) dX9_together_1 zciconst_0 ?_
  refine z_put (ci := 9) (j := 0) (T := TX9) (ty0 := tyX9) rfl rfl hX9 tyX9_ok nmX9 rfl (by decide) fkX9_69 rfl rfl rfl dX9_together_2 ?_
  refine z_iconst (v := 0) dX9_together_5 zciconst_0 ?_
  refine z_istore_n (lv' := [(1, .int 0), (0, .ref 21)]) dX9_together_6 rfl (by decide) rfl ?_
  refine z_sub [1, 0] rfl ?_
  exact kk
theorem bX9_together_7 (x1 : Int32) (mem : zm_Mem) (post : zm_Post) (kk : ((288 ≤ x1 → (vp_in 0 288 ∧ (vp_in 0 288 ∧ zm_Z gX9_together post 45 [(0, .ref 21), (1, .int 1), (2, .int 0)] [] (zm_st (zm_st mem 28 (Int32.toNatClampNeg 0) 1) 29 (Int32.toNatClampNeg 0) 0)))) ∧ (¬ 288 ≤ x1 → (vp_in x1 288 ∧ zm_Z gX9_together post 7 [(0, .ref 21), (1, .int (x1 + 1))] [] (zm_st mem 28 (Int32.toNatClampNeg x1) 0))))) : zm_Z gX9_together post 7 [(0, .ref 21), (1, .int x1)] [] mem := by
  refine z_iload_n dX9_together_7 rfl 1 rfl ?_
  refine z_sipush (v := 288) dX9_together_8 zcsipush_288 ?_
  refine z_icmp_ge (tgt := 27) dX9_together_11 (by decide) (fun h1 => ?_) (fun h1 => ?_)
  ·
    refine z_aload_n dX9_together_27 rfl 0 rfl ?_
    refine z_getr (ci := 9) (j := 11) (r := 28) (T := TX9) rfl rfl hX9 rfl (by decide) fkX9_38 dX9_together_28 ?_
    refine z_iconst (v := 0) dX9_together_31 zciconst_0 ?_
    refine z_iconst (v := 1) dX9_together_32 zciconst_1 ?_
    refine z_bast (n := 288) rfl (kk.1 h1).1 (by decide) dX9_together_33 ?_
    refine z_aload_n dX9_together_34 rfl 0 rfl ?_
    refine z_getr (ci := 9) (j := 12) (r := 29) (T := TX9) rfl rfl hX9 rfl (by decide) fkX9_42 dX9_together_35 ?_
    refine z_iconst (v := 0) dX9_together_38 zciconst_0 ?_
    refine z_iconst (v := 0) dX9_together_39 zciconst_0 ?_
    refine z_iast (n := 288) rfl (kk.1 h1).2.1 dX9_together_40 ?_
    refine z_iconst (v := 1) dX9_together_41 zciconst_1 ?_
    refine z_istore_n (lv' := [(1, .int 1), (0, .ref 21)]) dX9_together_42 rfl (by decide) rfl ?_
    refine z_iconst (v := 0) dX9_together_43 zciconst_0 ?_
    refine z_istore_n (lv' := [(2, .int 0), (1, .int 1), (0, .ref 21)]) dX9_together_44 rfl (by decide) rfl ?_
    refine z_sub [2, 1, 0] rfl ?_
    exact (kk.1 h1).2.2
  ·
    refine z_aload_n dX9_together_14 rfl 0 rfl ?_
    refine z_getr (ci := 9) (j := 11) (r := 28) (T := TX9) rfl rfl hX9 rfl (by decide) fkX9_38 dX9_together_15 ?_
    refine z_iload_n dX9_together_18 rfl 1 rfl ?_
    refine z_iconst (v := 0) dX9_together_19 zciconst_0 ?_
    refine z_bast (n := 288) rfl (kk.2 h1).1 (by decide) dX9_together_20 ?_
    refine z_iinc (v := x1 + 1) (lv' := [(1, .int (x1 + 1)), (0, .ref 21)]) dX9_together_21 1 rfl (by rw [zciconst_1]) (by decide) rfl ?_
    refine z_goto (tgt := 7) dX9_together_24 (by decide) ?_
    refine z_sub [1, 0] rfl ?_
    exact (kk.2 h1).2
theorem bX9_together_45 (x1 : Int32) (x2 : Int32) (mem : zm_Mem) (post : zm_Post) (kk : ((x1 ≤ x2 → post x1 0 mem) ∧ (¬ x1 ≤ x2 → zm_Z gX9_together post 52 [(0, .ref 21), (1, .int x1), (2, .int x2), (3, .int 0)] [] mem))) : zm_Z gX9_together post 45 [(0, .ref 21), (1, .int x1), (2, .int x2)] [] mem := by
  refine z_iload_n dX9_together_45 rfl 2 rfl ?_
  refine z_iload_n dX9_together_46 rfl 1 rfl ?_
  refine z_icmp_ge (tgt := 119) dX9_together_47 (by decide) (fun h1 => ?_) (fun h1 => ?_)
  ·
    refine z_iload_n dX9_together_119 rfl 1 rfl ?_
    exact z_iret rfl dX9_together_120 (kk.1 h1)
  ·
    refine z_iconst (v := 0) dX9_together_50 zciconst_0 ?_
    refine z_istore_n (lv' := [(3, .int 0), (0, .ref 21), (1, .int x1), (2, .int x2)]) dX9_together_51 rfl (by decide) rfl ?_
    refine z_sub [1, 2, 3, 0] rfl ?_
    exact (kk.2 h1)
theorem bX9_together_52 (x1 : Int32) (x2 : Int32) (x3 : Int32) (mem : zm_Mem) (post : zm_Post) (kk : (((mem 21 10) ≤ x3 → zm_Z gX9_together post 45 [(0, .ref 21), (1, .int x1), (2, .int (x2 + 1))] [] mem) ∧ (¬ (mem 21 10) ≤ x3 → (vp_in x2 288 ∧ (vp_in x3 4 ∧ zm_Call gX9_two [.ref 21, .int (mem 29 (Int32.toNatClampNeg x2)), .int (mem 27 (Int32.toNatClampNeg x3))] mem (fun r2 w2 u2 => (vp_in r2 288 ∧ ((¬ (u2 28 (Int32.toNatClampNeg r2)) = 0 → zm_Z gX9_together post 52 [(0, .ref 21), (1, .int x1), (2, .int x2), (3, .int (x3 + 1))] [] u2) ∧ ((u2 28 (Int32.toNatClampNeg r2)) = 0 → (vp_in r2 288 ∧ (vp_in x1 288 ∧ zm_Z gX9_together post 52 [(0, .ref 21), (1, .int (x1 + 1)), (2, .int x2), (3, .int (x3 + 1))] [] (zm_st (zm_st u2 28 (Int32.toNatClampNeg r2) 1) 29 (Int32.toNatClampNeg x1) r2)))))))))))) : zm_Z gX9_together post 52 [(0, .ref 21), (1, .int x1), (2, .int x2), (3, .int x3)] [] mem := by
  refine z_iload_n dX9_together_52 rfl 3 rfl ?_
  refine z_aload_n dX9_together_53 rfl 0 rfl ?_
  refine z_geti (ci := 9) (j := 10) (T := TX9) rfl rfl hX9 rfl (by decide) fkX9_97 dX9_together_54 ?_
  refine z_icmp_ge (tgt := 113) dX9_together_57 (by decide) (fun h1 => ?_) (fun h1 => ?_)
  ·
    refine z_iinc (v := x2 + 1) (lv' := [(2, .int (x2 + 1)), (0, .ref 21), (1, .int x1), (3, .int x3)]) dX9_together_113 2 rfl (by rw [zciconst_1]) (by decide) rfl ?_
    refine z_goto (tgt := 45) dX9_together_116 (by decide) ?_
    refine z_sub [1, 2, 0] rfl ?_
    exact (kk.1 h1)
  ·
    refine z_aload_n dX9_together_60 rfl 0 rfl ?_
    refine z_aload_n dX9_together_61 rfl 0 rfl ?_
    refine z_getr (ci := 9) (j := 12) (r := 29) (T := TX9) rfl rfl hX9 rfl (by decide) fkX9_42 dX9_together_62 ?_
    refine z_iload_n dX9_together_65 rfl 2 rfl ?_
    refine z_iald (n := 288) rfl (kk.2 h1).1 dX9_together_66 ?_
    refine z_aload_n dX9_together_67 rfl 0 rfl ?_
    refine z_getr (ci := 9) (j := 9) (r := 27) (T := TX9) rfl rfl hX9 rfl (by decide) fkX9_35 dX9_together_68 ?_
    refine z_iload_n dX9_together_71 rfl 3 rfl ?_
    refine z_iald (n := 4) rfl (kk.2 h1).2.1 dX9_together_72 ?_
    refine z_callVi (g' := gX9_two) [.int (mem 29 (Int32.toNatClampNeg x2)), .int (mem 27 (Int32.toNatClampNeg x3))] (q := 21) (ci := 9) (T := TX9) rfl rfl ⟨lkX9_119, pdX9_two, by decide, by decide⟩ ⟨_, rfl, by decide⟩ rfl (Nat.le_of_ble_eq_true rfl) dX9_together_73 (zm_Call.mono (kk.2 h1).2.2 (fun r2 w2 u2 k2 => ?_))
    refine z_istore (lv' := [(4, .int r2), (0, .ref 21), (1, .int x1), (2, .int x2), (3, .int x3)]) dX9_together_76 (by decide) rfl ?_
    refine z_aload_n dX9_together_78 rfl 1 rfl ?_
    refine z_getr (ci := 9) (j := 11) (r := 28) (T := TX9) rfl rfl hX9 rfl (by decide) fkX9_38 dX9_together_79 ?_
    refine z_iload dX9_together_82 0 rfl ?_
    refine z_bald (n := 288) rfl k2.1 dX9_together_84 ?_
    refine z_if_ne (tgt := 107) dX9_together_85 (by decide) (fun h3 => ?_) (fun h3 => ?_)
    ·
      refine z_iinc (v := x3 + 1) (lv' := [(3, .int (x3 + 1)), (4, .int r2), (0, .ref 21), (1, .int x1), (2, .int x2)]) dX9_together_107 4 rfl (by rw [zciconst_1]) (by decide) rfl ?_
      refine z_goto (tgt := 52) dX9_together_110 (by decide) ?_
      refine z_sub [2, 3, 4, 0] rfl ?_
      exact (k2.2.1 h3)
    ·
      refine z_aload_n dX9_together_88 rfl 1 rfl ?_
      refine z_getr (ci := 9) (j := 11) (r := 28) (T := TX9) rfl rfl hX9 rfl (by decide) fkX9_38 dX9_together_89 ?_
      refine z_iload dX9_together_92 0 rfl ?_
      refine z_iconst (v := 1) dX9_together_94 zciconst_1 ?_
      refine z_bast (n := 288) rfl (k2.2.2 h3).1 (by decide) dX9_together_95 ?_
      refine z_aload_n dX9_together_96 rfl 1 rfl ?_
      refine z_getr (ci := 9) (j := 12) (r := 29) (T := TX9) rfl rfl hX9 rfl (by decide) fkX9_42 dX9_together_97 ?_
      refine z_iload_n dX9_together_100 rfl 2 rfl ?_
      refine z_iload dX9_together_101 0 rfl ?_
      refine z_iast (n := 288) rfl (k2.2.2 h3).2.1 dX9_together_103 ?_
      refine z_iinc (v := x1 + 1) (lv' := [(1, .int (x1 + 1)), (4, .int r2), (0, .ref 21), (2, .int x2), (3, .int x3)]) dX9_together_104 2 rfl (by rw [zciconst_1]) (by decide) rfl ?_
      refine z_iinc (v := x3 + 1) (lv' := [(3, .int (x3 + 1)), (1, .int (x1 + 1)), (4, .int r2), (0, .ref 21), (2, .int x2)]) dX9_together_107 4 rfl (by rw [zciconst_1]) (by decide) rfl ?_
      refine z_goto (tgt := 52) dX9_together_110 (by decide) ?_
      refine z_sub [3, 1, 4, 0] rfl ?_
      exact (k2.2.2 h3).2.2
theorem dX9_layRings_0 : decode cX9_layRings 0 = .ok (.iconst 0, 1) := by decide +kernel
theorem dX9_layRings_1 : decode cX9_layRings 1 = .ok (.istore_n 2, 1) := by decide +kernel
theorem dX9_layRings_2 : decode cX9_layRings 2 = .ok (.iload_n 2, 1) := by decide +kernel
theorem dX9_layRings_3 : decode cX9_layRings 3 = .ok (.aload_n 0, 1) := by decide +kernel
theorem dX9_layRings_4 : decode cX9_layRings 4 = .ok (.invokevirtual 72, 3) := by decide +kernel
theorem dX9_layRings_7 : decode cX9_layRings 7 = .ok (.if_icmp .ge 16, 3) := by decide +kernel
theorem dX9_layRings_10 : decode cX9_layRings 10 = .ok (.aload_n 0, 1) := by decide +kernel
theorem dX9_layRings_11 : decode cX9_layRings 11 = .ok (.getfield 29, 3) := by decide +kernel
theorem dX9_layRings_14 : decode cX9_layRings 14 = .ok (.iload_n 2, 1) := by decide +kernel
theorem dX9_layRings_15 : decode cX9_layRings 15 = .ok (.iload_n 2, 1) := by decide +kernel
theorem dX9_layRings_16 : decode cX9_layRings 16 = .ok (.iastore, 1) := by decide +kernel
theorem dX9_layRings_17 : decode cX9_layRings 17 = .ok (.iinc 2 1, 3) := by decide +kernel
theorem dX9_layRings_20 : decode cX9_layRings 20 = .ok (.goto (-18), 3) := by decide +kernel
theorem dX9_layRings_23 : decode cX9_layRings 23 = .ok (.iconst 1, 1) := by decide +kernel
theorem dX9_layRings_24 : decode cX9_layRings 24 = .ok (.istore_n 2, 1) := by decide +kernel
theorem dX9_layRings_25 : decode cX9_layRings 25 = .ok (.iload_n 2, 1) := by decide +kernel
theorem dX9_layRings_26 : decode cX9_layRings 26 = .ok (.ifCond .eq 160, 3) := by decide +kernel
theorem dX9_layRings_29 : decode cX9_layRings 29 = .ok (.iconst 0, 1) := by decide +kernel
theorem dX9_layRings_30 : decode cX9_layRings 30 = .ok (.istore_n 2, 1) := by decide +kernel
theorem dX9_layRings_31 : decode cX9_layRings 31 = .ok (.iconst 0, 1) := by decide +kernel
theorem dX9_layRings_32 : decode cX9_layRings 32 = .ok (.istore_n 3, 1) := by decide +kernel
theorem dX9_layRings_33 : decode cX9_layRings 33 = .ok (.iload_n 3, 1) := by decide +kernel
theorem dX9_layRings_34 : decode cX9_layRings 34 = .ok (.aload_n 0, 1) := by decide +kernel
theorem dX9_layRings_35 : decode cX9_layRings 35 = .ok (.invokevirtual 72, 3) := by decide +kernel
theorem dX9_layRings_38 : decode cX9_layRings 38 = .ok (.if_icmp .ge 145, 3) := by decide +kernel
theorem dX9_layRings_41 : decode cX9_layRings 41 = .ok (.iconst 0, 1) := by decide +kernel
theorem dX9_layRings_42 : decode cX9_layRings 42 = .ok (.istore 4, 2) := by decide +kernel
theorem dX9_layRings_44 : decode cX9_layRings 44 = .ok (.iload 4, 2) := by decide +kernel
theorem dX9_layRings_46 : decode cX9_layRings 46 = .ok (.iload_n 1, 1) := by decide +kernel
theorem dX9_layRings_47 : decode cX9_layRings 47 = .ok (.bipush (-9), 2) := by decide +kernel
theorem dX9_layRings_49 : decode cX9_layRings 49 = .ok (.if_icmp .ne 10, 3) := by decide +kernel
theorem dX9_layRings_52 : decode cX9_layRings 52 = .ok (.aload_n 0, 1) := by decide +kernel
theorem dX9_layRings_53 : decode cX9_layRings 53 = .ok (.getfield 97, 3) := by decide +kernel
theorem dX9_layRings_56 : decode cX9_layRings 56 = .ok (.goto 4, 3) := by decide +kernel
theorem dX9_layRings_59 : decode cX9_layRings 59 = .ok (.iconst 1, 1) := by decide +kernel
theorem dX9_layRings_60 : decode cX9_layRings 60 = .ok (.if_icmp .ge 117, 3) := by decide +kernel
theorem dX9_layRings_63 : decode cX9_layRings 63 = .ok (.aload_n 0, 1) := by decide +kernel
theorem dX9_layRings_64 : decode cX9_layRings 64 = .ok (.iload_n 1, 1) := by decide +kernel
theorem dX9_layRings_65 : decode cX9_layRings 65 = .ok (.bipush (-9), 2) := by decide +kernel
theorem dX9_layRings_67 : decode cX9_layRings 67 = .ok (.if_icmp .ne 13, 3) := by decide +kernel
theorem dX9_layRings_70 : decode cX9_layRings 70 = .ok (.aload_n 0, 1) := by decide +kernel
theorem dX9_layRings_71 : decode cX9_layRings 71 = .ok (.getfield 35, 3) := by decide +kernel
theorem dX9_layRings_74 : decode cX9_layRings 74 = .ok (.iload 4, 2) := by decide +kernel
theorem dX9_layRings_76 : decode cX9_layRings 76 = .ok (.iaload, 1) := by decide +kernel
theorem dX9_layRings_77 : decode cX9_layRings 77 = .ok (.goto 4, 3) := by decide +kernel
theorem dX9_layRings_80 : decode cX9_layRings 80 = .ok (.iload_n 1, 1) := by decide +kernel
theorem dX9_layRings_81 : decode cX9_layRings 81 = .ok (.iload_n 3, 1) := by decide +kernel
theorem dX9_layRings_82 : decode cX9_layRings 82 = .ok (.invokevirtual 113, 3) := by decide +kernel
theorem dX9_layRings_85 : decode cX9_layRings 85 = .ok (.istore 5, 2) := by decide +kernel
theorem dX9_layRings_87 : decode cX9_layRings 87 = .ok (.aload_n 0, 1) := by decide +kernel
theorem dX9_layRings_88 : decode cX9_layRings 88 = .ok (.getfield 29, 3) := by decide +kernel
theorem dX9_layRings_91 : decode cX9_layRings 91 = .ok (.iload_n 3, 1) := by decide +kernel
theorem dX9_layRings_92 : decode cX9_layRings 92 = .ok (.iaload, 1) := by decide +kernel
theorem dX9_layRings_93 : decode cX9_layRings 93 = .ok (.aload_n 0, 1) := by decide +kernel
theorem dX9_layRings_94 : decode cX9_layRings 94 = .ok (.getfield 29, 3) := by decide +kernel
theorem dX9_layRings_97 : decode cX9_layRings 97 = .ok (.iload 5, 2) := by decide +kernel
theorem dX9_layRings_99 : decode cX9_layRings 99 = .ok (.iaload, 1) := by decide +kernel
theorem dX9_layRings_100 : decode cX9_layRings 100 = .ok (.if_icmp .ge 12, 3) := by decide +kernel
theorem dX9_layRings_103 : decode cX9_layRings 103 = .ok (.aload_n 0, 1) := by decide +kernel
theorem dX9_layRings_104 : decode cX9_layRings 104 = .ok (.getfield 29, 3) := by decide +kernel
theorem dX9_layRings_107 : decode cX9_layRings 107 = .ok (.iload_n 3, 1) := by decide +kernel
theorem dX9_layRings_108 : decode cX9_layRings 108 = .ok (.iaload, 1) := by decide +kernel
theorem dX9_layRings_109 : decode cX9_layRings 109 = .ok (.goto 10, 3) := by decide +kernel
theorem dX9_layRings_112 : decode cX9_layRings 112 = .ok (.aload_n 0, 1) := by decide +kernel
theorem dX9_layRings_113 : decode cX9_layRings 113 = .ok (.getfield 29, 3) := by decide +kernel
theorem dX9_layRings_116 : decode cX9_layRings 116 = .ok (.iload 5, 2) := by decide +kernel
theorem dX9_layRings_118 : decode cX9_layRings 118 = .ok (.iaload, 1) := by decide +kernel
theorem dX9_layRings_119 : decode cX9_layRings 119 = .ok (.istore 6, 2) := by decide +kernel
theorem dX9_layRings_121 : decode cX9_layRings 121 = .ok (.iload_n 2, 1) := by decide +kernel
theorem dX9_layRings_122 : decode cX9_layRings 122 = .ok (.ifCond .ne 26, 3) := by decide +kernel
theorem dX9_layRings_125 : decode cX9_layRings 125 = .ok (.aload_n 0, 1) := by decide +kernel
theorem dX9_layRings_126 : decode cX9_layRings 126 = .ok (.getfield 29, 3) := by decide +kernel
theorem dX9_layRings_129 : decode cX9_layRings 129 = .ok (.iload_n 3, 1) := by decide +kernel
theorem dX9_layRings_130 : decode cX9_layRings 130 = .ok (.iaload, 1) := by decide +kernel
theorem dX9_layRings_131 : decode cX9_layRings 131 = .ok (.iload 6, 2) := by decide +kernel
theorem dX9_layRings_133 : decode cX9_layRings 133 = .ok (.if_icmp .ne 15, 3) := by decide +kernel
theorem dX9_layRings_136 : decode cX9_layRings 136 = .ok (.aload_n 0, 1) := by decide +kernel
theorem dX9_layRings_137 : decode cX9_layRings 137 = .ok (.getfield 29, 3) := by decide +kernel
theorem dX9_layRings_140 : decode cX9_layRings 140 = .ok (.iload 5, 2) := by decide +kernel
theorem dX9_layRings_142 : decode cX9_layRings 142 = .ok (.iaload, 1) := by decide +kernel
theorem dX9_layRings_143 : decode cX9_layRings 143 = .ok (.iload 6, 2) := by decide +kernel
theorem dX9_layRings_145 : decode cX9_layRings 145 = .ok (.if_icmp .eq 7, 3) := by decide +kernel
theorem dX9_layRings_148 : decode cX9_layRings 148 = .ok (.iconst 1, 1) := by decide +kernel
theorem dX9_layRings_149 : decode cX9_layRings 149 = .ok (.goto 4, 3) := by decide +kernel
theorem dX9_layRings_152 : decode cX9_layRings 152 = .ok (.iconst 0, 1) := by decide +kernel
theorem dX9_layRings_153 : decode cX9_layRings 153 = .ok (.istore_n 2, 1) := by decide +kernel
theorem dX9_layRings_154 : decode cX9_layRings 154 = .ok (.aload_n 0, 1) := by decide +kernel
theorem dX9_layRings_155 : decode cX9_layRings 155 = .ok (.getfield 29, 3) := by decide +kernel
theorem dX9_layRings_158 : decode cX9_layRings 158 = .ok (.iload_n 3, 1) := by decide +kernel
theorem dX9_layRings_159 : decode cX9_layRings 159 = .ok (.iload 6, 2) := by decide +kernel
theorem dX9_layRings_161 : decode cX9_layRings 161 = .ok (.iastore, 1) := by decide +kernel
theorem dX9_layRings_162 : decode cX9_layRings 162 = .ok (.aload_n 0, 1) := by decide +kernel
theorem dX9_layRings_163 : decode cX9_layRings 163 = .ok (.getfield 29, 3) := by decide +kernel
theorem dX9_layRings_166 : decode cX9_layRings 166 = .ok (.iload 5, 2) := by decide +kernel
theorem dX9_layRings_168 : decode cX9_layRings 168 = .ok (.iload 6, 2) := by decide +kernel
theorem dX9_layRings_170 : decode cX9_layRings 170 = .ok (.iastore, 1) := by decide +kernel
theorem dX9_layRings_171 : decode cX9_layRings 171 = .ok (.iinc 4 1, 3) := by decide +kernel
theorem dX9_layRings_174 : decode cX9_layRings 174 = .ok (.goto (-130), 3) := by decide +kernel
theorem dX9_layRings_177 : decode cX9_layRings 177 = .ok (.iinc 3 1, 3) := by decide +kernel
theorem dX9_layRings_180 : decode cX9_layRings 180 = .ok (.goto (-147), 3) := by decide +kernel
theorem dX9_layRings_183 : decode cX9_layRings 183 = .ok (.goto (-158), 3) := by decide +kernel
theorem dX9_layRings_186 : decode cX9_layRings 186 = .ok (.iconst 0, 1) := by decide +kernel
theorem dX9_layRings_187 : decode cX9_layRings 187 = .ok (.istore_n 3, 1) := by decide +kernel
theorem dX9_layRings_188 : decode cX9_layRings 188 = .ok (.iconst 0, 1) := by decide +kernel
theorem dX9_layRings_189 : decode cX9_layRings 189 = .ok (.istore 4, 2) := by decide +kernel
theorem dX9_layRings_191 : decode cX9_layRings 191 = .ok (.iload 4, 2) := by decide +kernel
theorem dX9_layRings_193 : decode cX9_layRings 193 = .ok (.aload_n 0, 1) := by decide +kernel
theorem dX9_layRings_194 : decode cX9_layRings 194 = .ok (.invokevirtual 72, 3) := by decide +kernel
theorem dX9_layRings_197 : decode cX9_layRings 197 = .ok (.if_icmp .ge 29, 3) := by decide +kernel
theorem dX9_layRings_200 : decode cX9_layRings 200 = .ok (.iload_n 3, 1) := by decide +kernel
theorem dX9_layRings_201 : decode cX9_layRings 201 = .ok (.aload_n 0, 1) := by decide +kernel
theorem dX9_layRings_202 : decode cX9_layRings 202 = .ok (.getfield 29, 3) := by decide +kernel
theorem dX9_layRings_205 : decode cX9_layRings 205 = .ok (.iload 4, 2) := by decide +kernel
theorem dX9_layRings_207 : decode cX9_layRings 207 = .ok (.iaload, 1) := by decide +kernel
theorem dX9_layRings_208 : decode cX9_layRings 208 = .ok (.iload 4, 2) := by decide +kernel
theorem dX9_layRings_210 : decode cX9_layRings 210 = .ok (.if_icmp .ne 7, 3) := by decide +kernel
theorem dX9_layRings_213 : decode cX9_layRings 213 = .ok (.iconst 1, 1) := by decide +kernel
theorem dX9_layRings_214 : decode cX9_layRings 214 = .ok (.goto 4, 3) := by decide +kernel
theorem dX9_layRings_217 : decode cX9_layRings 217 = .ok (.iconst 0, 1) := by decide +kernel
theorem dX9_layRings_218 : decode cX9_layRings 218 = .ok (.iadd, 1) := by decide +kernel
theorem dX9_layRings_219 : decode cX9_layRings 219 = .ok (.istore_n 3, 1) := by decide +kernel
theorem dX9_layRings_220 : decode cX9_layRings 220 = .ok (.iinc 4 1, 3) := by decide +kernel
theorem dX9_layRings_223 : decode cX9_layRings 223 = .ok (.goto (-32), 3) := by decide +kernel
theorem dX9_layRings_226 : decode cX9_layRings 226 = .ok (.iload_n 3, 1) := by decide +kernel
theorem dX9_layRings_227 : decode cX9_layRings 227 = .ok (.ireturn, 1) := by decide +kernel
theorem bX9_layRings_0 (x1 : Int32) (mem : zm_Mem) (post : zm_Post) (kk : zm_Z gX9_layRings post 2 [(0, .ref 21), (1, .int x1), (2, .int 0)] [] mem) : zm_Call gX9_layRings [.ref 21, .int x1] mem post := by
  refine z_entry (by decide) (Nat.le_of_ble_eq_true rfl) ?_
  show zm_Z gX9_layRings post 0 [(0, .ref 21), (1, .int x1)] [] mem
  refine z_iconst (v := 0) dX9_layRings_0 zciconst_0 ?_
  refine z_istore_n (lv' := [(2, .int 0), (0, .ref 21), (1, .int x1)]) dX9_layRings_1 rfl (by decide) rfl ?_
  refine z_sub [1, 2, 0] rfl ?_
  exact kk
theorem bX9_layRings_2 (x1 : Int32) (x2 : Int32) (mem : zm_Mem) (post : zm_Post) (kk : zm_Call gX9_cells [.ref 21] mem (fun r1 w1 u1 => ((r1 ≤ x2 → zm_Z gX9_layRings post 25 [(0, .ref 21), (1, .int x1), (2, .int 1)] [] u1) ∧ (¬ r1 ≤ x2 → (vp_in x2 36 ∧ zm_Z gX9_layRings post 2 [(0, .ref 21), (1, .int x1), (2, .int (x2 + 1))] [] (zm_st u1 25 (Int32.toNatClampNeg x2) x2)))))) : zm_Z gX9_layRings post 2 [(0, .ref 21), (1, .int x1), (2, .int x2)] [] mem := by
  refine z_iload_n dX9_layRings_2 rfl 2 rfl ?_
  refine z_aload_n dX9_layRings_3 rfl 0 rfl ?_
  refine z_callVi (g' := gX9_cells) [] (q := 21) (ci := 9) (T := TX9) rfl rfl ⟨lkX9_72, pdX9_cells, by decide, by decide⟩ ⟨_, rfl, by decide⟩ rfl (Nat.le_of_ble_eq_true rfl) dX9_layRings_4 (zm_Call.mono kk (fun r1 w1 u1 k1 => ?_))
  refine z_icmp_ge (tgt := 23) dX9_layRings_7 (by decide) (fun h2 => ?_) (fun h2 => ?_)
  ·
    refine z_iconst (v := 1) dX9_layRings_23 zciconst_1 ?_
    refine z_istore_n (lv' := [(2, .int 1), (0, .ref 21), (1, .int x1)]) dX9_layRings_24 rfl (by decide) rfl ?_
    refine z_sub [1, 2, 0] rfl ?_
    exact (k1.1 h2)
  ·
    refine z_aload_n dX9_layRings_10 rfl 0 rfl ?_
    refine z_getr (ci := 9) (j := 7) (r := 25) (T := TX9) rfl rfl hX9 rfl (by decide) fkX9_29 dX9_layRings_11 ?_
    refine z_iload_n dX9_layRings_14 rfl 2 rfl ?_
    refine z_iload_n dX9_layRings_15 rfl 2 rfl ?_
    refine z_iast (n := 36) rfl (k1.2 h2).1 dX9_layRings_16 ?_
    refine z_iinc (v := x2 + 1) (lv' := [(2, .int (x2 + 1)), (0, .ref 21), (1, .int x1)]) dX9_layRings_17 2 rfl (by rw [zciconst_1]) (by decide) rfl ?_
    refine z_goto (tgt := 2) dX9_layRings_20 (by decide) ?_
    refine z_sub [1, 2, 0] rfl ?_
    exact (k1.2 h2).2
theorem bX9_layRings_25 (x1 : Int32) (x2 : Int32) (mem : zm_Mem) (post : zm_Post) (kk : ((x2 = 0 → zm_Z gX9_layRings post 191 [(0, .ref 21), (3, .int 0), (4, .int 0)] [] mem) ∧ (¬ x2 = 0 → zm_Z gX9_layRings post 33 [(0, .ref 21), (1, .int x1), (2, .int 0), (3, .int 0)] [] mem))) : zm_Z gX9_layRings post 25 [(0, .ref 21), (1, .int x1), (2, .int x2)] [] mem := by
  refine z_iload_n dX9_layRings_25 rfl 2 rfl ?_
  refine z_if_eq (tgt := 186) dX9_layRings_26 (by decide) (fun h1 => ?_) (fun h1 => ?_)
  ·
    refine z_iconst (v := 0) dX9_layRings_186 zciconst_0 ?_
    refine z_istore_n (lv' := [(3, .int 0), (0, .ref 21), (1, .int x1), (2, .int x2)]) dX9_layRings_187 rfl (by decide) rfl ?_
    refine z_iconst (v := 0) dX9_layRings_188 zciconst_0 ?_
    refine z_istore (lv' := [(4, .int 0), (3, .int 0), (0, .ref 21), (1, .int x1), (2, .int x2)]) dX9_layRings_189 (by decide) rfl ?_
    refine z_sub [2, 1, 0] rfl ?_
    exact (kk.1 h1)
  ·
    refine z_iconst (v := 0) dX9_layRings_29 zciconst_0 ?_
    refine z_istore_n (lv' := [(2, .int 0), (0, .ref 21), (1, .int x1)]) dX9_layRings_30 rfl (by decide) rfl ?_
    refine z_iconst (v := 0) dX9_layRings_31 zciconst_0 ?_
    refine z_istore_n (lv' := [(3, .int 0), (2, .int 0), (0, .ref 21), (1, .int x1)]) dX9_layRings_32 rfl (by decide) rfl ?_
    refine z_sub [2, 3, 1, 0] rfl ?_
    exact (kk.2 h1)
theorem bX9_layRings_33 (x1 : Int32) (x2 : Int32) (x3 : Int32) (mem : zm_Mem) (post : zm_Post) (kk : zm_Call gX9_cells [.ref 21] mem (fun r1 w1 u1 => ((r1 ≤ x3 → zm_Z gX9_layRings post 25 [(0, .ref 21), (1, .int x1), (2, .int x2)] [] u1) ∧ (¬ r1 ≤ x3 → zm_Z gX9_layRings post 44 [(0, .ref 21), (1, .int x1), (2, .int x2), (3, .int x3), (4, .int 0)] [] u1)))) : zm_Z gX9_layRings post 33 [(0, .ref 21), (1, .int x1), (2, .int x2), (3, .int x3)] [] mem := by
  refine z_iload_n dX9_layRings_33 rfl 3 rfl ?_
  refine z_aload_n dX9_layRings_34 rfl 0 rfl ?_
  refine z_callVi (g' := gX9_cells) [] (q := 21) (ci := 9) (T := TX9) rfl rfl ⟨lkX9_72, pdX9_cells, by decide, by decide⟩ ⟨_, rfl, by decide⟩ rfl (Nat.le_of_ble_eq_true rfl) dX9_layRings_35 (zm_Call.mono kk (fun r1 w1 u1 k1 => ?_))
  refine z_icmp_ge (tgt := 183) dX9_layRings_38 (by decide) (fun h2 => ?_) (fun h2 => ?_)
  ·
    refine z_goto (tgt := 25) dX9_layRings_183 (by decide) ?_
    refine z_sub [0, 1, 2] rfl ?_
    exact (k1.1 h2)
  ·
    refine z_iconst (v := 0) dX9_layRings_41 zciconst_0 ?_
    refine z_istore (lv' := [(4, .int 0), (0, .ref 21), (1, .int x1), (2, .int x2), (3, .int x3)]) dX9_layRings_42 (by decide) rfl ?_
    refine z_sub [1, 2, 3, 4, 0] rfl ?_
    exact (k1.2 h2)
theorem bX9_layRings_44 (x1 : Int32) (x2 : Int32) (x3 : Int32) (x4 : Int32) (mem : zm_Mem) (post : zm_Post) (kk : ((¬ x1 = (-9) → zm_Z gX9_layRings post 60 [(0, .ref 21), (1, .int x1), (2, .int x2), (3, .int x3), (4, .int x4)] [.int 1, .int x4] mem) ∧ (x1 = (-9) → zm_Z gX9_layRings post 60 [(0, .ref 21), (1, .int x1), (2, .int x2), (3, .int x3), (4, .int x4)] [.int (mem 21 10), .int x4] mem))) : zm_Z gX9_layRings post 44 [(0, .ref 21), (1, .int x1), (2, .int x2), (3, .int x3), (4, .int x4)] [] mem := by
  refine z_iload dX9_layRings_44 4 rfl ?_
  refine z_iload_n dX9_layRings_46 rfl 1 rfl ?_
  refine z_bipush (v := (-9)) dX9_layRings_47 zcbipush_m9 ?_
  refine z_icmp_ne (tgt := 59) dX9_layRings_49 (by decide) (fun h1 => ?_) (fun h1 => ?_)
  ·
    refine z_iconst (v := 1) dX9_layRings_59 zciconst_1 ?_
    exact (kk.1 h1)
  ·
    refine z_aload_n dX9_layRings_52 rfl 0 rfl ?_
    refine z_geti (ci := 9) (j := 10) (T := TX9) rfl rfl hX9 rfl (by decide) fkX9_97 dX9_layRings_53 ?_
    refine z_goto (tgt := 60) dX9_layRings_56 (by decide) ?_
    exact (kk.2 h1)
theorem bX9_layRings_60 (x1 : Int32) (x2 : Int32) (x3 : Int32) (x4 : Int32) (s0 : Int32) (s1 : Int32) (mem : zm_Mem) (post : zm_Post) (kk : ((s0 ≤ s1 → zm_Z gX9_layRings post 33 [(0, .ref 21), (1, .int x1), (2, .int x2), (3, .int (x3 + 1))] [] mem) ∧ (¬ s0 ≤ s1 → ((¬ x1 = (-9) → zm_Z gX9_layRings post 81 [(0, .ref 21), (1, .int x1), (2, .int x2), (3, .int x3), (4, .int x4)] [.int x1, .ref 21] mem) ∧ (x1 = (-9) → (vp_in x4 4 ∧ zm_Z gX9_layRings post 81 [(0, .ref 21), (1, .int x1), (2, .int x2), (3, .int x3), (4, .int x4)] [.int (mem 27 (Int32.toNatClampNeg x4)), .ref 21] mem)))))) : zm_Z gX9_layRings post 60 [(0, .ref 21), (1, .int x1), (2, .int x2), (3, .int x3), (4, .int x4)] [.int s0, .int s1] mem := by
  refine z_icmp_ge (tgt := 177) dX9_layRings_60 (by decide) (fun h1 => ?_) (fun h1 => ?_)
  ·
    refine z_iinc (v := x3 + 1) (lv' := [(3, .int (x3 + 1)), (0, .ref 21), (1, .int x1), (2, .int x2), (4, .int x4)]) dX9_layRings_177 3 rfl (by rw [zciconst_1]) (by decide) rfl ?_
    refine z_goto (tgt := 33) dX9_layRings_180 (by decide) ?_
    refine z_sub [1, 2, 3, 0] rfl ?_
    exact (kk.1 h1)
  ·
    refine z_aload_n dX9_layRings_63 rfl 0 rfl ?_
    refine z_iload_n dX9_layRings_64 rfl 1 rfl ?_
    refine z_bipush (v := (-9)) dX9_layRings_65 zcbipush_m9 ?_
    refine z_icmp_ne (tgt := 80) dX9_layRings_67 (by decide) (fun h2 => ?_) (fun h2 => ?_)
    ·
      refine z_iload_n dX9_layRings_80 rfl 1 rfl ?_
      exact ((kk.2 h1).1 h2)
    ·
      refine z_aload_n dX9_layRings_70 rfl 0 rfl ?_
      refine z_getr (ci := 9) (j := 9) (r := 27) (T := TX9) rfl rfl hX9 rfl (by decide) fkX9_35 dX9_layRings_71 ?_
      refine z_iload dX9_layRings_74 4 rfl ?_
      refine z_iald (n := 4) rfl ((kk.2 h1).2 h2).1 dX9_layRings_76 ?_
      refine z_goto (tgt := 81) dX9_layRings_77 (by decide) ?_
      exact ((kk.2 h1).2 h2).2
theorem bX9_layRings_81 (x1 : Int32) (x2 : Int32) (x3 : Int32) (x4 : Int32) (s0 : Int32) (mem : zm_Mem) (post : zm_Post) (kk : zm_Call gX9_ledTo [.ref 21, .int s0, .int x3] mem (fun r1 w1 u1 => (vp_in x3 36 ∧ (vp_in r1 36 ∧ (((u1 25 (Int32.toNatClampNeg r1)) ≤ (u1 25 (Int32.toNatClampNeg x3)) → (vp_in r1 36 ∧ zm_Z gX9_layRings post 119 [(0, .ref 21), (1, .int x1), (2, .int x2), (3, .int x3), (4, .int x4), (5, .int r1)] [.int (u1 25 (Int32.toNatClampNeg r1))] u1)) ∧ (¬ (u1 25 (Int32.toNatClampNeg r1)) ≤ (u1 25 (Int32.toNatClampNeg x3)) → (vp_in x3 36 ∧ zm_Z gX9_layRings post 119 [(0, .ref 21), (1, .int x1), (2, .int x2), (3, .int x3), (4, .int x4), (5, .int r1)] [.int (u1 25 (Int32.toNatClampNeg x3))] u1))))))) : zm_Z gX9_layRings post 81 [(0, .ref 21), (1, .int x1), (2, .int x2), (3, .int x3), (4, .int x4)] [.int s0, .ref 21] mem := by
  refine z_iload_n dX9_layRings_81 rfl 3 rfl ?_
  refine z_callVi (g' := gX9_ledTo) [.int s0, .int x3] (q := 21) (ci := 9) (T := TX9) rfl rfl ⟨lkX9_113, pdX9_ledTo, by decide, by decide⟩ ⟨_, rfl, by decide⟩ rfl (Nat.le_of_ble_eq_true rfl) dX9_layRings_82 (zm_Call.mono kk (fun r1 w1 u1 k1 => ?_))
  refine z_istore (lv' := [(5, .int r1), (0, .ref 21), (1, .int x1), (2, .int x2), (3, .int x3), (4, .int x4)]) dX9_layRings_85 (by decide) rfl ?_
  refine z_aload_n dX9_layRings_87 rfl 1 rfl ?_
  refine z_getr (ci := 9) (j := 7) (r := 25) (T := TX9) rfl rfl hX9 rfl (by decide) fkX9_29 dX9_layRings_88 ?_
  refine z_iload_n dX9_layRings_91 rfl 4 rfl ?_
  refine z_iald (n := 36) rfl k1.1 dX9_layRings_92 ?_
  refine z_aload_n dX9_layRings_93 rfl 1 rfl ?_
  refine z_getr (ci := 9) (j := 7) (r := 25) (T := TX9) rfl rfl hX9 rfl (by decide) fkX9_29 dX9_layRings_94 ?_
  refine z_iload dX9_layRings_97 0 rfl ?_
  refine z_iald (n := 36) rfl k1.2.1 dX9_layRings_99 ?_
  refine z_icmp_ge (tgt := 112) dX9_layRings_100 (by decide) (fun h2 => ?_) (fun h2 => ?_)
  ·
    refine z_aload_n dX9_layRings_112 rfl 1 rfl ?_
    refine z_getr (ci := 9) (j := 7) (r := 25) (T := TX9) rfl rfl hX9 rfl (by decide) fkX9_29 dX9_layRings_113 ?_
    refine z_iload dX9_layRings_116 0 rfl ?_
    refine z_iald (n := 36) rfl (k1.2.2.1 h2).1 dX9_layRings_118 ?_
    refine z_sub [1, 2, 3, 4, 5, 0] rfl ?_
    exact (k1.2.2.1 h2).2
  ·
    refine z_aload_n dX9_layRings_103 rfl 1 rfl ?_
    refine z_getr (ci := 9) (j := 7) (r := 25) (T := TX9) rfl rfl hX9 rfl (by decide) fkX9_29 dX9_layRings_104 ?_
    refine z_iload_n dX9_layRings_107 rfl 4 rfl ?_
    refine z_iald (n := 36) rfl (k1.2.2.2 h2).1 dX9_layRings_108 ?_
    refine z_goto (tgt := 119) dX9_layRings_109 (by decide) ?_
    refine z_sub [1, 2, 3, 4, 5, 0] rfl ?_
    exact (k1.2.2.2 h2).2
theorem bX9_layRings_119 (x1 : Int32) (x2 : Int32) (x3 : Int32) (x4 : Int32) (x5 : Int32) (s0 : Int32) (mem : zm_Mem) (post : zm_Post) (kk : ((¬ x2 = 0 → zm_Z gX9_layRings post 153 [(0, .ref 21), (1, .int x1), (3, .int x3), (4, .int x4), (5, .int x5), (6, .int s0)] [.int 1] mem) ∧ (x2 = 0 → (vp_in x3 36 ∧ ((¬ (mem 25 (Int32.toNatClampNeg x3)) = s0 → zm_Z gX9_layRings post 153 [(0, .ref 21), (1, .int x1), (3, .int x3), (4, .int x4), (5, .int x5), (6, .int s0)] [.int 1] mem) ∧ ((mem 25 (Int32.toNatClampNeg x3)) = s0 → (vp_in x5 36 ∧ (((mem 25 (Int32.toNatClampNeg x5)) = s0 → zm_Z gX9_layRings post 153 [(0, .ref 21), (1, .int x1), (3, .int x3), (4, .int x4), (5, .int x5), (6, .int s0)] [.int 0] mem) ∧ (¬ (mem 25 (Int32.toNatClampNeg x5)) = s0 → zm_Z gX9_layRings post 153 [(0, .ref 21), (1, .int x1), (3, .int x3), (4, .int x4), (5, .int x5), (6, .int s0)] [.int 1] mem))))))))) : zm_Z gX9_layRings post 119 [(0, .ref 21), (1, .int x1), (2, .int x2), (3, .int x3), (4, .int x4), (5, .int x5)] [.int s0] mem := by
  refine z_istore (lv' := [(6, .int s0), (0, .ref 21), (1, .int x1), (2, .int x2), (3, .int x3), (4, .int x4), (5, .int x5)]) dX9_layRings_119 (by decide) rfl ?_
  refine z_iload_n dX9_layRings_121 rfl 3 rfl ?_
  refine z_if_ne (tgt := 148) dX9_layRings_122 (by decide) (fun h1 => ?_) (fun h1 => ?_)
  ·
    refine z_iconst (v := 1) dX9_layRings_148 zciconst_1 ?_
    refine z_goto (tgt := 153) dX9_layRings_149 (by decide) ?_
    refine z_sub [1, 2, 4, 5, 6, 0] rfl ?_
    exact (kk.1 h1)
  ·
    refine z_aload_n dX9_layRings_125 rfl 1 rfl ?_
    refine z_getr (ci := 9) (j := 7) (r := 25) (T := TX9) rfl rfl hX9 rfl (by decide) fkX9_29 dX9_layRings_126 ?_
    refine z_iload_n dX9_layRings_129 rfl 4 rfl ?_
    refine z_iald (n := 36) rfl (kk.2 h1).1 dX9_layRings_130 ?_
    refine z_iload dX9_layRings_131 0 rfl ?_
    refine z_icmp_ne (tgt := 148) dX9_layRings_133 (by decide) (fun h2 => ?_) (fun h2 => ?_)
    ·
      refine z_iconst (v := 1) dX9_layRings_148 zciconst_1 ?_
      refine z_goto (tgt := 153) dX9_layRings_149 (by decide) ?_
      refine z_sub [1, 2, 4, 5, 6, 0] rfl ?_
      exact ((kk.2 h1).2.1 h2)
    ·
      refine z_aload_n dX9_layRings_136 rfl 1 rfl ?_
      refine z_getr (ci := 9) (j := 7) (r := 25) (T := TX9) rfl rfl hX9 rfl (by decide) fkX9_29 dX9_layRings_137 ?_
      refine z_iload dX9_layRings_140 6 rfl ?_
      refine z_iald (n := 36) rfl ((kk.2 h1).2.2 h2).1 dX9_layRings_142 ?_
      refine z_iload dX9_layRings_143 0 rfl ?_
      refine z_icmp_eq (tgt := 152) dX9_layRings_145 (by decide) (fun h3 => ?_) (fun h3 => ?_)
      ·
        refine z_iconst (v := 0) dX9_layRings_152 zciconst_0 ?_
        refine z_sub [1, 2, 4, 5, 6, 0] rfl ?_
        exact (((kk.2 h1).2.2 h2).2.1 h3)
      ·
        refine z_iconst (v := 1) dX9_layRings_148 zciconst_1 ?_
        refine z_goto (tgt := 153) dX9_layRings_149 (by decide) ?_
        refine z_sub [1, 2, 4, 5, 6, 0] rfl ?_
        exact (((kk.2 h1).2.2 h2).2.2 h3)
theorem bX9_layRings_153 (x1 : Int32) (x3 : Int32) (x4 : Int32) (x5 : Int32) (x6 : Int32) (s0 : Int32) (mem : zm_Mem) (post : zm_Post) (kk : (vp_in x3 36 ∧ (vp_in x5 36 ∧ zm_Z gX9_layRings post 44 [(0, .ref 21), (1, .int x1), (2, .int s0), (3, .int x3), (4, .int (x4 + 1))] [] (zm_st (zm_st mem 25 (Int32.toNatClampNeg x3) x6) 25 (Int32.toNatClampNeg x5) x6)))) : zm_Z gX9_layRings post 153 [(0, .ref 21), (1, .int x1), (3, .int x3), (4, .int x4), (5, .int x5), (6, .int x6)] [.int s0] mem := by
  refine z_istore_n (lv' := [(2, .int s0), (0, .ref 21), (1, .int x1), (3, .int x3), (4, .int x4), (5, .int x5), (6, .int x6)]) dX9_layRings_153 rfl (by decide) rfl ?_
  refine z_aload_n dX9_layRings_154 rfl 1 rfl ?_
  refine z_getr (ci := 9) (j := 7) (r := 25) (T := TX9) rfl rfl hX9 rfl (by decide) fkX9_29 dX9_layRings_155 ?_
  refine z_iload_n dX9_layRings_158 rfl 3 rfl ?_
  refine z_iload dX9_layRings_159 6 rfl ?_
  refine z_iast (n := 36) rfl kk.1 dX9_layRings_161 ?_
  refine z_aload_n dX9_layRings_162 rfl 1 rfl ?_
  refine z_getr (ci := 9) (j := 7) (r := 25) (T := TX9) rfl rfl hX9 rfl (by decide) fkX9_29 dX9_layRings_163 ?_
  refine z_iload dX9_layRings_166 5 rfl ?_
  refine z_iload dX9_layRings_168 6 rfl ?_
  refine z_iast (n := 36) rfl kk.2.1 dX9_layRings_170 ?_
  refine z_iinc (v := x4 + 1) (lv' := [(4, .int (x4 + 1)), (2, .int s0), (0, .ref 21), (1, .int x1), (3, .int x3), (5, .int x5), (6, .int x6)]) dX9_layRings_171 4 rfl (by rw [zciconst_1]) (by decide) rfl ?_
  refine z_goto (tgt := 44) dX9_layRings_174 (by decide) ?_
  refine z_sub [2, 3, 1, 4, 0] rfl ?_
  exact kk.2.2
theorem bX9_layRings_191 (x3 : Int32) (x4 : Int32) (mem : zm_Mem) (post : zm_Post) (kk : zm_Call gX9_cells [.ref 21] mem (fun r1 w1 u1 => ((r1 ≤ x4 → post x3 0 u1) ∧ (¬ r1 ≤ x4 → (vp_in x4 36 ∧ ((¬ (u1 25 (Int32.toNatClampNeg x4)) = x4 → zm_Z gX9_layRings post 191 [(0, .ref 21), (3, .int (x3 + 0)), (4, .int (x4 + 1))] [] u1) ∧ ((u1 25 (Int32.toNatClampNeg x4)) = x4 → zm_Z gX9_layRings post 191 [(0, .ref 21), (3, .int (x3 + 1)), (4, .int (x4 + 1))] [] u1))))))) : zm_Z gX9_layRings post 191 [(0, .ref 21), (3, .int x3), (4, .int x4)] [] mem := by
  refine z_iload dX9_layRings_191 2 rfl ?_
  refine z_aload_n dX9_layRings_193 rfl 0 rfl ?_
  refine z_callVi (g' := gX9_cells) [] (q := 21) (ci := 9) (T := TX9) rfl rfl ⟨lkX9_72, pdX9_cells, by decide, by decide⟩ ⟨_, rfl, by decide⟩ rfl (Nat.le_of_ble_eq_true rfl) dX9_layRings_194 (zm_Call.mono kk (fun r1 w1 u1 k1 => ?_))
  refine z_icmp_ge (tgt := 226) dX9_layRings_197 (by decide) (fun h2 => ?_) (fun h2 => ?_)
  ·
    refine z_iload_n dX9_layRings_226 rfl 1 rfl ?_
    exact z_iret rfl dX9_layRings_227 (k1.1 h2)
  ·
    refine z_iload_n dX9_layRings_200 rfl 1 rfl ?_
    refine z_aload_n dX9_layRings_201 rfl 0 rfl ?_
    refine z_getr (ci := 9) (j := 7) (r := 25) (T := TX9) rfl rfl hX9 rfl (by decide) fkX9_29 dX9_layRings_202 ?_
    refine z_iload dX9_layRings_205 2 rfl ?_
    refine z_iald (n := 36) rfl (k1.2 h2).1 dX9_layRings_207 ?_
    refine z_iload dX9_layRings_208 2 rfl ?_
    refine z_icmp_ne (tgt := 217) dX9_layRings_210 (by decide) (fun h3 => ?_) (fun h3 => ?_)
    ·
      refine z_iconst (v := 0) dX9_layRings_217 zciconst_0 ?_
      refine z_iadd dX9_layRings_218 ?_
      refine z_istore_n (lv' := [(3, .int (x3 + 0)), (0, .ref 21), (4, .int x4)]) dX9_layRings_219 rfl (by decide) rfl ?_
      refine z_iinc (v := x4 + 1) (lv' := [(4, .int (x4 + 1)), (3, .int (x3 + 0)), (0, .ref 21)]) dX9_layRings_220 2 rfl (by rw [zciconst_1]) (by decide) rfl ?_
      refine z_goto (tgt := 191) dX9_layRings_223 (by decide) ?_
      refine z_sub [2, 1, 0] rfl ?_
      exact ((k1.2 h2).2.1 h3)
    ·
      refine z_iconst (v := 1) dX9_layRings_213 zciconst_1 ?_
      refine z_goto (tgt := 218) dX9_layRings_214 (by decide) ?_
      refine z_iadd dX9_layRings_218 ?_
      refine z_istore_n (lv' := [(3, .int (x3 + 1)), (0, .ref 21), (4, .int x4)]) dX9_layRings_219 rfl (by decide) rfl ?_
      refine z_iinc (v := x4 + 1) (lv' := [(4, .int (x4 + 1)), (3, .int (x3 + 1)), (0, .ref 21)]) dX9_layRings_220 2 rfl (by rw [zciconst_1]) (by decide) rfl ?_
      refine z_goto (tgt := 191) dX9_layRings_223 (by decide) ?_
      refine z_sub [2, 1, 0] rfl ?_
      exact ((k1.2 h2).2.2 h3)
theorem dX9_rings_0 : decode cX9_rings 0 = .ok (.aload_n 0, 1) := by decide +kernel
theorem dX9_rings_1 : decode cX9_rings 1 = .ok (.iconst 0, 1) := by decide +kernel
theorem dX9_rings_2 : decode cX9_rings 2 = .ok (.putfield 69, 3) := by decide +kernel
theorem dX9_rings_5 : decode cX9_rings 5 = .ok (.aload_n 0, 1) := by decide +kernel
theorem dX9_rings_6 : decode cX9_rings 6 = .ok (.bipush (-9), 2) := by decide +kernel
theorem dX9_rings_8 : decode cX9_rings 8 = .ok (.invokevirtual 164, 3) := by decide +kernel
theorem dX9_rings_11 : decode cX9_rings 11 = .ok (.ireturn, 1) := by decide +kernel
theorem bX9_rings_0 (mem : zm_Mem) (post : zm_Post) (kk : zm_Call gX9_layRings [.ref 21, .int (-9)] (zm_st mem 21 0 0) (fun r1 w1 u1 => post r1 0 u1)) : zm_Call gX9_rings [.ref 21] mem post := by
  refine z_entry (by decide) (Nat.le_of_ble_eq_true rfl) ?_
  show zm_Z gX9_rings post 0 [(0, .ref 21)] [] mem
  refine z_aload_n dX9_rings_0 rfl 0 rfl ?_
  refine z_iconst (v := 0) dX9_rings_1 zciconst_0 ?_
  refine z_put (ci := 9) (j := 0) (T := TX9) (ty0 := tyX9) rfl rfl hX9 tyX9_ok nmX9 rfl (by decide) fkX9_69 rfl rfl rfl dX9_rings_2 ?_
  refine z_aload_n dX9_rings_5 rfl 0 rfl ?_
  refine z_bipush (v := (-9)) dX9_rings_6 zcbipush_m9 ?_
  refine z_callVi (g' := gX9_layRings) [.int (-9)] (q := 21) (ci := 9) (T := TX9) rfl rfl ⟨lkX9_164, pdX9_layRings, by decide, by decide⟩ ⟨_, rfl, by decide⟩ rfl (Nat.le_of_ble_eq_true rfl) dX9_rings_8 (zm_Call.mono kk (fun r1 w1 u1 k1 => ?_))
  exact z_iret rfl dX9_rings_11 k1
theorem dX9_ring_0 : decode cX9_ring 0 = .ok (.aload_n 0, 1) := by decide +kernel
theorem dX9_ring_1 : decode cX9_ring 1 = .ok (.iconst 0, 1) := by decide +kernel
theorem dX9_ring_2 : decode cX9_ring 2 = .ok (.putfield 69, 3) := by decide +kernel
theorem dX9_ring_5 : decode cX9_ring 5 = .ok (.aload_n 0, 1) := by decide +kernel
theorem dX9_ring_6 : decode cX9_ring 6 = .ok (.iload_n 1, 1) := by decide +kernel
theorem dX9_ring_7 : decode cX9_ring 7 = .ok (.invokevirtual 102, 3) := by decide +kernel
theorem dX9_ring_10 : decode cX9_ring 10 = .ok (.ifCond .eq 5, 3) := by decide +kernel
theorem dX9_ring_13 : decode cX9_ring 13 = .ok (.iconst (-1), 1) := by decide +kernel
theorem dX9_ring_14 : decode cX9_ring 14 = .ok (.ireturn, 1) := by decide +kernel
theorem dX9_ring_15 : decode cX9_ring 15 = .ok (.aload_n 0, 1) := by decide +kernel
theorem dX9_ring_16 : decode cX9_ring 16 = .ok (.bipush (-9), 2) := by decide +kernel
theorem dX9_ring_18 : decode cX9_ring 18 = .ok (.invokevirtual 164, 3) := by decide +kernel
theorem dX9_ring_21 : decode cX9_ring 21 = .ok (.pop, 1) := by decide +kernel
theorem dX9_ring_22 : decode cX9_ring 22 = .ok (.aload_n 0, 1) := by decide +kernel
theorem dX9_ring_23 : decode cX9_ring 23 = .ok (.getfield 29, 3) := by decide +kernel
theorem dX9_ring_26 : decode cX9_ring 26 = .ok (.iload_n 1, 1) := by decide +kernel
theorem dX9_ring_27 : decode cX9_ring 27 = .ok (.iaload, 1) := by decide +kernel
theorem dX9_ring_28 : decode cX9_ring 28 = .ok (.ireturn, 1) := by decide +kernel
theorem bX9_ring_0 (x1 : Int32) (mem : zm_Mem) (post : zm_Post) (kk : zm_Call gX9_noCell [.ref 21, .int x1] (zm_st mem 21 0 0) (fun r1 w1 u1 => ((r1 = 0 → zm_Call gX9_layRings [.ref 21, .int (-9)] u1 (fun r3 w3 u3 => (vp_in x1 36 ∧ post (u3 25 (Int32.toNatClampNeg x1)) 0 u3))) ∧ (¬ r1 = 0 → post (-1) 0 u1)))) : zm_Call gX9_ring [.ref 21, .int x1] mem post := by
  refine z_entry (by decide) (Nat.le_of_ble_eq_true rfl) ?_
  show zm_Z gX9_ring post 0 [(0, .ref 21), (1, .int x1)] [] mem
  refine z_aload_n dX9_ring_0 rfl 0 rfl ?_
  refine z_iconst (v := 0) dX9_ring_1 zciconst_0 ?_
  refine z_put (ci := 9) (j := 0) (T := TX9) (ty0 := tyX9) rfl rfl hX9 tyX9_ok nmX9 rfl (by decide) fkX9_69 rfl rfl rfl dX9_ring_2 ?_
  refine z_aload_n dX9_ring_5 rfl 0 rfl ?_
  refine z_iload_n dX9_ring_6 rfl 1 rfl ?_
  refine z_callVi (g' := gX9_noCell) [.int x1] (q := 21) (ci := 9) (T := TX9) rfl rfl ⟨lkX9_102, pdX9_noCell, by decide, by decide⟩ ⟨_, rfl, by decide⟩ rfl (Nat.le_of_ble_eq_true rfl) dX9_ring_7 (zm_Call.mono kk (fun r1 w1 u1 k1 => ?_))
  refine z_if_eq (tgt := 15) dX9_ring_10 (by decide) (fun h2 => ?_) (fun h2 => ?_)
  ·
    refine z_aload_n dX9_ring_15 rfl 0 rfl ?_
    refine z_bipush (v := (-9)) dX9_ring_16 zcbipush_m9 ?_
    refine z_callVi (g' := gX9_layRings) [.int (-9)] (q := 21) (ci := 9) (T := TX9) rfl rfl ⟨lkX9_164, pdX9_layRings, by decide, by decide⟩ ⟨_, rfl, by decide⟩ rfl (Nat.le_of_ble_eq_true rfl) dX9_ring_18 (zm_Call.mono (k1.1 h2) (fun r3 w3 u3 k3 => ?_))
    refine z_popi dX9_ring_21 ?_
    refine z_aload_n dX9_ring_22 rfl 0 rfl ?_
    refine z_getr (ci := 9) (j := 7) (r := 25) (T := TX9) rfl rfl hX9 rfl (by decide) fkX9_29 dX9_ring_23 ?_
    refine z_iload_n dX9_ring_26 rfl 1 rfl ?_
    refine z_iald (n := 36) rfl k3.1 dX9_ring_27 ?_
    exact z_iret rfl dX9_ring_28 k3.2
  ·
    refine z_iconst (v := (-1)) dX9_ring_13 zciconst_m1 ?_
    exact z_iret rfl dX9_ring_14 (k1.2 h2)
theorem dX9_reckon_0 : decode cX9_reckon 0 = .ok (.iconst 0, 1) := by decide +kernel
theorem dX9_reckon_1 : decode cX9_reckon 1 = .ok (.istore_n 2, 1) := by decide +kernel
theorem dX9_reckon_2 : decode cX9_reckon 2 = .ok (.iload_n 2, 1) := by decide +kernel
theorem dX9_reckon_3 : decode cX9_reckon 3 = .ok (.iconst 4, 1) := by decide +kernel
theorem dX9_reckon_4 : decode cX9_reckon 4 = .ok (.if_icmp .ge 16, 3) := by decide +kernel
theorem dX9_reckon_7 : decode cX9_reckon 7 = .ok (.aload_n 0, 1) := by decide +kernel
theorem dX9_reckon_8 : decode cX9_reckon 8 = .ok (.getfield 32, 3) := by decide +kernel
theorem dX9_reckon_11 : decode cX9_reckon 11 = .ok (.iload_n 2, 1) := by decide +kernel
theorem dX9_reckon_12 : decode cX9_reckon 12 = .ok (.iconst 0, 1) := by decide +kernel
theorem dX9_reckon_13 : decode cX9_reckon 13 = .ok (.iastore, 1) := by decide +kernel
theorem dX9_reckon_14 : decode cX9_reckon 14 = .ok (.iinc 2 1, 3) := by decide +kernel
theorem dX9_reckon_17 : decode cX9_reckon 17 = .ok (.goto (-15), 3) := by decide +kernel
theorem dX9_reckon_20 : decode cX9_reckon 20 = .ok (.iconst 0, 1) := by decide +kernel
theorem dX9_reckon_21 : decode cX9_reckon 21 = .ok (.istore_n 2, 1) := by decide +kernel
theorem dX9_reckon_22 : decode cX9_reckon 22 = .ok (.iload_n 2, 1) := by decide +kernel
theorem dX9_reckon_23 : decode cX9_reckon 23 = .ok (.aload_n 0, 1) := by decide +kernel
theorem dX9_reckon_24 : decode cX9_reckon 24 = .ok (.invokevirtual 72, 3) := by decide +kernel
theorem dX9_reckon_27 : decode cX9_reckon 27 = .ok (.if_icmp .ge 45, 3) := by decide +kernel
theorem dX9_reckon_30 : decode cX9_reckon 30 = .ok (.aload_n 0, 1) := by decide +kernel
theorem dX9_reckon_31 : decode cX9_reckon 31 = .ok (.getfield 29, 3) := by decide +kernel
theorem dX9_reckon_34 : decode cX9_reckon 34 = .ok (.iload_n 2, 1) := by decide +kernel
theorem dX9_reckon_35 : decode cX9_reckon 35 = .ok (.iaload, 1) := by decide +kernel
theorem dX9_reckon_36 : decode cX9_reckon 36 = .ok (.iload_n 1, 1) := by decide +kernel
theorem dX9_reckon_37 : decode cX9_reckon 37 = .ok (.if_icmp .ne 29, 3) := by decide +kernel
theorem dX9_reckon_40 : decode cX9_reckon 40 = .ok (.aload_n 0, 1) := by decide +kernel
theorem dX9_reckon_41 : decode cX9_reckon 41 = .ok (.getfield 19, 3) := by decide +kernel
theorem dX9_reckon_44 : decode cX9_reckon 44 = .ok (.iload_n 2, 1) := by decide +kernel
theorem dX9_reckon_45 : decode cX9_reckon 45 = .ok (.iaload, 1) := by decide +kernel
theorem dX9_reckon_46 : decode cX9_reckon 46 = .ok (.bipush 9, 2) := by decide +kernel
theorem dX9_reckon_48 : decode cX9_reckon 48 = .ok (.if_icmp .eq 18, 3) := by decide +kernel
theorem dX9_reckon_51 : decode cX9_reckon 51 = .ok (.aload_n 0, 1) := by decide +kernel
theorem dX9_reckon_52 : decode cX9_reckon 52 = .ok (.getfield 32, 3) := by decide +kernel
theorem dX9_reckon_55 : decode cX9_reckon 55 = .ok (.aload_n 0, 1) := by decide +kernel
theorem dX9_reckon_56 : decode cX9_reckon 56 = .ok (.getfield 19, 3) := by decide +kernel
theorem dX9_reckon_59 : decode cX9_reckon 59 = .ok (.iload_n 2, 1) := by decide +kernel
theorem dX9_reckon_60 : decode cX9_reckon 60 = .ok (.iaload, 1) := by decide +kernel
theorem dX9_reckon_61 : decode cX9_reckon 61 = .ok (.dup2, 1) := by decide +kernel
theorem dX9_reckon_62 : decode cX9_reckon 62 = .ok (.iaload, 1) := by decide +kernel
theorem dX9_reckon_63 : decode cX9_reckon 63 = .ok (.iconst 1, 1) := by decide +kernel
theorem dX9_reckon_64 : decode cX9_reckon 64 = .ok (.iadd, 1) := by decide +kernel
theorem dX9_reckon_65 : decode cX9_reckon 65 = .ok (.iastore, 1) := by decide +kernel
theorem dX9_reckon_66 : decode cX9_reckon 66 = .ok (.iinc 2 1, 3) := by decide +kernel
theorem dX9_reckon_69 : decode cX9_reckon 69 = .ok (.goto (-47), 3) := by decide +kernel
theorem dX9_reckon_72 : decode cX9_reckon 72 = .ok (.iconst 0, 1) := by decide +kernel
theorem dX9_reckon_73 : decode cX9_reckon 73 = .ok (.istore_n 2, 1) := by decide +kernel
theorem dX9_reckon_74 : decode cX9_reckon 74 = .ok (.iconst 0, 1) := by decide +kernel
theorem dX9_reckon_75 : decode cX9_reckon 75 = .ok (.istore_n 3, 1) := by decide +kernel
theorem dX9_reckon_76 : decode cX9_reckon 76 = .ok (.iload_n 3, 1) := by decide +kernel
theorem dX9_reckon_77 : decode cX9_reckon 77 = .ok (.iconst 4, 1) := by decide +kernel
theorem dX9_reckon_78 : decode cX9_reckon 78 = .ok (.if_icmp .ge 26, 3) := by decide +kernel
theorem dX9_reckon_81 : decode cX9_reckon 81 = .ok (.iload_n 2, 1) := by decide +kernel
theorem dX9_reckon_82 : decode cX9_reckon 82 = .ok (.aload_n 0, 1) := by decide +kernel
theorem dX9_reckon_83 : decode cX9_reckon 83 = .ok (.getfield 32, 3) := by decide +kernel
theorem dX9_reckon_86 : decode cX9_reckon 86 = .ok (.iload_n 3, 1) := by decide +kernel
theorem dX9_reckon_87 : decode cX9_reckon 87 = .ok (.iaload, 1) := by decide +kernel
theorem dX9_reckon_88 : decode cX9_reckon 88 = .ok (.ifCond .le 7, 3) := by decide +kernel
theorem dX9_reckon_91 : decode cX9_reckon 91 = .ok (.iconst 1, 1) := by decide +kernel
theorem dX9_reckon_92 : decode cX9_reckon 92 = .ok (.goto 4, 3) := by decide +kernel
theorem dX9_reckon_95 : decode cX9_reckon 95 = .ok (.iconst 0, 1) := by decide +kernel
theorem dX9_reckon_96 : decode cX9_reckon 96 = .ok (.iadd, 1) := by decide +kernel
theorem dX9_reckon_97 : decode cX9_reckon 97 = .ok (.istore_n 2, 1) := by decide +kernel
theorem dX9_reckon_98 : decode cX9_reckon 98 = .ok (.iinc 3 1, 3) := by decide +kernel
theorem dX9_reckon_101 : decode cX9_reckon 101 = .ok (.goto (-25), 3) := by decide +kernel
theorem dX9_reckon_104 : decode cX9_reckon 104 = .ok (.iload_n 2, 1) := by decide +kernel
theorem dX9_reckon_105 : decode cX9_reckon 105 = .ok (.ireturn, 1) := by decide +kernel
theorem bX9_reckon_0 (x1 : Int32) (mem : zm_Mem) (post : zm_Post) (kk : zm_Z gX9_reckon post 2 [(0, .ref 21), (1, .int x1), (2, .int 0)] [] mem) : zm_Call gX9_reckon [.ref 21, .int x1] mem post := by
  refine z_entry (by decide) (Nat.le_of_ble_eq_true rfl) ?_
  show zm_Z gX9_reckon post 0 [(0, .ref 21), (1, .int x1)] [] mem
  refine z_iconst (v := 0) dX9_reckon_0 zciconst_0 ?_
  refine z_istore_n (lv' := [(2, .int 0), (0, .ref 21), (1, .int x1)]) dX9_reckon_1 rfl (by decide) rfl ?_
  refine z_sub [1, 2, 0] rfl ?_
  exact kk
theorem bX9_reckon_2 (x1 : Int32) (x2 : Int32) (mem : zm_Mem) (post : zm_Post) (kk : ((4 ≤ x2 → zm_Z gX9_reckon post 22 [(0, .ref 21), (1, .int x1), (2, .int 0)] [] mem) ∧ (¬ 4 ≤ x2 → (vp_in x2 4 ∧ zm_Z gX9_reckon post 2 [(0, .ref 21), (1, .int x1), (2, .int (x2 + 1))] [] (zm_st mem 26 (Int32.toNatClampNeg x2) 0))))) : zm_Z gX9_reckon post 2 [(0, .ref 21), (1, .int x1), (2, .int x2)] [] mem := by
  refine z_iload_n dX9_reckon_2 rfl 2 rfl ?_
  refine z_iconst (v := 4) dX9_reckon_3 zciconst_4 ?_
  refine z_icmp_ge (tgt := 20) dX9_reckon_4 (by decide) (fun h1 => ?_) (fun h1 => ?_)
  ·
    refine z_iconst (v := 0) dX9_reckon_20 zciconst_0 ?_
    refine z_istore_n (lv' := [(2, .int 0), (0, .ref 21), (1, .int x1)]) dX9_reckon_21 rfl (by decide) rfl ?_
    refine z_sub [1, 2, 0] rfl ?_
    exact (kk.1 h1)
  ·
    refine z_aload_n dX9_reckon_7 rfl 0 rfl ?_
    refine z_getr (ci := 9) (j := 8) (r := 26) (T := TX9) rfl rfl hX9 rfl (by decide) fkX9_32 dX9_reckon_8 ?_
    refine z_iload_n dX9_reckon_11 rfl 2 rfl ?_
    refine z_iconst (v := 0) dX9_reckon_12 zciconst_0 ?_
    refine z_iast (n := 4) rfl (kk.2 h1).1 dX9_reckon_13 ?_
    refine z_iinc (v := x2 + 1) (lv' := [(2, .int (x2 + 1)), (0, .ref 21), (1, .int x1)]) dX9_reckon_14 2 rfl (by rw [zciconst_1]) (by decide) rfl ?_
    refine z_goto (tgt := 2) dX9_reckon_17 (by decide) ?_
    refine z_sub [1, 2, 0] rfl ?_
    exact (kk.2 h1).2
theorem bX9_reckon_22 (x1 : Int32) (x2 : Int32) (mem : zm_Mem) (post : zm_Post) (kk : zm_Call gX9_cells [.ref 21] mem (fun r1 w1 u1 => ((r1 ≤ x2 → zm_Z gX9_reckon post 76 [(0, .ref 21), (2, .int 0), (3, .int 0)] [] u1) ∧ (¬ r1 ≤ x2 → (vp_in x2 36 ∧ ((¬ (u1 25 (Int32.toNatClampNeg x2)) = x1 → zm_Z gX9_reckon post 22 [(0, .ref 21), (1, .int x1), (2, .int (x2 + 1))] [] u1) ∧ ((u1 25 (Int32.toNatClampNeg x2)) = x1 → (vp_in x2 36 ∧ (((u1 22 (Int32.toNatClampNeg x2)) = 9 → zm_Z gX9_reckon post 22 [(0, .ref 21), (1, .int x1), (2, .int (x2 + 1))] [] u1) ∧ (¬ (u1 22 (Int32.toNatClampNeg x2)) = 9 → (vp_in x2 36 ∧ (vp_in (u1 22 (Int32.toNatClampNeg x2)) 4 ∧ (vp_in (u1 22 (Int32.toNatClampNeg x2)) 4 ∧ zm_Z gX9_reckon post 22 [(0, .ref 21), (1, .int x1), (2, .int (x2 + 1))] [] (zm_st u1 26 (Int32.toNatClampNeg (u1 22 (Int32.toNatClampNeg x2))) ((u1 26 (Int32.toNatClampNeg (u1 22 (Int32.toNatClampNeg x2)))) + 1))))))))))))))) : zm_Z gX9_reckon post 22 [(0, .ref 21), (1, .int x1), (2, .int x2)] [] mem := by
  refine z_iload_n dX9_reckon_22 rfl 2 rfl ?_
  refine z_aload_n dX9_reckon_23 rfl 0 rfl ?_
  refine z_callVi (g' := gX9_cells) [] (q := 21) (ci := 9) (T := TX9) rfl rfl ⟨lkX9_72, pdX9_cells, by decide, by decide⟩ ⟨_, rfl, by decide⟩ rfl (Nat.le_of_ble_eq_true rfl) dX9_reckon_24 (zm_Call.mono kk (fun r1 w1 u1 k1 => ?_))
  refine z_icmp_ge (tgt := 72) dX9_reckon_27 (by decide) (fun h2 => ?_) (fun h2 => ?_)
  ·
    refine z_iconst (v := 0) dX9_reckon_72 zciconst_0 ?_
    refine z_istore_n (lv' := [(2, .int 0), (0, .ref 21), (1, .int x1)]) dX9_reckon_73 rfl (by decide) rfl ?_
    refine z_iconst (v := 0) dX9_reckon_74 zciconst_0 ?_
    refine z_istore_n (lv' := [(3, .int 0), (2, .int 0), (0, .ref 21), (1, .int x1)]) dX9_reckon_75 rfl (by decide) rfl ?_
    refine z_sub [2, 1, 0] rfl ?_
    exact (k1.1 h2)
  ·
    refine z_aload_n dX9_reckon_30 rfl 0 rfl ?_
    refine z_getr (ci := 9) (j := 7) (r := 25) (T := TX9) rfl rfl hX9 rfl (by decide) fkX9_29 dX9_reckon_31 ?_
    refine z_iload_n dX9_reckon_34 rfl 2 rfl ?_
    refine z_iald (n := 36) rfl (k1.2 h2).1 dX9_reckon_35 ?_
    refine z_iload_n dX9_reckon_36 rfl 1 rfl ?_
    refine z_icmp_ne (tgt := 66) dX9_reckon_37 (by decide) (fun h3 => ?_) (fun h3 => ?_)
    ·
      refine z_iinc (v := x2 + 1) (lv' := [(2, .int (x2 + 1)), (0, .ref 21), (1, .int x1)]) dX9_reckon_66 2 rfl (by rw [zciconst_1]) (by decide) rfl ?_
      refine z_goto (tgt := 22) dX9_reckon_69 (by decide) ?_
      refine z_sub [1, 2, 0] rfl ?_
      exact ((k1.2 h2).2.1 h3)
    ·
      refine z_aload_n dX9_reckon_40 rfl 0 rfl ?_
      refine z_getr (ci := 9) (j := 4) (r := 22) (T := TX9) rfl rfl hX9 rfl (by decide) fkX9_19 dX9_reckon_41 ?_
      refine z_iload_n dX9_reckon_44 rfl 2 rfl ?_
      refine z_iald (n := 36) rfl ((k1.2 h2).2.2 h3).1 dX9_reckon_45 ?_
      refine z_bipush (v := 9) dX9_reckon_46 zcbipush_9 ?_
      refine z_icmp_eq (tgt := 66) dX9_reckon_48 (by decide) (fun h4 => ?_) (fun h4 => ?_)
      ·
        refine z_iinc (v := x2 + 1) (lv' := [(2, .int (x2 + 1)), (0, .ref 21), (1, .int x1)]) dX9_reckon_66 2 rfl (by rw [zciconst_1]) (by decide) rfl ?_
        refine z_goto (tgt := 22) dX9_reckon_69 (by decide) ?_
        refine z_sub [1, 2, 0] rfl ?_
        exact (((k1.2 h2).2.2 h3).2.1 h4)
      ·
        refine z_aload_n dX9_reckon_51 rfl 0 rfl ?_
        refine z_getr (ci := 9) (j := 8) (r := 26) (T := TX9) rfl rfl hX9 rfl (by decide) fkX9_32 dX9_reckon_52 ?_
        refine z_aload_n dX9_reckon_55 rfl 0 rfl ?_
        refine z_getr (ci := 9) (j := 4) (r := 22) (T := TX9) rfl rfl hX9 rfl (by decide) fkX9_19 dX9_reckon_56 ?_
        refine z_iload_n dX9_reckon_59 rfl 2 rfl ?_
        refine z_iald (n := 36) rfl (((k1.2 h2).2.2 h3).2.2 h4).1 dX9_reckon_60 ?_
        refine z_dup2 dX9_reckon_61 ?_
        refine z_iald (n := 4) rfl (((k1.2 h2).2.2 h3).2.2 h4).2.1 dX9_reckon_62 ?_
        refine z_iconst (v := 1) dX9_reckon_63 zciconst_1 ?_
        refine z_iadd dX9_reckon_64 ?_
        refine z_iast (n := 4) rfl (((k1.2 h2).2.2 h3).2.2 h4).2.2.1 dX9_reckon_65 ?_
        refine z_iinc (v := x2 + 1) (lv' := [(2, .int (x2 + 1)), (0, .ref 21), (1, .int x1)]) dX9_reckon_66 2 rfl (by rw [zciconst_1]) (by decide) rfl ?_
        refine z_goto (tgt := 22) dX9_reckon_69 (by decide) ?_
        refine z_sub [1, 2, 0] rfl ?_
        exact (((k1.2 h2).2.2 h3).2.2 h4).2.2.2
theorem bX9_reckon_76 (x2 : Int32) (x3 : Int32) (mem : zm_Mem) (post : zm_Post) (kk : ((4 ≤ x3 → post x2 0 mem) ∧ (¬ 4 ≤ x3 → (vp_in x3 4 ∧ (((mem 26 (Int32.toNatClampNeg x3)) ≤ 0 → zm_Z gX9_reckon post 76 [(0, .ref 21), (2, .int (x2 + 0)), (3, .int (x3 + 1))] [] mem) ∧ (¬ (mem 26 (Int32.toNatClampNeg x3)) ≤ 0 → zm_Z gX9_reckon post 76 [(0, .ref 21), (2, .int (x2 + 1)), (3, .int (x3 + 1))] [] mem)))))) : zm_Z gX9_reckon post 76 [(0, .ref 21), (2, .int x2), (3, .int x3)] [] mem := by
  refine z_iload_n dX9_reckon_76 rfl 2 rfl ?_
  refine z_iconst (v := 4) dX9_reckon_77 zciconst_4 ?_
  refine z_icmp_ge (tgt := 104) dX9_reckon_78 (by decide) (fun h1 => ?_) (fun h1 => ?_)
  ·
    refine z_iload_n dX9_reckon_104 rfl 1 rfl ?_
    exact z_iret rfl dX9_reckon_105 (kk.1 h1)
  ·
    refine z_iload_n dX9_reckon_81 rfl 1 rfl ?_
    refine z_aload_n dX9_reckon_82 rfl 0 rfl ?_
    refine z_getr (ci := 9) (j := 8) (r := 26) (T := TX9) rfl rfl hX9 rfl (by decide) fkX9_32 dX9_reckon_83 ?_
    refine z_iload_n dX9_reckon_86 rfl 2 rfl ?_
    refine z_iald (n := 4) rfl (kk.2 h1).1 dX9_reckon_87 ?_
    refine z_if_le (tgt := 95) dX9_reckon_88 (by decide) (fun h2 => ?_) (fun h2 => ?_)
    ·
      refine z_iconst (v := 0) dX9_reckon_95 zciconst_0 ?_
      refine z_iadd dX9_reckon_96 ?_
      refine z_istore_n (lv' := [(2, .int (x2 + 0)), (0, .ref 21), (3, .int x3)]) dX9_reckon_97 rfl (by decide) rfl ?_
      refine z_iinc (v := x3 + 1) (lv' := [(3, .int (x3 + 1)), (2, .int (x2 + 0)), (0, .ref 21)]) dX9_reckon_98 2 rfl (by rw [zciconst_1]) (by decide) rfl ?_
      refine z_goto (tgt := 76) dX9_reckon_101 (by decide) ?_
      refine z_sub [2, 1, 0] rfl ?_
      exact ((kk.2 h1).2.1 h2)
    ·
      refine z_iconst (v := 1) dX9_reckon_91 zciconst_1 ?_
      refine z_goto (tgt := 96) dX9_reckon_92 (by decide) ?_
      refine z_iadd dX9_reckon_96 ?_
      refine z_istore_n (lv' := [(2, .int (x2 + 1)), (0, .ref 21), (3, .int x3)]) dX9_reckon_97 rfl (by decide) rfl ?_
      refine z_iinc (v := x3 + 1) (lv' := [(3, .int (x3 + 1)), (2, .int (x2 + 1)), (0, .ref 21)]) dX9_reckon_98 2 rfl (by rw [zciconst_1]) (by decide) rfl ?_
      refine z_goto (tgt := 76) dX9_reckon_101 (by decide) ?_
      refine z_sub [2, 1, 0] rfl ?_
      exact ((kk.2 h1).2.2 h2)
theorem dX9_mostOf_0 : decode cX9_mostOf 0 = .ok (.aload_n 0, 1) := by decide +kernel
theorem dX9_mostOf_1 : decode cX9_mostOf 1 = .ok (.iload_n 1, 1) := by decide +kernel
theorem dX9_mostOf_2 : decode cX9_mostOf 2 = .ok (.invokevirtual 167, 3) := by decide +kernel
theorem dX9_mostOf_5 : decode cX9_mostOf 5 = .ok (.ifCond .ne 6, 3) := by decide +kernel
theorem dX9_mostOf_8 : decode cX9_mostOf 8 = .ok (.bipush 9, 2) := by decide +kernel
theorem dX9_mostOf_10 : decode cX9_mostOf 10 = .ok (.ireturn, 1) := by decide +kernel
theorem dX9_mostOf_11 : decode cX9_mostOf 11 = .ok (.iconst 0, 1) := by decide +kernel
theorem dX9_mostOf_12 : decode cX9_mostOf 12 = .ok (.istore_n 2, 1) := by decide +kernel
theorem dX9_mostOf_13 : decode cX9_mostOf 13 = .ok (.iconst 1, 1) := by decide +kernel
theorem dX9_mostOf_14 : decode cX9_mostOf 14 = .ok (.istore_n 3, 1) := by decide +kernel
theorem dX9_mostOf_15 : decode cX9_mostOf 15 = .ok (.iload_n 3, 1) := by decide +kernel
theorem dX9_mostOf_16 : decode cX9_mostOf 16 = .ok (.iconst 4, 1) := by decide +kernel
theorem dX9_mostOf_17 : decode cX9_mostOf 17 = .ok (.if_icmp .ge 30, 3) := by decide +kernel
theorem dX9_mostOf_20 : decode cX9_mostOf 20 = .ok (.aload_n 0, 1) := by decide +kernel
theorem dX9_mostOf_21 : decode cX9_mostOf 21 = .ok (.getfield 32, 3) := by decide +kernel
theorem dX9_mostOf_24 : decode cX9_mostOf 24 = .ok (.iload_n 3, 1) := by decide +kernel
theorem dX9_mostOf_25 : decode cX9_mostOf 25 = .ok (.iaload, 1) := by decide +kernel
theorem dX9_mostOf_26 : decode cX9_mostOf 26 = .ok (.aload_n 0, 1) := by decide +kernel
theorem dX9_mostOf_27 : decode cX9_mostOf 27 = .ok (.getfield 32, 3) := by decide +kernel
theorem dX9_mostOf_30 : decode cX9_mostOf 30 = .ok (.iload_n 2, 1) := by decide +kernel
theorem dX9_mostOf_31 : decode cX9_mostOf 31 = .ok (.iaload, 1) := by decide +kernel
theorem dX9_mostOf_32 : decode cX9_mostOf 32 = .ok (.if_icmp .le 7, 3) := by decide +kernel
theorem dX9_mostOf_35 : decode cX9_mostOf 35 = .ok (.iload_n 3, 1) := by decide +kernel
theorem dX9_mostOf_36 : decode cX9_mostOf 36 = .ok (.goto 4, 3) := by decide +kernel
theorem dX9_mostOf_39 : decode cX9_mostOf 39 = .ok (.iload_n 2, 1) := by decide +kernel
theorem dX9_mostOf_40 : decode cX9_mostOf 40 = .ok (.istore_n 2, 1) := by decide +kernel
theorem dX9_mostOf_41 : decode cX9_mostOf 41 = .ok (.iinc 3 1, 3) := by decide +kernel
theorem dX9_mostOf_44 : decode cX9_mostOf 44 = .ok (.goto (-29), 3) := by decide +kernel
theorem dX9_mostOf_47 : decode cX9_mostOf 47 = .ok (.iload_n 2, 1) := by decide +kernel
theorem dX9_mostOf_48 : decode cX9_mostOf 48 = .ok (.ireturn, 1) := by decide +kernel
theorem bX9_mostOf_0 (x1 : Int32) (mem : zm_Mem) (post : zm_Post) (kk : zm_Call gX9_reckon [.ref 21, .int x1] mem (fun r1 w1 u1 => ((¬ r1 = 0 → zm_Z gX9_mostOf post 15 [(0, .ref 21), (2, .int 0), (3, .int 1)] [] u1) ∧ (r1 = 0 → post 9 0 u1)))) : zm_Call gX9_mostOf [.ref 21, .int x1] mem post := by
  refine z_entry (by decide) (Nat.le_of_ble_eq_true rfl) ?_
  show zm_Z gX9_mostOf post 0 [(0, .ref 21), (1, .int x1)] [] mem
  refine z_aload_n dX9_mostOf_0 rfl 0 rfl ?_
  refine z_iload_n dX9_mostOf_1 rfl 1 rfl ?_
  refine z_callVi (g' := gX9_reckon) [.int x1] (q := 21) (ci := 9) (T := TX9) rfl rfl ⟨lkX9_167, pdX9_reckon, by decide, by decide⟩ ⟨_, rfl, by decide⟩ rfl (Nat.le_of_ble_eq_true rfl) dX9_mostOf_2 (zm_Call.mono kk (fun r1 w1 u1 k1 => ?_))
  refine z_if_ne (tgt := 11) dX9_mostOf_5 (by decide) (fun h2 => ?_) (fun h2 => ?_)
  ·
    refine z_iconst (v := 0) dX9_mostOf_11 zciconst_0 ?_
    refine z_istore_n (lv' := [(2, .int 0), (0, .ref 21), (1, .int x1)]) dX9_mostOf_12 rfl (by decide) rfl ?_
    refine z_iconst (v := 1) dX9_mostOf_13 zciconst_1 ?_
    refine z_istore_n (lv' := [(3, .int 1), (2, .int 0), (0, .ref 21), (1, .int x1)]) dX9_mostOf_14 rfl (by decide) rfl ?_
    refine z_sub [2, 1, 0] rfl ?_
    exact (k1.1 h2)
  ·
    refine z_bipush (v := 9) dX9_mostOf_8 zcbipush_9 ?_
    exact z_iret rfl dX9_mostOf_10 (k1.2 h2)
theorem bX9_mostOf_15 (x2 : Int32) (x3 : Int32) (mem : zm_Mem) (post : zm_Post) (kk : ((4 ≤ x3 → post x2 0 mem) ∧ (¬ 4 ≤ x3 → (vp_in x3 4 ∧ (vp_in x2 4 ∧ (((mem 26 (Int32.toNatClampNeg x3)) ≤ (mem 26 (Int32.toNatClampNeg x2)) → zm_Z gX9_mostOf post 15 [(0, .ref 21), (2, .int x2), (3, .int (x3 + 1))] [] mem) ∧ (¬ (mem 26 (Int32.toNatClampNeg x3)) ≤ (mem 26 (Int32.toNatClampNeg x2)) → zm_Z gX9_mostOf post 15 [(0, .ref 21), (2, .int x3), (3, .int (x3 + 1))] [] mem))))))) : zm_Z gX9_mostOf post 15 [(0, .ref 21), (2, .int x2), (3, .int x3)] [] mem := by
  refine z_iload_n dX9_mostOf_15 rfl 2 rfl ?_
  refine z_iconst (v := 4) dX9_mostOf_16 zciconst_4 ?_
  refine z_icmp_ge (tgt := 47) dX9_mostOf_17 (by decide) (fun h1 => ?_) (fun h1 => ?_)
  ·
    refine z_iload_n dX9_mostOf_47 rfl 1 rfl ?_
    exact z_iret rfl dX9_mostOf_48 (kk.1 h1)
  ·
    refine z_aload_n dX9_mostOf_20 rfl 0 rfl ?_
    refine z_getr (ci := 9) (j := 8) (r := 26) (T := TX9) rfl rfl hX9 rfl (by decide) fkX9_32 dX9_mostOf_21 ?_
    refine z_iload_n dX9_mostOf_24 rfl 2 rfl ?_
    refine z_iald (n := 4) rfl (kk.2 h1).1 dX9_mostOf_25 ?_
    refine z_aload_n dX9_mostOf_26 rfl 0 rfl ?_
    refine z_getr (ci := 9) (j := 8) (r := 26) (T := TX9) rfl rfl hX9 rfl (by decide) fkX9_32 dX9_mostOf_27 ?_
    refine z_iload_n dX9_mostOf_30 rfl 1 rfl ?_
    refine z_iald (n := 4) rfl (kk.2 h1).2.1 dX9_mostOf_31 ?_
    refine z_icmp_le (tgt := 39) dX9_mostOf_32 (by decide) (fun h2 => ?_) (fun h2 => ?_)
    ·
      refine z_iload_n dX9_mostOf_39 rfl 1 rfl ?_
      refine z_istore_n (lv' := [(2, .int x2), (0, .ref 21), (3, .int x3)]) dX9_mostOf_40 rfl (by decide) rfl ?_
      refine z_iinc (v := x3 + 1) (lv' := [(3, .int (x3 + 1)), (2, .int x2), (0, .ref 21)]) dX9_mostOf_41 2 rfl (by rw [zciconst_1]) (by decide) rfl ?_
      refine z_goto (tgt := 15) dX9_mostOf_44 (by decide) ?_
      refine z_sub [2, 1, 0] rfl ?_
      exact ((kk.2 h1).2.2.1 h2)
    ·
      refine z_iload_n dX9_mostOf_35 rfl 2 rfl ?_
      refine z_goto (tgt := 40) dX9_mostOf_36 (by decide) ?_
      refine z_istore_n (lv' := [(2, .int x3), (0, .ref 21), (3, .int x3)]) dX9_mostOf_40 rfl (by decide) rfl ?_
      refine z_iinc (v := x3 + 1) (lv' := [(3, .int (x3 + 1)), (2, .int x3), (0, .ref 21)]) dX9_mostOf_41 2 rfl (by rw [zciconst_1]) (by decide) rfl ?_
      refine z_goto (tgt := 15) dX9_mostOf_44 (by decide) ?_
      refine z_sub [2, 1, 0] rfl ?_
      exact ((kk.2 h1).2.2.2 h2)
theorem dX9_mend_0 : decode cX9_mend 0 = .ok (.aload_n 0, 1) := by decide +kernel
theorem dX9_mend_1 : decode cX9_mend 1 = .ok (.iconst 0, 1) := by decide +kernel
theorem dX9_mend_2 : decode cX9_mend 2 = .ok (.putfield 69, 3) := by decide +kernel
theorem dX9_mend_5 : decode cX9_mend 5 = .ok (.aload_n 0, 1) := by decide +kernel
theorem dX9_mend_6 : decode cX9_mend 6 = .ok (.bipush (-9), 2) := by decide +kernel
theorem dX9_mend_8 : decode cX9_mend 8 = .ok (.invokevirtual 164, 3) := by decide +kernel
theorem dX9_mend_11 : decode cX9_mend 11 = .ok (.pop, 1) := by decide +kernel
theorem dX9_mend_12 : decode cX9_mend 12 = .ok (.iconst 0, 1) := by decide +kernel
theorem dX9_mend_13 : decode cX9_mend 13 = .ok (.istore_n 2, 1) := by decide +kernel
theorem dX9_mend_14 : decode cX9_mend 14 = .ok (.iconst 0, 1) := by decide +kernel
theorem dX9_mend_15 : decode cX9_mend 15 = .ok (.istore_n 3, 1) := by decide +kernel
theorem dX9_mend_16 : decode cX9_mend 16 = .ok (.iload_n 3, 1) := by decide +kernel
theorem dX9_mend_17 : decode cX9_mend 17 = .ok (.aload_n 0, 1) := by decide +kernel
theorem dX9_mend_18 : decode cX9_mend 18 = .ok (.invokevirtual 72, 3) := by decide +kernel
theorem dX9_mend_21 : decode cX9_mend 21 = .ok (.if_icmp .ge 48, 3) := by decide +kernel
theorem dX9_mend_24 : decode cX9_mend 24 = .ok (.aload_n 0, 1) := by decide +kernel
theorem dX9_mend_25 : decode cX9_mend 25 = .ok (.getfield 23, 3) := by decide +kernel
theorem dX9_mend_28 : decode cX9_mend 28 = .ok (.iload_n 3, 1) := by decide +kernel
theorem dX9_mend_29 : decode cX9_mend 29 = .ok (.aload_n 0, 1) := by decide +kernel
theorem dX9_mend_30 : decode cX9_mend 30 = .ok (.aload_n 0, 1) := by decide +kernel
theorem dX9_mend_31 : decode cX9_mend 31 = .ok (.getfield 29, 3) := by decide +kernel
theorem dX9_mend_34 : decode cX9_mend 34 = .ok (.iload_n 3, 1) := by decide +kernel
theorem dX9_mend_35 : decode cX9_mend 35 = .ok (.iaload, 1) := by decide +kernel
theorem dX9_mend_36 : decode cX9_mend 36 = .ok (.invokevirtual 170, 3) := by decide +kernel
theorem dX9_mend_39 : decode cX9_mend 39 = .ok (.iastore, 1) := by decide +kernel
theorem dX9_mend_40 : decode cX9_mend 40 = .ok (.iload_n 2, 1) := by decide +kernel
theorem dX9_mend_41 : decode cX9_mend 41 = .ok (.aload_n 0, 1) := by decide +kernel
theorem dX9_mend_42 : decode cX9_mend 42 = .ok (.getfield 23, 3) := by decide +kernel
theorem dX9_mend_45 : decode cX9_mend 45 = .ok (.iload_n 3, 1) := by decide +kernel
theorem dX9_mend_46 : decode cX9_mend 46 = .ok (.iaload, 1) := by decide +kernel
theorem dX9_mend_47 : decode cX9_mend 47 = .ok (.aload_n 0, 1) := by decide +kernel
theorem dX9_mend_48 : decode cX9_mend 48 = .ok (.getfield 19, 3) := by decide +kernel
theorem dX9_mend_51 : decode cX9_mend 51 = .ok (.iload_n 3, 1) := by decide +kernel
theorem dX9_mend_52 : decode cX9_mend 52 = .ok (.iaload, 1) := by decide +kernel
theorem dX9_mend_53 : decode cX9_mend 53 = .ok (.if_icmp .ne 7, 3) := by decide +kernel
theorem dX9_mend_56 : decode cX9_mend 56 = .ok (.iconst 0, 1) := by decide +kernel
theorem dX9_mend_57 : decode cX9_mend 57 = .ok (.goto 4, 3) := by decide +kernel
theorem dX9_mend_60 : decode cX9_mend 60 = .ok (.iconst 1, 1) := by decide +kernel
theorem dX9_mend_61 : decode cX9_mend 61 = .ok (.iadd, 1) := by decide +kernel
theorem dX9_mend_62 : decode cX9_mend 62 = .ok (.istore_n 2, 1) := by decide +kernel
theorem dX9_mend_63 : decode cX9_mend 63 = .ok (.iinc 3 1, 3) := by decide +kernel
theorem dX9_mend_66 : decode cX9_mend 66 = .ok (.goto (-50), 3) := by decide +kernel
theorem dX9_mend_69 : decode cX9_mend 69 = .ok (.iconst 0, 1) := by decide +kernel
theorem dX9_mend_70 : decode cX9_mend 70 = .ok (.istore_n 3, 1) := by decide +kernel
theorem dX9_mend_71 : decode cX9_mend 71 = .ok (.iload_n 3, 1) := by decide +kernel
theorem dX9_mend_72 : decode cX9_mend 72 = .ok (.aload_n 0, 1) := by decide +kernel
theorem dX9_mend_73 : decode cX9_mend 73 = .ok (.invokevirtual 72, 3) := by decide +kernel
theorem dX9_mend_76 : decode cX9_mend 76 = .ok (.if_icmp .ge 25, 3) := by decide +kernel
theorem dX9_mend_79 : decode cX9_mend 79 = .ok (.iload_n 1, 1) := by decide +kernel
theorem dX9_mend_80 : decode cX9_mend 80 = .ok (.ifCond .eq 21, 3) := by decide +kernel
theorem dX9_mend_83 : decode cX9_mend 83 = .ok (.aload_n 0, 1) := by decide +kernel
theorem dX9_mend_84 : decode cX9_mend 84 = .ok (.getfield 19, 3) := by decide +kernel
theorem dX9_mend_87 : decode cX9_mend 87 = .ok (.iload_n 3, 1) := by decide +kernel
theorem dX9_mend_88 : decode cX9_mend 88 = .ok (.aload_n 0, 1) := by decide +kernel
theorem dX9_mend_89 : decode cX9_mend 89 = .ok (.getfield 23, 3) := by decide +kernel
theorem dX9_mend_92 : decode cX9_mend 92 = .ok (.iload_n 3, 1) := by decide +kernel
theorem dX9_mend_93 : decode cX9_mend 93 = .ok (.iaload, 1) := by decide +kernel
theorem dX9_mend_94 : decode cX9_mend 94 = .ok (.iastore, 1) := by decide +kernel
theorem dX9_mend_95 : decode cX9_mend 95 = .ok (.iinc 3 1, 3) := by decide +kernel
theorem dX9_mend_98 : decode cX9_mend 98 = .ok (.goto (-27), 3) := by decide +kernel
theorem dX9_mend_101 : decode cX9_mend 101 = .ok (.iload_n 2, 1) := by decide +kernel
theorem dX9_mend_102 : decode cX9_mend 102 = .ok (.ireturn, 1) := by decide +kernel
theorem bX9_mend_0 (x1 : Int32) (mem : zm_Mem) (post : zm_Post) (kk : zm_Call gX9_layRings [.ref 21, .int (-9)] (zm_st mem 21 0 0) (fun r1 w1 u1 => zm_Z gX9_mend post 16 [(0, .ref 21), (1, .int x1), (2, .int 0), (3, .int 0)] [] u1)) : zm_Call gX9_mend [.ref 21, .int x1] mem post := by
  refine z_entry (by decide) (Nat.le_of_ble_eq_true rfl) ?_
  show zm_Z gX9_mend post 0 [(0, .ref 21), (1, .int x1)] [] mem
  refine z_aload_n dX9_mend_0 rfl 0 rfl ?_
  refine z_iconst (v := 0) dX9_mend_1 zciconst_0 ?_
  refine z_put (ci := 9) (j := 0) (T := TX9) (ty0 := tyX9) rfl rfl hX9 tyX9_ok nmX9 rfl (by decide) fkX9_69 rfl rfl rfl dX9_mend_2 ?_
  refine z_aload_n dX9_mend_5 rfl 0 rfl ?_
  refine z_bipush (v := (-9)) dX9_mend_6 zcbipush_m9 ?_
  refine z_callVi (g' := gX9_layRings) [.int (-9)] (q := 21) (ci := 9) (T := TX9) rfl rfl ⟨lkX9_164, pdX9_layRings, by decide, by decide⟩ ⟨_, rfl, by decide⟩ rfl (Nat.le_of_ble_eq_true rfl) dX9_mend_8 (zm_Call.mono kk (fun r1 w1 u1 k1 => ?_))
  refine z_popi dX9_mend_11 ?_
  refine z_iconst (v := 0) dX9_mend_12 zciconst_0 ?_
  refine z_istore_n (lv' := [(2, .int 0), (0, .ref 21), (1, .int x1)]) dX9_mend_13 rfl (by decide) rfl ?_
  refine z_iconst (v := 0) dX9_mend_14 zciconst_0 ?_
  refine z_istore_n (lv' := [(3, .int 0), (2, .int 0), (0, .ref 21), (1, .int x1)]) dX9_mend_15 rfl (by decide) rfl ?_
  refine z_sub [2, 3, 1, 0] rfl ?_
  exact k1
theorem bX9_mend_16 (x1 : Int32) (x2 : Int32) (x3 : Int32) (mem : zm_Mem) (post : zm_Post) (kk : zm_Call gX9_cells [.ref 21] mem (fun r1 w1 u1 => ((r1 ≤ x3 → zm_Z gX9_mend post 71 [(0, .ref 21), (1, .int x1), (2, .int x2), (3, .int 0)] [] u1) ∧ (¬ r1 ≤ x3 → (vp_in x3 36 ∧ zm_Call gX9_mostOf [.ref 21, .int (u1 25 (Int32.toNatClampNeg x3))] u1 (fun r3 w3 u3 => (vp_in x3 36 ∧ (vp_in x3 36 ∧ (vp_in x3 36 ∧ ((¬ ((zm_st u3 23 (Int32.toNatClampNeg x3) r3) 23 (Int32.toNatClampNeg x3)) = ((zm_st u3 23 (Int32.toNatClampNeg x3) r3) 22 (Int32.toNatClampNeg x3)) → zm_Z gX9_mend post 16 [(0, .ref 21), (1, .int x1), (2, .int (x2 + 1)), (3, .int (x3 + 1))] [] (zm_st u3 23 (Int32.toNatClampNeg x3) r3)) ∧ (((zm_st u3 23 (Int32.toNatClampNeg x3) r3) 23 (Int32.toNatClampNeg x3)) = ((zm_st u3 23 (Int32.toNatClampNeg x3) r3) 22 (Int32.toNatClampNeg x3)) → zm_Z gX9_mend post 16 [(0, .ref 21), (1, .int x1), (2, .int (x2 + 0)), (3, .int (x3 + 1))] [] (zm_st u3 23 (Int32.toNatClampNeg x3) r3)))))))))))) : zm_Z gX9_mend post 16 [(0, .ref 21), (1, .int x1), (2, .int x2), (3, .int x3)] [] mem := by
  refine z_iload_n dX9_mend_16 rfl 3 rfl ?_
  refine z_aload_n dX9_mend_17 rfl 0 rfl ?_
  refine z_callVi (g' := gX9_cells) [] (q := 21) (ci := 9) (T := TX9) rfl rfl ⟨lkX9_72, pdX9_cells, by decide, by decide⟩ ⟨_, rfl, by decide⟩ rfl (Nat.le_of_ble_eq_true rfl) dX9_mend_18 (zm_Call.mono kk (fun r1 w1 u1 k1 => ?_))
  refine z_icmp_ge (tgt := 69) dX9_mend_21 (by decide) (fun h2 => ?_) (fun h2 => ?_)
  ·
    refine z_iconst (v := 0) dX9_mend_69 zciconst_0 ?_
    refine z_istore_n (lv' := [(3, .int 0), (0, .ref 21), (1, .int x1), (2, .int x2)]) dX9_mend_70 rfl (by decide) rfl ?_
    refine z_sub [1, 2, 3, 0] rfl ?_
    exact (k1.1 h2)
  ·
    refine z_aload_n dX9_mend_24 rfl 0 rfl ?_
    refine z_getr (ci := 9) (j := 5) (r := 23) (T := TX9) rfl rfl hX9 rfl (by decide) fkX9_23 dX9_mend_25 ?_
    refine z_iload_n dX9_mend_28 rfl 3 rfl ?_
    refine z_aload_n dX9_mend_29 rfl 0 rfl ?_
    refine z_aload_n dX9_mend_30 rfl 0 rfl ?_
    refine z_getr (ci := 9) (j := 7) (r := 25) (T := TX9) rfl rfl hX9 rfl (by decide) fkX9_29 dX9_mend_31 ?_
    refine z_iload_n dX9_mend_34 rfl 3 rfl ?_
    refine z_iald (n := 36) rfl (k1.2 h2).1 dX9_mend_35 ?_
    refine z_callVi (g' := gX9_mostOf) [.int (u1 25 (Int32.toNatClampNeg x3))] (q := 21) (ci := 9) (T := TX9) rfl rfl ⟨lkX9_170, pdX9_mostOf, by decide, by decide⟩ ⟨_, rfl, by decide⟩ rfl (Nat.le_of_ble_eq_true rfl) dX9_mend_36 (zm_Call.mono (k1.2 h2).2 (fun r3 w3 u3 k3 => ?_))
    refine z_iast (n := 36) rfl k3.1 dX9_mend_39 ?_
    refine z_iload_n dX9_mend_40 rfl 2 rfl ?_
    refine z_aload_n dX9_mend_41 rfl 0 rfl ?_
    refine z_getr (ci := 9) (j := 5) (r := 23) (T := TX9) rfl rfl hX9 rfl (by decide) fkX9_23 dX9_mend_42 ?_
    refine z_iload_n dX9_mend_45 rfl 3 rfl ?_
    refine z_iald (n := 36) rfl k3.2.1 dX9_mend_46 ?_
    refine z_aload_n dX9_mend_47 rfl 0 rfl ?_
    refine z_getr (ci := 9) (j := 4) (r := 22) (T := TX9) rfl rfl hX9 rfl (by decide) fkX9_19 dX9_mend_48 ?_
    refine z_iload_n dX9_mend_51 rfl 3 rfl ?_
    refine z_iald (n := 36) rfl k3.2.2.1 dX9_mend_52 ?_
    refine z_icmp_ne (tgt := 60) dX9_mend_53 (by decide) (fun h4 => ?_) (fun h4 => ?_)
    ·
      refine z_iconst (v := 1) dX9_mend_60 zciconst_1 ?_
      refine z_iadd dX9_mend_61 ?_
      refine z_istore_n (lv' := [(2, .int (x2 + 1)), (0, .ref 21), (1, .int x1), (3, .int x3)]) dX9_mend_62 rfl (by decide) rfl ?_
      refine z_iinc (v := x3 + 1) (lv' := [(3, .int (x3 + 1)), (2, .int (x2 + 1)), (0, .ref 21), (1, .int x1)]) dX9_mend_63 3 rfl (by rw [zciconst_1]) (by decide) rfl ?_
      refine z_goto (tgt := 16) dX9_mend_66 (by decide) ?_
      refine z_sub [2, 3, 1, 0] rfl ?_
      exact (k3.2.2.2.1 h4)
    ·
      refine z_iconst (v := 0) dX9_mend_56 zciconst_0 ?_
      refine z_goto (tgt := 61) dX9_mend_57 (by decide) ?_
      refine z_iadd dX9_mend_61 ?_
      refine z_istore_n (lv' := [(2, .int (x2 + 0)), (0, .ref 21), (1, .int x1), (3, .int x3)]) dX9_mend_62 rfl (by decide) rfl ?_
      refine z_iinc (v := x3 + 1) (lv' := [(3, .int (x3 + 1)), (2, .int (x2 + 0)), (0, .ref 21), (1, .int x1)]) dX9_mend_63 3 rfl (by rw [zciconst_1]) (by decide) rfl ?_
      refine z_goto (tgt := 16) dX9_mend_66 (by decide) ?_
      refine z_sub [2, 3, 1, 0] rfl ?_
      exact (k3.2.2.2.2 h4)
theorem bX9_mend_71 (x1 : Int32) (x2 : Int32) (x3 : Int32) (mem : zm_Mem) (post : zm_Post) (kk : zm_Call gX9_cells [.ref 21] mem (fun r1 w1 u1 => ((r1 ≤ x3 → post x2 0 u1) ∧ (¬ r1 ≤ x3 → ((x1 = 0 → post x2 0 u1) ∧ (¬ x1 = 0 → (vp_in x3 36 ∧ (vp_in x3 36 ∧ zm_Z gX9_mend post 71 [(0, .ref 21), (1, .int x1), (2, .int x2), (3, .int (x3 + 1))] [] (zm_st u1 22 (Int32.toNatClampNeg x3) (u1 23 (Int32.toNatClampNeg x3))))))))))) : zm_Z gX9_mend post 71 [(0, .ref 21), (1, .int x1), (2, .int x2), (3, .int x3)] [] mem := by
  refine z_iload_n dX9_mend_71 rfl 3 rfl ?_
  refine z_aload_n dX9_mend_72 rfl 0 rfl ?_
  refine z_callVi (g' := gX9_cells) [] (q := 21) (ci := 9) (T := TX9) rfl rfl ⟨lkX9_72, pdX9_cells, by decide, by decide⟩ ⟨_, rfl, by decide⟩ rfl (Nat.le_of_ble_eq_true rfl) dX9_mend_73 (zm_Call.mono kk (fun r1 w1 u1 k1 => ?_))
  refine z_icmp_ge (tgt := 101) dX9_mend_76 (by decide) (fun h2 => ?_) (fun h2 => ?_)
  ·
    refine z_iload_n dX9_mend_101 rfl 2 rfl ?_
    exact z_iret rfl dX9_mend_102 (k1.1 h2)
  ·
    refine z_iload_n dX9_mend_79 rfl 1 rfl ?_
    refine z_if_eq (tgt := 101) dX9_mend_80 (by decide) (fun h3 => ?_) (fun h3 => ?_)
    ·
      refine z_iload_n dX9_mend_101 rfl 2 rfl ?_
      exact z_iret rfl dX9_mend_102 ((k1.2 h2).1 h3)
    ·
      refine z_aload_n dX9_mend_83 rfl 0 rfl ?_
      refine z_getr (ci := 9) (j := 4) (r := 22) (T := TX9) rfl rfl hX9 rfl (by decide) fkX9_19 dX9_mend_84 ?_
      refine z_iload_n dX9_mend_87 rfl 3 rfl ?_
      refine z_aload_n dX9_mend_88 rfl 0 rfl ?_
      refine z_getr (ci := 9) (j := 5) (r := 23) (T := TX9) rfl rfl hX9 rfl (by decide) fkX9_23 dX9_mend_89 ?_
      refine z_iload_n dX9_mend_92 rfl 3 rfl ?_
      refine z_iald (n := 36) rfl ((k1.2 h2).2 h3).1 dX9_mend_93 ?_
      refine z_iast (n := 36) rfl ((k1.2 h2).2 h3).2.1 dX9_mend_94 ?_
      refine z_iinc (v := x3 + 1) (lv' := [(3, .int (x3 + 1)), (0, .ref 21), (1, .int x1), (2, .int x2)]) dX9_mend_95 3 rfl (by rw [zciconst_1]) (by decide) rfl ?_
      refine z_goto (tgt := 71) dX9_mend_98 (by decide) ?_
      refine z_sub [1, 2, 3, 0] rfl ?_
      exact ((k1.2 h2).2 h3).2.2
theorem dX9_sure_0 : decode cX9_sure 0 = .ok (.aload_n 0, 1) := by decide +kernel
theorem dX9_sure_1 : decode cX9_sure 1 = .ok (.iconst 0, 1) := by decide +kernel
theorem dX9_sure_2 : decode cX9_sure 2 = .ok (.putfield 69, 3) := by decide +kernel
theorem dX9_sure_5 : decode cX9_sure 5 = .ok (.aload_n 0, 1) := by decide +kernel
theorem dX9_sure_6 : decode cX9_sure 6 = .ok (.iload_n 1, 1) := by decide +kernel
theorem dX9_sure_7 : decode cX9_sure 7 = .ok (.invokevirtual 102, 3) := by decide +kernel
theorem dX9_sure_10 : decode cX9_sure 10 = .ok (.ifCond .eq 5, 3) := by decide +kernel
theorem dX9_sure_13 : decode cX9_sure 13 = .ok (.iconst (-1), 1) := by decide +kernel
theorem dX9_sure_14 : decode cX9_sure 14 = .ok (.ireturn, 1) := by decide +kernel
theorem dX9_sure_15 : decode cX9_sure 15 = .ok (.aload_n 0, 1) := by decide +kernel
theorem dX9_sure_16 : decode cX9_sure 16 = .ok (.getfield 19, 3) := by decide +kernel
theorem dX9_sure_19 : decode cX9_sure 19 = .ok (.iload_n 1, 1) := by decide +kernel
theorem dX9_sure_20 : decode cX9_sure 20 = .ok (.iaload, 1) := by decide +kernel
theorem dX9_sure_21 : decode cX9_sure 21 = .ok (.bipush 9, 2) := by decide +kernel
theorem dX9_sure_23 : decode cX9_sure 23 = .ok (.if_icmp .eq 6, 3) := by decide +kernel
theorem dX9_sure_26 : decode cX9_sure 26 = .ok (.bipush (-3), 2) := by decide +kernel
theorem dX9_sure_28 : decode cX9_sure 28 = .ok (.ireturn, 1) := by decide +kernel
theorem dX9_sure_29 : decode cX9_sure 29 = .ok (.aload_n 0, 1) := by decide +kernel
theorem dX9_sure_30 : decode cX9_sure 30 = .ok (.bipush (-9), 2) := by decide +kernel
theorem dX9_sure_32 : decode cX9_sure 32 = .ok (.invokevirtual 164, 3) := by decide +kernel
theorem dX9_sure_35 : decode cX9_sure 35 = .ok (.pop, 1) := by decide +kernel
theorem dX9_sure_36 : decode cX9_sure 36 = .ok (.aload_n 0, 1) := by decide +kernel
theorem dX9_sure_37 : decode cX9_sure 37 = .ok (.aload_n 0, 1) := by decide +kernel
theorem dX9_sure_38 : decode cX9_sure 38 = .ok (.getfield 29, 3) := by decide +kernel
theorem dX9_sure_41 : decode cX9_sure 41 = .ok (.iload_n 1, 1) := by decide +kernel
theorem dX9_sure_42 : decode cX9_sure 42 = .ok (.iaload, 1) := by decide +kernel
theorem dX9_sure_43 : decode cX9_sure 43 = .ok (.invokevirtual 167, 3) := by decide +kernel
theorem dX9_sure_46 : decode cX9_sure 46 = .ok (.iconst 1, 1) := by decide +kernel
theorem dX9_sure_47 : decode cX9_sure 47 = .ok (.if_icmp .ne 16, 3) := by decide +kernel
theorem dX9_sure_50 : decode cX9_sure 50 = .ok (.aload_n 0, 1) := by decide +kernel
theorem dX9_sure_51 : decode cX9_sure 51 = .ok (.aload_n 0, 1) := by decide +kernel
theorem dX9_sure_52 : decode cX9_sure 52 = .ok (.getfield 29, 3) := by decide +kernel
theorem dX9_sure_55 : decode cX9_sure 55 = .ok (.iload_n 1, 1) := by decide +kernel
theorem dX9_sure_56 : decode cX9_sure 56 = .ok (.iaload, 1) := by decide +kernel
theorem dX9_sure_57 : decode cX9_sure 57 = .ok (.invokevirtual 170, 3) := by decide +kernel
theorem dX9_sure_60 : decode cX9_sure 60 = .ok (.goto 5, 3) := by decide +kernel
theorem dX9_sure_63 : decode cX9_sure 63 = .ok (.bipush (-9), 2) := by decide +kernel
theorem dX9_sure_65 : decode cX9_sure 65 = .ok (.ireturn, 1) := by decide +kernel
theorem bX9_sure_0 (x1 : Int32) (mem : zm_Mem) (post : zm_Post) (kk : zm_Call gX9_noCell [.ref 21, .int x1] (zm_st mem 21 0 0) (fun r1 w1 u1 => ((r1 = 0 → (vp_in x1 36 ∧ (((u1 22 (Int32.toNatClampNeg x1)) = 9 → zm_Call gX9_layRings [.ref 21, .int (-9)] u1 (fun r4 w4 u4 => (vp_in x1 36 ∧ zm_Call gX9_reckon [.ref 21, .int (u4 25 (Int32.toNatClampNeg x1))] u4 (fun r5 w5 u5 => ((¬ r5 = 1 → post (-9) 0 u5) ∧ (r5 = 1 → (vp_in x1 36 ∧ zm_Call gX9_mostOf [.ref 21, .int (u5 25 (Int32.toNatClampNeg x1))] u5 (fun r7 w7 u7 => post r7 0 u7)))))))) ∧ (¬ (u1 22 (Int32.toNatClampNeg x1)) = 9 → post (-3) 0 u1)))) ∧ (¬ r1 = 0 → post (-1) 0 u1)))) : zm_Call gX9_sure [.ref 21, .int x1] mem post := by
  refine z_entry (by decide) (Nat.le_of_ble_eq_true rfl) ?_
  show zm_Z gX9_sure post 0 [(0, .ref 21), (1, .int x1)] [] mem
  refine z_aload_n dX9_sure_0 rfl 0 rfl ?_
  refine z_iconst (v := 0) dX9_sure_1 zciconst_0 ?_
  refine z_put (ci := 9) (j := 0) (T := TX9) (ty0 := tyX9) rfl rfl hX9 tyX9_ok nmX9 rfl (by decide) fkX9_69 rfl rfl rfl dX9_sure_2 ?_
  refine z_aload_n dX9_sure_5 rfl 0 rfl ?_
  refine z_iload_n dX9_sure_6 rfl 1 rfl ?_
  refine z_callVi (g' := gX9_noCell) [.int x1] (q := 21) (ci := 9) (T := TX9) rfl rfl ⟨lkX9_102, pdX9_noCell, by decide, by decide⟩ ⟨_, rfl, by decide⟩ rfl (Nat.le_of_ble_eq_true rfl) dX9_sure_7 (zm_Call.mono kk (fun r1 w1 u1 k1 => ?_))
  refine z_if_eq (tgt := 15) dX9_sure_10 (by decide) (fun h2 => ?_) (fun h2 => ?_)
  ·
    refine z_aload_n dX9_sure_15 rfl 0 rfl ?_
    refine z_getr (ci := 9) (j := 4) (r := 22) (T := TX9) rfl rfl hX9 rfl (by decide) fkX9_19 dX9_sure_16 ?_
    refine z_iload_n dX9_sure_19 rfl 1 rfl ?_
    refine z_iald (n := 36) rfl (k1.1 h2).1 dX9_sure_20 ?_
    refine z_bipush (v := 9) dX9_sure_21 zcbipush_9 ?_
    refine z_icmp_eq (tgt := 29) dX9_sure_23 (by decide) (fun h3 => ?_) (fun h3 => ?_)
    ·
      refine z_aload_n dX9_sure_29 rfl 0 rfl ?_
      refine z_bipush (v := (-9)) dX9_sure_30 zcbipush_m9 ?_
      refine z_callVi (g' := gX9_layRings) [.int (-9)] (q := 21) (ci := 9) (T := TX9) rfl rfl ⟨lkX9_164, pdX9_layRings, by decide, by decide⟩ ⟨_, rfl, by decide⟩ rfl (Nat.le_of_ble_eq_true rfl) dX9_sure_32 (zm_Call.mono ((k1.1 h2).2.1 h3) (fun r4 w4 u4 k4 => ?_))
      refine z_popi dX9_sure_35 ?_
      refine z_aload_n dX9_sure_36 rfl 0 rfl ?_
      refine z_aload_n dX9_sure_37 rfl 0 rfl ?_
      refine z_getr (ci := 9) (j := 7) (r := 25) (T := TX9) rfl rfl hX9 rfl (by decide) fkX9_29 dX9_sure_38 ?_
      refine z_iload_n dX9_sure_41 rfl 1 rfl ?_
      refine z_iald (n := 36) rfl k4.1 dX9_sure_42 ?_
      refine z_callVi (g' := gX9_reckon) [.int (u4 25 (Int32.toNatClampNeg x1))] (q := 21) (ci := 9) (T := TX9) rfl rfl ⟨lkX9_167, pdX9_reckon, by decide, by decide⟩ ⟨_, rfl, by decide⟩ rfl (Nat.le_of_ble_eq_true rfl) dX9_sure_43 (zm_Call.mono k4.2 (fun r5 w5 u5 k5 => ?_))
      refine z_iconst (v := 1) dX9_sure_46 zciconst_1 ?_
      refine z_icmp_ne (tgt := 63) dX9_sure_47 (by decide) (fun h6 => ?_) (fun h6 => ?_)
      ·
        refine z_bipush (v := (-9)) dX9_sure_63 zcbipush_m9 ?_
        exact z_iret rfl dX9_sure_65 (k5.1 h6)
      ·
        refine z_aload_n dX9_sure_50 rfl 0 rfl ?_
        refine z_aload_n dX9_sure_51 rfl 0 rfl ?_
        refine z_getr (ci := 9) (j := 7) (r := 25) (T := TX9) rfl rfl hX9 rfl (by decide) fkX9_29 dX9_sure_52 ?_
        refine z_iload_n dX9_sure_55 rfl 1 rfl ?_
        refine z_iald (n := 36) rfl (k5.2 h6).1 dX9_sure_56 ?_
        refine z_callVi (g' := gX9_mostOf) [.int (u5 25 (Int32.toNatClampNeg x1))] (q := 21) (ci := 9) (T := TX9) rfl rfl ⟨lkX9_170, pdX9_mostOf, by decide, by decide⟩ ⟨_, rfl, by decide⟩ rfl (Nat.le_of_ble_eq_true rfl) dX9_sure_57 (zm_Call.mono (k5.2 h6).2 (fun r7 w7 u7 k7 => ?_))
        refine z_goto (tgt := 65) dX9_sure_60 (by decide) ?_
        exact z_iret rfl dX9_sure_65 k7
    ·
      refine z_bipush (v := (-3)) dX9_sure_26 zcbipush_m3 ?_
      exact z_iret rfl dX9_sure_28 ((k1.1 h2).2.2 h3)
  ·
    refine z_iconst (v := (-1)) dX9_sure_13 zciconst_m1 ?_
    exact z_iret rfl dX9_sure_14 (k1.2 h2)
theorem dX9_torn_0 : decode cX9_torn 0 = .ok (.aload_n 0, 1) := by decide +kernel
theorem dX9_torn_1 : decode cX9_torn 1 = .ok (.iconst 0, 1) := by decide +kernel
theorem dX9_torn_2 : decode cX9_torn 2 = .ok (.putfield 69, 3) := by decide +kernel
theorem dX9_torn_5 : decode cX9_torn 5 = .ok (.aload_n 0, 1) := by decide +kernel
theorem dX9_torn_6 : decode cX9_torn 6 = .ok (.bipush (-9), 2) := by decide +kernel
theorem dX9_torn_8 : decode cX9_torn 8 = .ok (.invokevirtual 164, 3) := by decide +kernel
theorem dX9_torn_11 : decode cX9_torn 11 = .ok (.pop, 1) := by decide +kernel
theorem dX9_torn_12 : decode cX9_torn 12 = .ok (.iconst 0, 1) := by decide +kernel
theorem dX9_torn_13 : decode cX9_torn 13 = .ok (.istore_n 1, 1) := by decide +kernel
theorem dX9_torn_14 : decode cX9_torn 14 = .ok (.iconst 0, 1) := by decide +kernel
theorem dX9_torn_15 : decode cX9_torn 15 = .ok (.istore_n 2, 1) := by decide +kernel
theorem dX9_torn_16 : decode cX9_torn 16 = .ok (.iload_n 2, 1) := by decide +kernel
theorem dX9_torn_17 : decode cX9_torn 17 = .ok (.aload_n 0, 1) := by decide +kernel
theorem dX9_torn_18 : decode cX9_torn 18 = .ok (.invokevirtual 72, 3) := by decide +kernel
theorem dX9_torn_21 : decode cX9_torn 21 = .ok (.if_icmp .ge 36, 3) := by decide +kernel
theorem dX9_torn_24 : decode cX9_torn 24 = .ok (.iload_n 1, 1) := by decide +kernel
theorem dX9_torn_25 : decode cX9_torn 25 = .ok (.aload_n 0, 1) := by decide +kernel
theorem dX9_torn_26 : decode cX9_torn 26 = .ok (.getfield 29, 3) := by decide +kernel
theorem dX9_torn_29 : decode cX9_torn 29 = .ok (.iload_n 2, 1) := by decide +kernel
theorem dX9_torn_30 : decode cX9_torn 30 = .ok (.iaload, 1) := by decide +kernel
theorem dX9_torn_31 : decode cX9_torn 31 = .ok (.iload_n 2, 1) := by decide +kernel
theorem dX9_torn_32 : decode cX9_torn 32 = .ok (.if_icmp .ne 16, 3) := by decide +kernel
theorem dX9_torn_35 : decode cX9_torn 35 = .ok (.aload_n 0, 1) := by decide +kernel
theorem dX9_torn_36 : decode cX9_torn 36 = .ok (.iload_n 2, 1) := by decide +kernel
theorem dX9_torn_37 : decode cX9_torn 37 = .ok (.invokevirtual 167, 3) := by decide +kernel
theorem dX9_torn_40 : decode cX9_torn 40 = .ok (.iconst 1, 1) := by decide +kernel
theorem dX9_torn_41 : decode cX9_torn 41 = .ok (.if_icmp .le 7, 3) := by decide +kernel
theorem dX9_torn_44 : decode cX9_torn 44 = .ok (.iconst 1, 1) := by decide +kernel
theorem dX9_torn_45 : decode cX9_torn 45 = .ok (.goto 4, 3) := by decide +kernel
theorem dX9_torn_48 : decode cX9_torn 48 = .ok (.iconst 0, 1) := by decide +kernel
theorem dX9_torn_49 : decode cX9_torn 49 = .ok (.iadd, 1) := by decide +kernel
theorem dX9_torn_50 : decode cX9_torn 50 = .ok (.istore_n 1, 1) := by decide +kernel
theorem dX9_torn_51 : decode cX9_torn 51 = .ok (.iinc 2 1, 3) := by decide +kernel
theorem dX9_torn_54 : decode cX9_torn 54 = .ok (.goto (-38), 3) := by decide +kernel
theorem dX9_torn_57 : decode cX9_torn 57 = .ok (.iload_n 1, 1) := by decide +kernel
theorem dX9_torn_58 : decode cX9_torn 58 = .ok (.ireturn, 1) := by decide +kernel
theorem bX9_torn_0 (mem : zm_Mem) (post : zm_Post) (kk : zm_Call gX9_layRings [.ref 21, .int (-9)] (zm_st mem 21 0 0) (fun r1 w1 u1 => zm_Z gX9_torn post 16 [(0, .ref 21), (1, .int 0), (2, .int 0)] [] u1)) : zm_Call gX9_torn [.ref 21] mem post := by
  refine z_entry (by decide) (Nat.le_of_ble_eq_true rfl) ?_
  show zm_Z gX9_torn post 0 [(0, .ref 21)] [] mem
  refine z_aload_n dX9_torn_0 rfl 0 rfl ?_
  refine z_iconst (v := 0) dX9_torn_1 zciconst_0 ?_
  refine z_put (ci := 9) (j := 0) (T := TX9) (ty0 := tyX9) rfl rfl hX9 tyX9_ok nmX9 rfl (by decide) fkX9_69 rfl rfl rfl dX9_torn_2 ?_
  refine z_aload_n dX9_torn_5 rfl 0 rfl ?_
  refine z_bipush (v := (-9)) dX9_torn_6 zcbipush_m9 ?_
  refine z_callVi (g' := gX9_layRings) [.int (-9)] (q := 21) (ci := 9) (T := TX9) rfl rfl ⟨lkX9_164, pdX9_layRings, by decide, by decide⟩ ⟨_, rfl, by decide⟩ rfl (Nat.le_of_ble_eq_true rfl) dX9_torn_8 (zm_Call.mono kk (fun r1 w1 u1 k1 => ?_))
  refine z_popi dX9_torn_11 ?_
  refine z_iconst (v := 0) dX9_torn_12 zciconst_0 ?_
  refine z_istore_n (lv' := [(1, .int 0), (0, .ref 21)]) dX9_torn_13 rfl (by decide) rfl ?_
  refine z_iconst (v := 0) dX9_torn_14 zciconst_0 ?_
  refine z_istore_n (lv' := [(2, .int 0), (1, .int 0), (0, .ref 21)]) dX9_torn_15 rfl (by decide) rfl ?_
  refine z_sub [2, 1, 0] rfl ?_
  exact k1
theorem bX9_torn_16 (x1 : Int32) (x2 : Int32) (mem : zm_Mem) (post : zm_Post) (kk : zm_Call gX9_cells [.ref 21] mem (fun r1 w1 u1 => ((r1 ≤ x2 → post x1 0 u1) ∧ (¬ r1 ≤ x2 → (vp_in x2 36 ∧ ((¬ (u1 25 (Int32.toNatClampNeg x2)) = x2 → zm_Z gX9_torn post 48 [(0, .ref 21), (2, .int x2)] [.int x1] u1) ∧ ((u1 25 (Int32.toNatClampNeg x2)) = x2 → zm_Call gX9_reckon [.ref 21, .int x2] u1 (fun r4 w4 u4 => ((r4 ≤ 1 → zm_Z gX9_torn post 48 [(0, .ref 21), (2, .int x2)] [.int x1] u4) ∧ (¬ r4 ≤ 1 → zm_Z gX9_torn post 16 [(0, .ref 21), (1, .int (x1 + 1)), (2, .int (x2 + 1))] [] u4)))))))))) : zm_Z gX9_torn post 16 [(0, .ref 21), (1, .int x1), (2, .int x2)] [] mem := by
  refine z_iload_n dX9_torn_16 rfl 2 rfl ?_
  refine z_aload_n dX9_torn_17 rfl 0 rfl ?_
  refine z_callVi (g' := gX9_cells) [] (q := 21) (ci := 9) (T := TX9) rfl rfl ⟨lkX9_72, pdX9_cells, by decide, by decide⟩ ⟨_, rfl, by decide⟩ rfl (Nat.le_of_ble_eq_true rfl) dX9_torn_18 (zm_Call.mono kk (fun r1 w1 u1 k1 => ?_))
  refine z_icmp_ge (tgt := 57) dX9_torn_21 (by decide) (fun h2 => ?_) (fun h2 => ?_)
  ·
    refine z_iload_n dX9_torn_57 rfl 1 rfl ?_
    exact z_iret rfl dX9_torn_58 (k1.1 h2)
  ·
    refine z_iload_n dX9_torn_24 rfl 1 rfl ?_
    refine z_aload_n dX9_torn_25 rfl 0 rfl ?_
    refine z_getr (ci := 9) (j := 7) (r := 25) (T := TX9) rfl rfl hX9 rfl (by decide) fkX9_29 dX9_torn_26 ?_
    refine z_iload_n dX9_torn_29 rfl 2 rfl ?_
    refine z_iald (n := 36) rfl (k1.2 h2).1 dX9_torn_30 ?_
    refine z_iload_n dX9_torn_31 rfl 2 rfl ?_
    refine z_icmp_ne (tgt := 48) dX9_torn_32 (by decide) (fun h3 => ?_) (fun h3 => ?_)
    ·
      refine z_sub [0, 2] rfl ?_
      exact ((k1.2 h2).2.1 h3)
    ·
      refine z_aload_n dX9_torn_35 rfl 0 rfl ?_
      refine z_iload_n dX9_torn_36 rfl 2 rfl ?_
      refine z_callVi (g' := gX9_reckon) [.int x2] (q := 21) (ci := 9) (T := TX9) rfl rfl ⟨lkX9_167, pdX9_reckon, by decide, by decide⟩ ⟨_, rfl, by decide⟩ rfl (Nat.le_of_ble_eq_true rfl) dX9_torn_37 (zm_Call.mono ((k1.2 h2).2.2 h3) (fun r4 w4 u4 k4 => ?_))
      refine z_iconst (v := 1) dX9_torn_40 zciconst_1 ?_
      refine z_icmp_le (tgt := 48) dX9_torn_41 (by decide) (fun h5 => ?_) (fun h5 => ?_)
      ·
        refine z_sub [0, 2] rfl ?_
        exact (k4.1 h5)
      ·
        refine z_iconst (v := 1) dX9_torn_44 zciconst_1 ?_
        refine z_goto (tgt := 49) dX9_torn_45 (by decide) ?_
        refine z_iadd dX9_torn_49 ?_
        refine z_istore_n (lv' := [(1, .int (x1 + 1)), (0, .ref 21), (2, .int x2)]) dX9_torn_50 rfl (by decide) rfl ?_
        refine z_iinc (v := x2 + 1) (lv' := [(2, .int (x2 + 1)), (1, .int (x1 + 1)), (0, .ref 21)]) dX9_torn_51 2 rfl (by rw [zciconst_1]) (by decide) rfl ?_
        refine z_goto (tgt := 16) dX9_torn_54 (by decide) ?_
        refine z_sub [2, 1, 0] rfl ?_
        exact (k4.2 h5)
theorem bX9_torn_48 (x2 : Int32) (s0 : Int32) (mem : zm_Mem) (post : zm_Post) (kk : zm_Z gX9_torn post 16 [(0, .ref 21), (1, .int (s0 + 0)), (2, .int (x2 + 1))] [] mem) : zm_Z gX9_torn post 48 [(0, .ref 21), (2, .int x2)] [.int s0] mem := by
  refine z_iconst (v := 0) dX9_torn_48 zciconst_0 ?_
  refine z_iadd dX9_torn_49 ?_
  refine z_istore_n (lv' := [(1, .int (s0 + 0)), (0, .ref 21), (2, .int x2)]) dX9_torn_50 rfl (by decide) rfl ?_
  refine z_iinc (v := x2 + 1) (lv' := [(2, .int (x2 + 1)), (1, .int (s0 + 0)), (0, .ref 21)]) dX9_torn_51 2 rfl (by rw [zciconst_1]) (by decide) rfl ?_
  refine z_goto (tgt := 16) dX9_torn_54 (by decide) ?_
  refine z_sub [2, 1, 0] rfl ?_
  exact kk
theorem dX9_power_0 : decode cX9_power 0 = .ok (.lconst 1, 1) := by decide +kernel
theorem dX9_power_1 : decode cX9_power 1 = .ok (.lstore_n 2, 1) := by decide +kernel
theorem dX9_power_2 : decode cX9_power 2 = .ok (.iconst 0, 1) := by decide +kernel
theorem dX9_power_3 : decode cX9_power 3 = .ok (.istore 4, 2) := by decide +kernel
theorem dX9_power_5 : decode cX9_power 5 = .ok (.iload 4, 2) := by decide +kernel
theorem dX9_power_7 : decode cX9_power 7 = .ok (.iload_n 1, 1) := by decide +kernel
theorem dX9_power_8 : decode cX9_power 8 = .ok (.if_icmp .ge 17, 3) := by decide +kernel
theorem dX9_power_11 : decode cX9_power 11 = .ok (.lload_n 2, 1) := by decide +kernel
theorem dX9_power_12 : decode cX9_power 12 = .ok (.aload_n 0, 1) := by decide +kernel
theorem dX9_power_13 : decode cX9_power 13 = .ok (.getfield 16, 3) := by decide +kernel
theorem dX9_power_16 : decode cX9_power 16 = .ok (.i2l, 1) := by decide +kernel
theorem dX9_power_17 : decode cX9_power 17 = .ok (.lmul, 1) := by decide +kernel
theorem dX9_power_18 : decode cX9_power 18 = .ok (.lstore_n 2, 1) := by decide +kernel
theorem dX9_power_19 : decode cX9_power 19 = .ok (.iinc 4 1, 3) := by decide +kernel
theorem dX9_power_22 : decode cX9_power 22 = .ok (.goto (-17), 3) := by decide +kernel
theorem dX9_power_25 : decode cX9_power 25 = .ok (.lload_n 2, 1) := by decide +kernel
theorem dX9_power_26 : decode cX9_power 26 = .ok (.lreturn, 1) := by decide +kernel
theorem bX9_power_0 (x1 : Int32) (mem : zm_Mem) (post : zm_Post) (kk : zm_Z gX9_power post 5 [(0, .ref 21), (1, .int x1), (2, .long 1), (4, .int 0)] [] mem) : zm_Call gX9_power [.ref 21, .int x1] mem post := by
  refine z_entry (by decide) (Nat.le_of_ble_eq_true rfl) ?_
  show zm_Z gX9_power post 0 [(0, .ref 21), (1, .int x1)] [] mem
  refine z_lconst (v := 1) dX9_power_0 zclconst_1 ?_
  refine z_lstore_n (lv' := [(2, .long 1), (0, .ref 21), (1, .int x1)]) dX9_power_1 rfl (by decide) rfl ?_
  refine z_iconst (v := 0) dX9_power_2 zciconst_0 ?_
  refine z_istore (lv' := [(4, .int 0), (2, .long 1), (0, .ref 21), (1, .int x1)]) dX9_power_3 (by decide) rfl ?_
  refine z_sub [2, 3, 1, 0] rfl ?_
  exact kk
theorem bX9_power_5 (x1 : Int32) (x2 : Int64) (x4 : Int32) (mem : zm_Mem) (post : zm_Post) (kk : ((x1 ≤ x4 → post 0 x2 mem) ∧ (¬ x1 ≤ x4 → zm_Z gX9_power post 5 [(0, .ref 21), (1, .int x1), (2, .long (x2 * (Int32.toInt64 (mem 21 3)))), (4, .int (x4 + 1))] [] mem))) : zm_Z gX9_power post 5 [(0, .ref 21), (1, .int x1), (2, .long x2), (4, .int x4)] [] mem := by
  refine z_iload dX9_power_5 3 rfl ?_
  refine z_iload_n dX9_power_7 rfl 1 rfl ?_
  refine z_icmp_ge (tgt := 25) dX9_power_8 (by decide) (fun h1 => ?_) (fun h1 => ?_)
  ·
    refine z_lload_n dX9_power_25 rfl 2 rfl ?_
    exact z_lret rfl dX9_power_26 (kk.1 h1)
  ·
    refine z_lload_n dX9_power_11 rfl 2 rfl ?_
    refine z_aload_n dX9_power_12 rfl 0 rfl ?_
    refine z_geti (ci := 9) (j := 3) (T := TX9) rfl rfl hX9 rfl (by decide) fkX9_16 dX9_power_13 ?_
    refine z_i2l dX9_power_16 ?_
    refine z_lmul dX9_power_17 ?_
    refine z_lstore_n (lv' := [(2, .long (x2 * (Int32.toInt64 (mem 21 3)))), (0, .ref 21), (1, .int x1), (4, .int x4)]) dX9_power_18 rfl (by decide) rfl ?_
    refine z_iinc (v := x4 + 1) (lv' := [(4, .int (x4 + 1)), (2, .long (x2 * (Int32.toInt64 (mem 21 3)))), (0, .ref 21), (1, .int x1)]) dX9_power_19 3 rfl (by rw [zciconst_1]) (by decide) rfl ?_
    refine z_goto (tgt := 5) dX9_power_22 (by decide) ?_
    refine z_sub [2, 3, 1, 0] rfl ?_
    exact (kk.2 h1)
theorem dX9_papers_0 : decode cX9_papers 0 = .ok (.aload_n 0, 1) := by decide +kernel
theorem dX9_papers_1 : decode cX9_papers 1 = .ok (.iconst 0, 1) := by decide +kernel
theorem dX9_papers_2 : decode cX9_papers 2 = .ok (.putfield 69, 3) := by decide +kernel
theorem dX9_papers_5 : decode cX9_papers 5 = .ok (.aload_n 0, 1) := by decide +kernel
theorem dX9_papers_6 : decode cX9_papers 6 = .ok (.invokevirtual 72, 3) := by decide +kernel
theorem dX9_papers_9 : decode cX9_papers 9 = .ok (.bipush 25, 2) := by decide +kernel
theorem dX9_papers_11 : decode cX9_papers 11 = .ok (.if_icmp .le 9, 3) := by decide +kernel
theorem dX9_papers_14 : decode cX9_papers 14 = .ok (.ldc2_w 173, 3) := by decide +kernel
theorem dX9_papers_17 : decode cX9_papers 17 = .ok (.goto 13, 3) := by decide +kernel
theorem dX9_papers_20 : decode cX9_papers 20 = .ok (.aload_n 0, 1) := by decide +kernel
theorem dX9_papers_21 : decode cX9_papers 21 = .ok (.aload_n 0, 1) := by decide +kernel
theorem dX9_papers_22 : decode cX9_papers 22 = .ok (.bipush (-9), 2) := by decide +kernel
theorem dX9_papers_24 : decode cX9_papers 24 = .ok (.invokevirtual 164, 3) := by decide +kernel
theorem dX9_papers_27 : decode cX9_papers 27 = .ok (.invokevirtual 175, 3) := by decide +kernel
theorem dX9_papers_30 : decode cX9_papers 30 = .ok (.lreturn, 1) := by decide +kernel
theorem bX9_papers_0 (mem : zm_Mem) (post : zm_Post) (kk : zm_Call gX9_cells [.ref 21] (zm_st mem 21 0 0) (fun r1 w1 u1 => ((r1 ≤ 25 → zm_Call gX9_layRings [.ref 21, .int (-9)] u1 (fun r3 w3 u3 => zm_Call gX9_power [.ref 21, .int r3] u3 (fun r4 w4 u4 => post 0 w4 u4))) ∧ (¬ r1 ≤ 25 → post 0 (-3) u1)))) : zm_Call gX9_papers [.ref 21] mem post := by
  refine z_entry (by decide) (Nat.le_of_ble_eq_true rfl) ?_
  show zm_Z gX9_papers post 0 [(0, .ref 21)] [] mem
  refine z_aload_n dX9_papers_0 rfl 0 rfl ?_
  refine z_iconst (v := 0) dX9_papers_1 zciconst_0 ?_
  refine z_put (ci := 9) (j := 0) (T := TX9) (ty0 := tyX9) rfl rfl hX9 tyX9_ok nmX9 rfl (by decide) fkX9_69 rfl rfl rfl dX9_papers_2 ?_
  refine z_aload_n dX9_papers_5 rfl 0 rfl ?_
  refine z_callVi (g' := gX9_cells) [] (q := 21) (ci := 9) (T := TX9) rfl rfl ⟨lkX9_72, pdX9_cells, by decide, by decide⟩ ⟨_, rfl, by decide⟩ rfl (Nat.le_of_ble_eq_true rfl) dX9_papers_6 (zm_Call.mono kk (fun r1 w1 u1 k1 => ?_))
  refine z_bipush (v := 25) dX9_papers_9 zcbipush_25 ?_
  refine z_icmp_le (tgt := 20) dX9_papers_11 (by decide) (fun h2 => ?_) (fun h2 => ?_)
  ·
    refine z_aload_n dX9_papers_20 rfl 0 rfl ?_
    refine z_aload_n dX9_papers_21 rfl 0 rfl ?_
    refine z_bipush (v := (-9)) dX9_papers_22 zcbipush_m9 ?_
    refine z_callVi (g' := gX9_layRings) [.int (-9)] (q := 21) (ci := 9) (T := TX9) rfl rfl ⟨lkX9_164, pdX9_layRings, by decide, by decide⟩ ⟨_, rfl, by decide⟩ rfl (Nat.le_of_ble_eq_true rfl) dX9_papers_24 (zm_Call.mono (k1.1 h2) (fun r3 w3 u3 k3 => ?_))
    refine z_callVl (g' := gX9_power) [.int r3] (q := 21) (ci := 9) (T := TX9) rfl rfl ⟨lkX9_175, pdX9_power, by decide, by decide⟩ rfl rfl (Nat.le_of_ble_eq_true rfl) dX9_papers_27 (zm_Call.mono k3 (fun r4 w4 u4 k4 => ?_))
    exact z_lret rfl dX9_papers_30 k4
  ·
    refine z_ldc2 (v := (-3)) dX9_papers_14 fkX9_173 ?_
    refine z_goto (tgt := 30) dX9_papers_17 (by decide) ?_
    exact z_lret rfl dX9_papers_30 (k1.2 h2)
theorem dX9_upTo_0 : decode cX9_upTo 0 = .ok (.aload_n 0, 1) := by decide +kernel
theorem dX9_upTo_1 : decode cX9_upTo 1 = .ok (.iconst 0, 1) := by decide +kernel
theorem dX9_upTo_2 : decode cX9_upTo 2 = .ok (.putfield 69, 3) := by decide +kernel
theorem dX9_upTo_5 : decode cX9_upTo 5 = .ok (.aload_n 0, 1) := by decide +kernel
theorem dX9_upTo_6 : decode cX9_upTo 6 = .ok (.invokevirtual 72, 3) := by decide +kernel
theorem dX9_upTo_9 : decode cX9_upTo 9 = .ok (.bipush 25, 2) := by decide +kernel
theorem dX9_upTo_11 : decode cX9_upTo 11 = .ok (.if_icmp .le 7, 3) := by decide +kernel
theorem dX9_upTo_14 : decode cX9_upTo 14 = .ok (.ldc2_w 173, 3) := by decide +kernel
theorem dX9_upTo_17 : decode cX9_upTo 17 = .ok (.lreturn, 1) := by decide +kernel
theorem dX9_upTo_18 : decode cX9_upTo 18 = .ok (.lconst 0, 1) := by decide +kernel
theorem dX9_upTo_19 : decode cX9_upTo 19 = .ok (.lstore_n 1, 1) := by decide +kernel
theorem dX9_upTo_20 : decode cX9_upTo 20 = .ok (.lconst 0, 1) := by decide +kernel
theorem dX9_upTo_21 : decode cX9_upTo 21 = .ok (.lstore_n 3, 1) := by decide +kernel
theorem dX9_upTo_22 : decode cX9_upTo 22 = .ok (.iconst 0, 1) := by decide +kernel
theorem dX9_upTo_23 : decode cX9_upTo 23 = .ok (.istore 5, 2) := by decide +kernel
theorem dX9_upTo_25 : decode cX9_upTo 25 = .ok (.iload 5, 2) := by decide +kernel
theorem dX9_upTo_27 : decode cX9_upTo 27 = .ok (.bipush 8, 2) := by decide +kernel
theorem dX9_upTo_29 : decode cX9_upTo 29 = .ok (.aload_n 0, 1) := by decide +kernel
theorem dX9_upTo_30 : decode cX9_upTo 30 = .ok (.invokevirtual 72, 3) := by decide +kernel
theorem dX9_upTo_33 : decode cX9_upTo 33 = .ok (.imul, 1) := by decide +kernel
theorem dX9_upTo_34 : decode cX9_upTo 34 = .ok (.if_icmp .ge 35, 3) := by decide +kernel
theorem dX9_upTo_37 : decode cX9_upTo 37 = .ok (.aload_n 0, 1) := by decide +kernel
theorem dX9_upTo_38 : decode cX9_upTo 38 = .ok (.iload 5, 2) := by decide +kernel
theorem dX9_upTo_40 : decode cX9_upTo 40 = .ok (.invokevirtual 110, 3) := by decide +kernel
theorem dX9_upTo_43 : decode cX9_upTo 43 = .ok (.ifCond .ne 20, 3) := by decide +kernel
theorem dX9_upTo_46 : decode cX9_upTo 46 = .ok (.lload_n 1, 1) := by decide +kernel
theorem dX9_upTo_47 : decode cX9_upTo 47 = .ok (.aload_n 0, 1) := by decide +kernel
theorem dX9_upTo_48 : decode cX9_upTo 48 = .ok (.aload_n 0, 1) := by decide +kernel
theorem dX9_upTo_49 : decode cX9_upTo 49 = .ok (.iload 5, 2) := by decide +kernel
theorem dX9_upTo_51 : decode cX9_upTo 51 = .ok (.invokevirtual 164, 3) := by decide +kernel
theorem dX9_upTo_54 : decode cX9_upTo 54 = .ok (.invokevirtual 175, 3) := by decide +kernel
theorem dX9_upTo_57 : decode cX9_upTo 57 = .ok (.ladd, 1) := by decide +kernel
theorem dX9_upTo_58 : decode cX9_upTo 58 = .ok (.lstore_n 1, 1) := by decide +kernel
theorem dX9_upTo_59 : decode cX9_upTo 59 = .ok (.lload_n 3, 1) := by decide +kernel
theorem dX9_upTo_60 : decode cX9_upTo 60 = .ok (.lconst 1, 1) := by decide +kernel
theorem dX9_upTo_61 : decode cX9_upTo 61 = .ok (.ladd, 1) := by decide +kernel
theorem dX9_upTo_62 : decode cX9_upTo 62 = .ok (.lstore_n 3, 1) := by decide +kernel
theorem dX9_upTo_63 : decode cX9_upTo 63 = .ok (.iinc 5 1, 3) := by decide +kernel
theorem dX9_upTo_66 : decode cX9_upTo 66 = .ok (.goto (-41), 3) := by decide +kernel
theorem dX9_upTo_69 : decode cX9_upTo 69 = .ok (.lload_n 1, 1) := by decide +kernel
theorem dX9_upTo_70 : decode cX9_upTo 70 = .ok (.lload_n 3, 1) := by decide +kernel
theorem dX9_upTo_71 : decode cX9_upTo 71 = .ok (.ldiv, 1) := by decide +kernel
theorem dX9_upTo_72 : decode cX9_upTo 72 = .ok (.lreturn, 1) := by decide +kernel
theorem bX9_upTo_0 (mem : zm_Mem) (post : zm_Post) (kk : zm_Call gX9_cells [.ref 21] (zm_st mem 21 0 0) (fun r1 w1 u1 => ((r1 ≤ 25 → zm_Z gX9_upTo post 25 [(0, .ref 21), (1, .long 0), (3, .long 0), (5, .int 0)] [] u1) ∧ (¬ r1 ≤ 25 → post 0 (-3) u1)))) : zm_Call gX9_upTo [.ref 21] mem post := by
  refine z_entry (by decide) (Nat.le_of_ble_eq_true rfl) ?_
  show zm_Z gX9_upTo post 0 [(0, .ref 21)] [] mem
  refine z_aload_n dX9_upTo_0 rfl 0 rfl ?_
  refine z_iconst (v := 0) dX9_upTo_1 zciconst_0 ?_
  refine z_put (ci := 9) (j := 0) (T := TX9) (ty0 := tyX9) rfl rfl hX9 tyX9_ok nmX9 rfl (by decide) fkX9_69 rfl rfl rfl dX9_upTo_2 ?_
  refine z_aload_n dX9_upTo_5 rfl 0 rfl ?_
  refine z_callVi (g' := gX9_cells) [] (q := 21) (ci := 9) (T := TX9) rfl rfl ⟨lkX9_72, pdX9_cells, by decide, by decide⟩ ⟨_, rfl, by decide⟩ rfl (Nat.le_of_ble_eq_true rfl) dX9_upTo_6 (zm_Call.mono kk (fun r1 w1 u1 k1 => ?_))
  refine z_bipush (v := 25) dX9_upTo_9 zcbipush_25 ?_
  refine z_icmp_le (tgt := 18) dX9_upTo_11 (by decide) (fun h2 => ?_) (fun h2 => ?_)
  ·
    refine z_lconst (v := 0) dX9_upTo_18 zclconst_0 ?_
    refine z_lstore_n (lv' := [(1, .long 0), (0, .ref 21)]) dX9_upTo_19 rfl (by decide) rfl ?_
    refine z_lconst (v := 0) dX9_upTo_20 zclconst_0 ?_
    refine z_lstore_n (lv' := [(3, .long 0), (1, .long 0), (0, .ref 21)]) dX9_upTo_21 rfl (by decide) rfl ?_
    refine z_iconst (v := 0) dX9_upTo_22 zciconst_0 ?_
    refine z_istore (lv' := [(5, .int 0), (3, .long 0), (1, .long 0), (0, .ref 21)]) dX9_upTo_23 (by decide) rfl ?_
    refine z_sub [3, 2, 1, 0] rfl ?_
    exact (k1.1 h2)
  ·
    refine z_ldc2 (v := (-3)) dX9_upTo_14 fkX9_173 ?_
    exact z_lret rfl dX9_upTo_17 (k1.2 h2)
theorem bX9_upTo_25 (x1 : Int64) (x3 : Int64) (x5 : Int32) (mem : zm_Mem) (post : zm_Post) (kk : zm_Call gX9_cells [.ref 21] mem (fun r1 w1 u1 => (((8 * r1) ≤ x5 → (¬ x3 = 0 ∧ post 0 (x1 / x3) u1)) ∧ (¬ (8 * r1) ≤ x5 → zm_Call gX9_noMove [.ref 21, .int x5] u1 (fun r3 w3 u3 => ((¬ r3 = 0 → zm_Z gX9_upTo post 25 [(0, .ref 21), (1, .long x1), (3, .long x3), (5, .int (x5 + 1))] [] u3) ∧ (r3 = 0 → zm_Call gX9_layRings [.ref 21, .int x5] u3 (fun r5 w5 u5 => zm_Call gX9_power [.ref 21, .int r5] u5 (fun r6 w6 u6 => zm_Z gX9_upTo post 25 [(0, .ref 21), (1, .long (x1 + w6)), (3, .long (x3 + 1)), (5, .int (x5 + 1))] [] u6))))))))) : zm_Z gX9_upTo post 25 [(0, .ref 21), (1, .long x1), (3, .long x3), (5, .int x5)] [] mem := by
  refine z_iload dX9_upTo_25 3 rfl ?_
  refine z_bipush (v := 8) dX9_upTo_27 zcbipush_8 ?_
  refine z_aload_n dX9_upTo_29 rfl 0 rfl ?_
  refine z_callVi (g' := gX9_cells) [] (q := 21) (ci := 9) (T := TX9) rfl rfl ⟨lkX9_72, pdX9_cells, by decide, by decide⟩ ⟨_, rfl, by decide⟩ rfl (Nat.le_of_ble_eq_true rfl) dX9_upTo_30 (zm_Call.mono kk (fun r1 w1 u1 k1 => ?_))
  refine z_imul dX9_upTo_33 ?_
  refine z_icmp_ge (tgt := 69) dX9_upTo_34 (by decide) (fun h2 => ?_) (fun h2 => ?_)
  ·
    refine z_lload_n dX9_upTo_69 rfl 1 rfl ?_
    refine z_lload_n dX9_upTo_70 rfl 2 rfl ?_
    refine z_ldiv dX9_upTo_71 (k1.1 h2).1 ?_
    exact z_lret rfl dX9_upTo_72 (k1.1 h2).2
  ·
    refine z_aload_n dX9_upTo_37 rfl 0 rfl ?_
    refine z_iload dX9_upTo_38 3 rfl ?_
    refine z_callVi (g' := gX9_noMove) [.int x5] (q := 21) (ci := 9) (T := TX9) rfl rfl ⟨lkX9_110, pdX9_noMove, by decide, by decide⟩ ⟨_, rfl, by decide⟩ rfl (Nat.le_of_ble_eq_true rfl) dX9_upTo_40 (zm_Call.mono (k1.2 h2) (fun r3 w3 u3 k3 => ?_))
    refine z_if_ne (tgt := 63) dX9_upTo_43 (by decide) (fun h4 => ?_) (fun h4 => ?_)
    ·
      refine z_iinc (v := x5 + 1) (lv' := [(5, .int (x5 + 1)), (0, .ref 21), (1, .long x1), (3, .long x3)]) dX9_upTo_63 3 rfl (by rw [zciconst_1]) (by decide) rfl ?_
      refine z_goto (tgt := 25) dX9_upTo_66 (by decide) ?_
      refine z_sub [1, 2, 3, 0] rfl ?_
      exact (k3.1 h4)
    ·
      refine z_lload_n dX9_upTo_46 rfl 1 rfl ?_
      refine z_aload_n dX9_upTo_47 rfl 0 rfl ?_
      refine z_aload_n dX9_upTo_48 rfl 0 rfl ?_
      refine z_iload dX9_upTo_49 3 rfl ?_
      refine z_callVi (g' := gX9_layRings) [.int x5] (q := 21) (ci := 9) (T := TX9) rfl rfl ⟨lkX9_164, pdX9_layRings, by decide, by decide⟩ ⟨_, rfl, by decide⟩ rfl (Nat.le_of_ble_eq_true rfl) dX9_upTo_51 (zm_Call.mono (k3.2 h4) (fun r5 w5 u5 k5 => ?_))
      refine z_callVl (g' := gX9_power) [.int r5] (q := 21) (ci := 9) (T := TX9) rfl rfl ⟨lkX9_175, pdX9_power, by decide, by decide⟩ rfl rfl (Nat.le_of_ble_eq_true rfl) dX9_upTo_54 (zm_Call.mono k5 (fun r6 w6 u6 k6 => ?_))
      refine z_ladd dX9_upTo_57 ?_
      refine z_lstore_n (lv' := [(1, .long (x1 + w6)), (0, .ref 21), (3, .long x3), (5, .int x5)]) dX9_upTo_58 rfl (by decide) rfl ?_
      refine z_lload_n dX9_upTo_59 rfl 2 rfl ?_
      refine z_lconst (v := 1) dX9_upTo_60 zclconst_1 ?_
      refine z_ladd dX9_upTo_61 ?_
      refine z_lstore_n (lv' := [(3, .long (x3 + 1)), (1, .long (x1 + w6)), (0, .ref 21), (5, .int x5)]) dX9_upTo_62 rfl (by decide) rfl ?_
      refine z_iinc (v := x5 + 1) (lv' := [(5, .int (x5 + 1)), (3, .long (x3 + 1)), (1, .long (x1 + w6)), (0, .ref 21)]) dX9_upTo_63 3 rfl (by rw [zciconst_1]) (by decide) rfl ?_
      refine z_goto (tgt := 25) dX9_upTo_66 (by decide) ?_
      refine z_sub [3, 2, 1, 0] rfl ?_
      exact k6
theorem dX9_like_0 : decode cX9_like 0 = .ok (.aload_n 0, 1) := by decide +kernel
theorem dX9_like_1 : decode cX9_like 1 = .ok (.iconst 0, 1) := by decide +kernel
theorem dX9_like_2 : decode cX9_like 2 = .ok (.putfield 69, 3) := by decide +kernel
theorem dX9_like_5 : decode cX9_like 5 = .ok (.iconst 0, 1) := by decide +kernel
theorem dX9_like_6 : decode cX9_like 6 = .ok (.istore_n 1, 1) := by decide +kernel
theorem dX9_like_7 : decode cX9_like 7 = .ok (.iconst 0, 1) := by decide +kernel
theorem dX9_like_8 : decode cX9_like 8 = .ok (.istore_n 2, 1) := by decide +kernel
theorem dX9_like_9 : decode cX9_like 9 = .ok (.iload_n 2, 1) := by decide +kernel
theorem dX9_like_10 : decode cX9_like 10 = .ok (.bipush 8, 2) := by decide +kernel
theorem dX9_like_12 : decode cX9_like 12 = .ok (.aload_n 0, 1) := by decide +kernel
theorem dX9_like_13 : decode cX9_like 13 = .ok (.invokevirtual 72, 3) := by decide +kernel
theorem dX9_like_16 : decode cX9_like 16 = .ok (.imul, 1) := by decide +kernel
theorem dX9_like_17 : decode cX9_like 17 = .ok (.if_icmp .ge 160, 3) := by decide +kernel
theorem dX9_like_20 : decode cX9_like 20 = .ok (.aload_n 0, 1) := by decide +kernel
theorem dX9_like_21 : decode cX9_like 21 = .ok (.iload_n 2, 1) := by decide +kernel
theorem dX9_like_22 : decode cX9_like 22 = .ok (.invokevirtual 110, 3) := by decide +kernel
theorem dX9_like_25 : decode cX9_like 25 = .ok (.ifCond .ne 146, 3) := by decide +kernel
theorem dX9_like_28 : decode cX9_like 28 = .ok (.iconst 0, 1) := by decide +kernel
theorem dX9_like_29 : decode cX9_like 29 = .ok (.istore_n 3, 1) := by decide +kernel
theorem dX9_like_30 : decode cX9_like 30 = .ok (.iload_n 3, 1) := by decide +kernel
theorem dX9_like_31 : decode cX9_like 31 = .ok (.aload_n 0, 1) := by decide +kernel
theorem dX9_like_32 : decode cX9_like 32 = .ok (.invokevirtual 72, 3) := by decide +kernel
theorem dX9_like_35 : decode cX9_like 35 = .ok (.if_icmp .ge 31, 3) := by decide +kernel
theorem dX9_like_38 : decode cX9_like 38 = .ok (.aload_n 0, 1) := by decide +kernel
theorem dX9_like_39 : decode cX9_like 39 = .ok (.getfield 66, 3) := by decide +kernel
theorem dX9_like_42 : decode cX9_like 42 = .ok (.bipush 36, 2) := by decide +kernel
theorem dX9_like_44 : decode cX9_like 44 = .ok (.iload_n 1, 1) := by decide +kernel
theorem dX9_like_45 : decode cX9_like 45 = .ok (.imul, 1) := by decide +kernel
theorem dX9_like_46 : decode cX9_like 46 = .ok (.aload_n 0, 1) := by decide +kernel
theorem dX9_like_47 : decode cX9_like 47 = .ok (.iload_n 2, 1) := by decide +kernel
theorem dX9_like_48 : decode cX9_like 48 = .ok (.iload_n 3, 1) := by decide +kernel
theorem dX9_like_49 : decode cX9_like 49 = .ok (.invokevirtual 113, 3) := by decide +kernel
theorem dX9_like_52 : decode cX9_like 52 = .ok (.iadd, 1) := by decide +kernel
theorem dX9_like_53 : decode cX9_like 53 = .ok (.aload_n 0, 1) := by decide +kernel
theorem dX9_like_54 : decode cX9_like 54 = .ok (.getfield 19, 3) := by decide +kernel
theorem dX9_like_57 : decode cX9_like 57 = .ok (.iload_n 3, 1) := by decide +kernel
theorem dX9_like_58 : decode cX9_like 58 = .ok (.iaload, 1) := by decide +kernel
theorem dX9_like_59 : decode cX9_like 59 = .ok (.iastore, 1) := by decide +kernel
theorem dX9_like_60 : decode cX9_like 60 = .ok (.iinc 3 1, 3) := by decide +kernel
theorem dX9_like_63 : decode cX9_like 63 = .ok (.goto (-33), 3) := by decide +kernel
theorem dX9_like_66 : decode cX9_like 66 = .ok (.iconst 1, 1) := by decide +kernel
theorem dX9_like_67 : decode cX9_like 67 = .ok (.istore_n 3, 1) := by decide +kernel
theorem dX9_like_68 : decode cX9_like 68 = .ok (.iconst 0, 1) := by decide +kernel
theorem dX9_like_69 : decode cX9_like 69 = .ok (.istore 4, 2) := by decide +kernel
theorem dX9_like_71 : decode cX9_like 71 = .ok (.iload 4, 2) := by decide +kernel
theorem dX9_like_73 : decode cX9_like 73 = .ok (.iload_n 1, 1) := by decide +kernel
theorem dX9_like_74 : decode cX9_like 74 = .ok (.if_icmp .ge 85, 3) := by decide +kernel
theorem dX9_like_77 : decode cX9_like 77 = .ok (.iload_n 3, 1) := by decide +kernel
theorem dX9_like_78 : decode cX9_like 78 = .ok (.ifCond .eq 81, 3) := by decide +kernel
theorem dX9_like_81 : decode cX9_like 81 = .ok (.iconst 1, 1) := by decide +kernel
theorem dX9_like_82 : decode cX9_like 82 = .ok (.istore 5, 2) := by decide +kernel
theorem dX9_like_84 : decode cX9_like 84 = .ok (.iconst 0, 1) := by decide +kernel
theorem dX9_like_85 : decode cX9_like 85 = .ok (.istore 6, 2) := by decide +kernel
theorem dX9_like_87 : decode cX9_like 87 = .ok (.iload 6, 2) := by decide +kernel
theorem dX9_like_89 : decode cX9_like 89 = .ok (.aload_n 0, 1) := by decide +kernel
theorem dX9_like_90 : decode cX9_like 90 = .ok (.invokevirtual 72, 3) := by decide +kernel
theorem dX9_like_93 : decode cX9_like 93 = .ok (.if_icmp .ge 49, 3) := by decide +kernel
theorem dX9_like_96 : decode cX9_like 96 = .ok (.iload 5, 2) := by decide +kernel
theorem dX9_like_98 : decode cX9_like 98 = .ok (.ifCond .eq 44, 3) := by decide +kernel
theorem dX9_like_101 : decode cX9_like 101 = .ok (.aload_n 0, 1) := by decide +kernel
theorem dX9_like_102 : decode cX9_like 102 = .ok (.getfield 66, 3) := by decide +kernel
theorem dX9_like_105 : decode cX9_like 105 = .ok (.bipush 36, 2) := by decide +kernel
theorem dX9_like_107 : decode cX9_like 107 = .ok (.iload 4, 2) := by decide +kernel
theorem dX9_like_109 : decode cX9_like 109 = .ok (.imul, 1) := by decide +kernel
theorem dX9_like_110 : decode cX9_like 110 = .ok (.iload 6, 2) := by decide +kernel
theorem dX9_like_112 : decode cX9_like 112 = .ok (.iadd, 1) := by decide +kernel
theorem dX9_like_113 : decode cX9_like 113 = .ok (.iaload, 1) := by decide +kernel
theorem dX9_like_114 : decode cX9_like 114 = .ok (.aload_n 0, 1) := by decide +kernel
theorem dX9_like_115 : decode cX9_like 115 = .ok (.getfield 66, 3) := by decide +kernel
theorem dX9_like_118 : decode cX9_like 118 = .ok (.bipush 36, 2) := by decide +kernel
theorem dX9_like_120 : decode cX9_like 120 = .ok (.iload_n 1, 1) := by decide +kernel
theorem dX9_like_121 : decode cX9_like 121 = .ok (.imul, 1) := by decide +kernel
theorem dX9_like_122 : decode cX9_like 122 = .ok (.iload 6, 2) := by decide +kernel
theorem dX9_like_124 : decode cX9_like 124 = .ok (.iadd, 1) := by decide +kernel
theorem dX9_like_125 : decode cX9_like 125 = .ok (.iaload, 1) := by decide +kernel
theorem dX9_like_126 : decode cX9_like 126 = .ok (.if_icmp .ne 7, 3) := by decide +kernel
theorem dX9_like_129 : decode cX9_like 129 = .ok (.iconst 1, 1) := by decide +kernel
theorem dX9_like_130 : decode cX9_like 130 = .ok (.goto 4, 3) := by decide +kernel
theorem dX9_like_133 : decode cX9_like 133 = .ok (.iconst 0, 1) := by decide +kernel
theorem dX9_like_134 : decode cX9_like 134 = .ok (.istore 5, 2) := by decide +kernel
theorem dX9_like_136 : decode cX9_like 136 = .ok (.iinc 6 1, 3) := by decide +kernel
theorem dX9_like_139 : decode cX9_like 139 = .ok (.goto (-52), 3) := by decide +kernel
theorem dX9_like_142 : decode cX9_like 142 = .ok (.iload 5, 2) := by decide +kernel
theorem dX9_like_144 : decode cX9_like 144 = .ok (.ifCond .ne 7, 3) := by decide +kernel
theorem dX9_like_147 : decode cX9_like 147 = .ok (.iconst 1, 1) := by decide +kernel
theorem dX9_like_148 : decode cX9_like 148 = .ok (.goto 4, 3) := by decide +kernel
theorem dX9_like_151 : decode cX9_like 151 = .ok (.iconst 0, 1) := by decide +kernel
theorem dX9_like_152 : decode cX9_like 152 = .ok (.istore_n 3, 1) := by decide +kernel
theorem dX9_like_153 : decode cX9_like 153 = .ok (.iinc 4 1, 3) := by decide +kernel
theorem dX9_like_156 : decode cX9_like 156 = .ok (.goto (-85), 3) := by decide +kernel
theorem dX9_like_159 : decode cX9_like 159 = .ok (.iload_n 1, 1) := by decide +kernel
theorem dX9_like_160 : decode cX9_like 160 = .ok (.iload_n 3, 1) := by decide +kernel
theorem dX9_like_161 : decode cX9_like 161 = .ok (.ifCond .eq 7, 3) := by decide +kernel
theorem dX9_like_164 : decode cX9_like 164 = .ok (.iconst 1, 1) := by decide +kernel
theorem dX9_like_165 : decode cX9_like 165 = .ok (.goto 4, 3) := by decide +kernel
theorem dX9_like_168 : decode cX9_like 168 = .ok (.iconst 0, 1) := by decide +kernel
theorem dX9_like_169 : decode cX9_like 169 = .ok (.iadd, 1) := by decide +kernel
theorem dX9_like_170 : decode cX9_like 170 = .ok (.istore_n 1, 1) := by decide +kernel
theorem dX9_like_171 : decode cX9_like 171 = .ok (.iinc 2 1, 3) := by decide +kernel
theorem dX9_like_174 : decode cX9_like 174 = .ok (.goto (-165), 3) := by decide +kernel
theorem dX9_like_177 : decode cX9_like 177 = .ok (.iload_n 1, 1) := by decide +kernel
theorem dX9_like_178 : decode cX9_like 178 = .ok (.ireturn, 1) := by decide +kernel
theorem bX9_like_0 (mem : zm_Mem) (post : zm_Post) (kk : zm_Z gX9_like post 9 [(0, .ref 21), (1, .int 0), (2, .int 0)] [] (zm_st mem 21 0 0)) : zm_Call gX9_like [.ref 21] mem post := by
  refine z_entry (by decide) (Nat.le_of_ble_eq_true rfl) ?_
  show zm_Z gX9_like post 0 [(0, .ref 21)] [] mem
  refine z_aload_n dX9_like_0 rfl 0 rfl ?_
  refine z_iconst (v := 0) dX9_like_1 zciconst_0 ?_
  refine z_put (ci := 9) (j := 0) (T := TX9) (ty0 := tyX9) rfl rfl hX9 tyX9_ok nmX9 rfl (by decide) fkX9_69 rfl rfl rfl dX9_like_2 ?_
  refine z_iconst (v := 0) dX9_like_5 zciconst_0 ?_
  refine z_istore_n (lv' := [(1, .int 0), (0, .ref 21)]) dX9_like_6 rfl (by decide) rfl ?_
  refine z_iconst (v := 0) dX9_like_7 zciconst_0 ?_
  refine z_istore_n (lv' := [(2, .int 0), (1, .int 0), (0, .ref 21)]) dX9_like_8 rfl (by decide) rfl ?_
  refine z_sub [2, 1, 0] rfl ?_
  exact kk
theorem bX9_like_9 (x1 : Int32) (x2 : Int32) (mem : zm_Mem) (post : zm_Post) (kk : zm_Call gX9_cells [.ref 21] mem (fun r1 w1 u1 => (((8 * r1) ≤ x2 → post x1 0 u1) ∧ (¬ (8 * r1) ≤ x2 → zm_Call gX9_noMove [.ref 21, .int x2] u1 (fun r3 w3 u3 => ((¬ r3 = 0 → zm_Z gX9_like post 9 [(0, .ref 21), (1, .int x1), (2, .int (x2 + 1))] [] u3) ∧ (r3 = 0 → zm_Z gX9_like post 30 [(0, .ref 21), (1, .int x1), (2, .int x2), (3, .int 0)] [] u3))))))) : zm_Z gX9_like post 9 [(0, .ref 21), (1, .int x1), (2, .int x2)] [] mem := by
  refine z_iload_n dX9_like_9 rfl 2 rfl ?_
  refine z_bipush (v := 8) dX9_like_10 zcbipush_8 ?_
  refine z_aload_n dX9_like_12 rfl 0 rfl ?_
  refine z_callVi (g' := gX9_cells) [] (q := 21) (ci := 9) (T := TX9) rfl rfl ⟨lkX9_72, pdX9_cells, by decide, by decide⟩ ⟨_, rfl, by decide⟩ rfl (Nat.le_of_ble_eq_true rfl) dX9_like_13 (zm_Call.mono kk (fun r1 w1 u1 k1 => ?_))
  refine z_imul dX9_like_16 ?_
  refine z_icmp_ge (tgt := 177) dX9_like_17 (by decide) (fun h2 => ?_) (fun h2 => ?_)
  ·
    refine z_iload_n dX9_like_177 rfl 1 rfl ?_
    exact z_iret rfl dX9_like_178 (k1.1 h2)
  ·
    refine z_aload_n dX9_like_20 rfl 0 rfl ?_
    refine z_iload_n dX9_like_21 rfl 2 rfl ?_
    refine z_callVi (g' := gX9_noMove) [.int x2] (q := 21) (ci := 9) (T := TX9) rfl rfl ⟨lkX9_110, pdX9_noMove, by decide, by decide⟩ ⟨_, rfl, by decide⟩ rfl (Nat.le_of_ble_eq_true rfl) dX9_like_22 (zm_Call.mono (k1.2 h2) (fun r3 w3 u3 k3 => ?_))
    refine z_if_ne (tgt := 171) dX9_like_25 (by decide) (fun h4 => ?_) (fun h4 => ?_)
    ·
      refine z_iinc (v := x2 + 1) (lv' := [(2, .int (x2 + 1)), (0, .ref 21), (1, .int x1)]) dX9_like_171 2 rfl (by rw [zciconst_1]) (by decide) rfl ?_
      refine z_goto (tgt := 9) dX9_like_174 (by decide) ?_
      refine z_sub [1, 2, 0] rfl ?_
      exact (k3.1 h4)
    ·
      refine z_iconst (v := 0) dX9_like_28 zciconst_0 ?_
      refine z_istore_n (lv' := [(3, .int 0), (0, .ref 21), (1, .int x1), (2, .int x2)]) dX9_like_29 rfl (by decide) rfl ?_
      refine z_sub [1, 2, 3, 0] rfl ?_
      exact (k3.2 h4)
theorem bX9_like_30 (x1 : Int32) (x2 : Int32) (x3 : Int32) (mem : zm_Mem) (post : zm_Post) (kk : zm_Call gX9_cells [.ref 21] mem (fun r1 w1 u1 => ((r1 ≤ x3 → zm_Z gX9_like post 71 [(0, .ref 21), (1, .int x1), (2, .int x2), (3, .int 1), (4, .int 0)] [] u1) ∧ (¬ r1 ≤ x3 → zm_Call gX9_ledTo [.ref 21, .int x2, .int x3] u1 (fun r3 w3 u3 => (vp_in x3 36 ∧ (vp_in ((36 * x1) + r3) 10368 ∧ zm_Z gX9_like post 30 [(0, .ref 21), (1, .int x1), (2, .int x2), (3, .int (x3 + 1))] [] (zm_st u3 37 (Int32.toNatClampNeg ((36 * x1) + r3)) (u3 22 (Int32.toNatClampNeg x3)))))))))) : zm_Z gX9_like post 30 [(0, .ref 21), (1, .int x1), (2, .int x2), (3, .int x3)] [] mem := by
  refine z_iload_n dX9_like_30 rfl 3 rfl ?_
  refine z_aload_n dX9_like_31 rfl 0 rfl ?_
  refine z_callVi (g' := gX9_cells) [] (q := 21) (ci := 9) (T := TX9) rfl rfl ⟨lkX9_72, pdX9_cells, by decide, by decide⟩ ⟨_, rfl, by decide⟩ rfl (Nat.le_of_ble_eq_true rfl) dX9_like_32 (zm_Call.mono kk (fun r1 w1 u1 k1 => ?_))
  refine z_icmp_ge (tgt := 66) dX9_like_35 (by decide) (fun h2 => ?_) (fun h2 => ?_)
  ·
    refine z_iconst (v := 1) dX9_like_66 zciconst_1 ?_
    refine z_istore_n (lv' := [(3, .int 1), (0, .ref 21), (1, .int x1), (2, .int x2)]) dX9_like_67 rfl (by decide) rfl ?_
    refine z_iconst (v := 0) dX9_like_68 zciconst_0 ?_
    refine z_istore (lv' := [(4, .int 0), (3, .int 1), (0, .ref 21), (1, .int x1), (2, .int x2)]) dX9_like_69 (by decide) rfl ?_
    refine z_sub [2, 3, 4, 1, 0] rfl ?_
    exact (k1.1 h2)
  ·
    refine z_aload_n dX9_like_38 rfl 0 rfl ?_
    refine z_getr (ci := 9) (j := 21) (r := 37) (T := TX9) rfl rfl hX9 rfl (by decide) fkX9_66 dX9_like_39 ?_
    refine z_bipush (v := 36) dX9_like_42 zcbipush_36 ?_
    refine z_iload_n dX9_like_44 rfl 1 rfl ?_
    refine z_imul dX9_like_45 ?_
    refine z_aload_n dX9_like_46 rfl 0 rfl ?_
    refine z_iload_n dX9_like_47 rfl 2 rfl ?_
    refine z_iload_n dX9_like_48 rfl 3 rfl ?_
    refine z_callVi (g' := gX9_ledTo) [.int x2, .int x3] (q := 21) (ci := 9) (T := TX9) rfl rfl ⟨lkX9_113, pdX9_ledTo, by decide, by decide⟩ ⟨_, rfl, by decide⟩ rfl (Nat.le_of_ble_eq_true rfl) dX9_like_49 (zm_Call.mono (k1.2 h2) (fun r3 w3 u3 k3 => ?_))
    refine z_iadd dX9_like_52 ?_
    refine z_aload_n dX9_like_53 rfl 0 rfl ?_
    refine z_getr (ci := 9) (j := 4) (r := 22) (T := TX9) rfl rfl hX9 rfl (by decide) fkX9_19 dX9_like_54 ?_
    refine z_iload_n dX9_like_57 rfl 3 rfl ?_
    refine z_iald (n := 36) rfl k3.1 dX9_like_58 ?_
    refine z_iast (n := 10368) rfl k3.2.1 dX9_like_59 ?_
    refine z_iinc (v := x3 + 1) (lv' := [(3, .int (x3 + 1)), (0, .ref 21), (1, .int x1), (2, .int x2)]) dX9_like_60 3 rfl (by rw [zciconst_1]) (by decide) rfl ?_
    refine z_goto (tgt := 30) dX9_like_63 (by decide) ?_
    refine z_sub [1, 2, 3, 0] rfl ?_
    exact k3.2.2
theorem bX9_like_71 (x1 : Int32) (x2 : Int32) (x3 : Int32) (x4 : Int32) (mem : zm_Mem) (post : zm_Post) (kk : ((x1 ≤ x4 → zm_Z gX9_like post 159 [(0, .ref 21), (1, .int x1), (2, .int x2), (3, .int x3)] [] mem) ∧ (¬ x1 ≤ x4 → ((x3 = 0 → zm_Z gX9_like post 159 [(0, .ref 21), (1, .int x1), (2, .int x2), (3, .int x3)] [] mem) ∧ (¬ x3 = 0 → zm_Z gX9_like post 87 [(0, .ref 21), (1, .int x1), (2, .int x2), (4, .int x4), (5, .int 1), (6, .int 0)] [] mem))))) : zm_Z gX9_like post 71 [(0, .ref 21), (1, .int x1), (2, .int x2), (3, .int x3), (4, .int x4)] [] mem := by
  refine z_iload dX9_like_71 4 rfl ?_
  refine z_iload_n dX9_like_73 rfl 1 rfl ?_
  refine z_icmp_ge (tgt := 159) dX9_like_74 (by decide) (fun h1 => ?_) (fun h1 => ?_)
  ·
    refine z_sub [0, 1, 2, 3] rfl ?_
    exact (kk.1 h1)
  ·
    refine z_iload_n dX9_like_77 rfl 3 rfl ?_
    refine z_if_eq (tgt := 159) dX9_like_78 (by decide) (fun h2 => ?_) (fun h2 => ?_)
    ·
      refine z_sub [0, 1, 2, 3] rfl ?_
      exact ((kk.2 h1).1 h2)
    ·
      refine z_iconst (v := 1) dX9_like_81 zciconst_1 ?_
      refine z_istore (lv' := [(5, .int 1), (0, .ref 21), (1, .int x1), (2, .int x2), (3, .int x3), (4, .int x4)]) dX9_like_82 (by decide) rfl ?_
      refine z_iconst (v := 0) dX9_like_84 zciconst_0 ?_
      refine z_istore (lv' := [(6, .int 0), (5, .int 1), (0, .ref 21), (1, .int x1), (2, .int x2), (3, .int x3), (4, .int x4)]) dX9_like_85 (by decide) rfl ?_
      refine z_sub [2, 3, 4, 6, 1, 0] rfl ?_
      exact ((kk.2 h1).2 h2)
theorem bX9_like_87 (x1 : Int32) (x2 : Int32) (x4 : Int32) (x5 : Int32) (x6 : Int32) (mem : zm_Mem) (post : zm_Post) (kk : zm_Call gX9_cells [.ref 21] mem (fun r1 w1 u1 => ((r1 ≤ x6 → zm_Z gX9_like post 142 [(0, .ref 21), (1, .int x1), (2, .int x2), (4, .int x4), (5, .int x5)] [] u1) ∧ (¬ r1 ≤ x6 → ((x5 = 0 → zm_Z gX9_like post 142 [(0, .ref 21), (1, .int x1), (2, .int x2), (4, .int x4), (5, .int x5)] [] u1) ∧ (¬ x5 = 0 → (vp_in ((36 * x4) + x6) 10368 ∧ (vp_in ((36 * x1) + x6) 10368 ∧ ((¬ (u1 37 (Int32.toNatClampNeg ((36 * x4) + x6))) = (u1 37 (Int32.toNatClampNeg ((36 * x1) + x6))) → zm_Z gX9_like post 87 [(0, .ref 21), (1, .int x1), (2, .int x2), (4, .int x4), (5, .int 0), (6, .int (x6 + 1))] [] u1) ∧ ((u1 37 (Int32.toNatClampNeg ((36 * x4) + x6))) = (u1 37 (Int32.toNatClampNeg ((36 * x1) + x6))) → zm_Z gX9_like post 87 [(0, .ref 21), (1, .int x1), (2, .int x2), (4, .int x4), (5, .int 1), (6, .int (x6 + 1))] [] u1)))))))))) : zm_Z gX9_like post 87 [(0, .ref 21), (1, .int x1), (2, .int x2), (4, .int x4), (5, .int x5), (6, .int x6)] [] mem := by
  refine z_iload dX9_like_87 5 rfl ?_
  refine z_aload_n dX9_like_89 rfl 0 rfl ?_
  refine z_callVi (g' := gX9_cells) [] (q := 21) (ci := 9) (T := TX9) rfl rfl ⟨lkX9_72, pdX9_cells, by decide, by decide⟩ ⟨_, rfl, by decide⟩ rfl (Nat.le_of_ble_eq_true rfl) dX9_like_90 (zm_Call.mono kk (fun r1 w1 u1 k1 => ?_))
  refine z_icmp_ge (tgt := 142) dX9_like_93 (by decide) (fun h2 => ?_) (fun h2 => ?_)
  ·
    refine z_sub [0, 1, 2, 3, 4] rfl ?_
    exact (k1.1 h2)
  ·
    refine z_iload dX9_like_96 4 rfl ?_
    refine z_if_eq (tgt := 142) dX9_like_98 (by decide) (fun h3 => ?_) (fun h3 => ?_)
    ·
      refine z_sub [0, 1, 2, 3, 4] rfl ?_
      exact ((k1.2 h2).1 h3)
    ·
      refine z_aload_n dX9_like_101 rfl 0 rfl ?_
      refine z_getr (ci := 9) (j := 21) (r := 37) (T := TX9) rfl rfl hX9 rfl (by decide) fkX9_66 dX9_like_102 ?_
      refine z_bipush (v := 36) dX9_like_105 zcbipush_36 ?_
      refine z_iload dX9_like_107 3 rfl ?_
      refine z_imul dX9_like_109 ?_
      refine z_iload dX9_like_110 5 rfl ?_
      refine z_iadd dX9_like_112 ?_
      refine z_iald (n := 10368) rfl ((k1.2 h2).2 h3).1 dX9_like_113 ?_
      refine z_aload_n dX9_like_114 rfl 0 rfl ?_
      refine z_getr (ci := 9) (j := 21) (r := 37) (T := TX9) rfl rfl hX9 rfl (by decide) fkX9_66 dX9_like_115 ?_
      refine z_bipush (v := 36) dX9_like_118 zcbipush_36 ?_
      refine z_iload_n dX9_like_120 rfl 1 rfl ?_
      refine z_imul dX9_like_121 ?_
      refine z_iload dX9_like_122 5 rfl ?_
      refine z_iadd dX9_like_124 ?_
      refine z_iald (n := 10368) rfl ((k1.2 h2).2 h3).2.1 dX9_like_125 ?_
      refine z_icmp_ne (tgt := 133) dX9_like_126 (by decide) (fun h4 => ?_) (fun h4 => ?_)
      ·
        refine z_iconst (v := 0) dX9_like_133 zciconst_0 ?_
        refine z_istore (lv' := [(5, .int 0), (0, .ref 21), (1, .int x1), (2, .int x2), (4, .int x4), (6, .int x6)]) dX9_like_134 (by decide) rfl ?_
        refine z_iinc (v := x6 + 1) (lv' := [(6, .int (x6 + 1)), (5, .int 0), (0, .ref 21), (1, .int x1), (2, .int x2), (4, .int x4)]) dX9_like_136 5 rfl (by rw [zciconst_1]) (by decide) rfl ?_
        refine z_goto (tgt := 87) dX9_like_139 (by decide) ?_
        refine z_sub [2, 3, 4, 5, 1, 0] rfl ?_
        exact (((k1.2 h2).2 h3).2.2.1 h4)
      ·
        refine z_iconst (v := 1) dX9_like_129 zciconst_1 ?_
        refine z_goto (tgt := 134) dX9_like_130 (by decide) ?_
        refine z_istore (lv' := [(5, .int 1), (0, .ref 21), (1, .int x1), (2, .int x2), (4, .int x4), (6, .int x6)]) dX9_like_134 (by decide) rfl ?_
        refine z_iinc (v := x6 + 1) (lv' := [(6, .int (x6 + 1)), (5, .int 1), (0, .ref 21), (1, .int x1), (2, .int x2), (4, .int x4)]) dX9_like_136 5 rfl (by rw [zciconst_1]) (by decide) rfl ?_
        refine z_goto (tgt := 87) dX9_like_139 (by decide) ?_
        refine z_sub [2, 3, 4, 5, 1, 0] rfl ?_
        exact (((k1.2 h2).2 h3).2.2.2 h4)
theorem bX9_like_142 (x1 : Int32) (x2 : Int32) (x4 : Int32) (x5 : Int32) (mem : zm_Mem) (post : zm_Post) (kk : ((¬ x5 = 0 → zm_Z gX9_like post 71 [(0, .ref 21), (1, .int x1), (2, .int x2), (3, .int 0), (4, .int (x4 + 1))] [] mem) ∧ (x5 = 0 → zm_Z gX9_like post 71 [(0, .ref 21), (1, .int x1), (2, .int x2), (3, .int 1), (4, .int (x4 + 1))] [] mem))) : zm_Z gX9_like post 142 [(0, .ref 21), (1, .int x1), (2, .int x2), (4, .int x4), (5, .int x5)] [] mem := by
  refine z_iload dX9_like_142 4 rfl ?_
  refine z_if_ne (tgt := 151) dX9_like_144 (by decide) (fun h1 => ?_) (fun h1 => ?_)
  ·
    refine z_iconst (v := 0) dX9_like_151 zciconst_0 ?_
    refine z_istore_n (lv' := [(3, .int 0), (0, .ref 21), (1, .int x1), (2, .int x2), (4, .int x4), (5, .int x5)]) dX9_like_152 rfl (by decide) rfl ?_
    refine z_iinc (v := x4 + 1) (lv' := [(4, .int (x4 + 1)), (3, .int 0), (0, .ref 21), (1, .int x1), (2, .int x2), (5, .int x5)]) dX9_like_153 4 rfl (by rw [zciconst_1]) (by decide) rfl ?_
    refine z_goto (tgt := 71) dX9_like_156 (by decide) ?_
    refine z_sub [2, 3, 4, 1, 0] rfl ?_
    exact (kk.1 h1)
  ·
    refine z_iconst (v := 1) dX9_like_147 zciconst_1 ?_
    refine z_goto (tgt := 152) dX9_like_148 (by decide) ?_
    refine z_istore_n (lv' := [(3, .int 1), (0, .ref 21), (1, .int x1), (2, .int x2), (4, .int x4), (5, .int x5)]) dX9_like_152 rfl (by decide) rfl ?_
    refine z_iinc (v := x4 + 1) (lv' := [(4, .int (x4 + 1)), (3, .int 1), (0, .ref 21), (1, .int x1), (2, .int x2), (5, .int x5)]) dX9_like_153 4 rfl (by rw [zciconst_1]) (by decide) rfl ?_
    refine z_goto (tgt := 71) dX9_like_156 (by decide) ?_
    refine z_sub [2, 3, 4, 1, 0] rfl ?_
    exact (kk.2 h1)
theorem bX9_like_159 (x1 : Int32) (x2 : Int32) (x3 : Int32) (mem : zm_Mem) (post : zm_Post) (kk : ((x3 = 0 → zm_Z gX9_like post 9 [(0, .ref 21), (1, .int (x1 + 0)), (2, .int (x2 + 1))] [] mem) ∧ (¬ x3 = 0 → zm_Z gX9_like post 9 [(0, .ref 21), (1, .int (x1 + 1)), (2, .int (x2 + 1))] [] mem))) : zm_Z gX9_like post 159 [(0, .ref 21), (1, .int x1), (2, .int x2), (3, .int x3)] [] mem := by
  refine z_iload_n dX9_like_159 rfl 1 rfl ?_
  refine z_iload_n dX9_like_160 rfl 3 rfl ?_
  refine z_if_eq (tgt := 168) dX9_like_161 (by decide) (fun h1 => ?_) (fun h1 => ?_)
  ·
    refine z_iconst (v := 0) dX9_like_168 zciconst_0 ?_
    refine z_iadd dX9_like_169 ?_
    refine z_istore_n (lv' := [(1, .int (x1 + 0)), (0, .ref 21), (2, .int x2), (3, .int x3)]) dX9_like_170 rfl (by decide) rfl ?_
    refine z_iinc (v := x2 + 1) (lv' := [(2, .int (x2 + 1)), (1, .int (x1 + 0)), (0, .ref 21), (3, .int x3)]) dX9_like_171 2 rfl (by rw [zciconst_1]) (by decide) rfl ?_
    refine z_goto (tgt := 9) dX9_like_174 (by decide) ?_
    refine z_sub [2, 1, 0] rfl ?_
    exact (kk.1 h1)
  ·
    refine z_iconst (v := 1) dX9_like_164 zciconst_1 ?_
    refine z_goto (tgt := 169) dX9_like_165 (by decide) ?_
    refine z_iadd dX9_like_169 ?_
    refine z_istore_n (lv' := [(1, .int (x1 + 1)), (0, .ref 21), (2, .int x2), (3, .int x3)]) dX9_like_170 rfl (by decide) rfl ?_
    refine z_iinc (v := x2 + 1) (lv' := [(2, .int (x2 + 1)), (1, .int (x1 + 1)), (0, .ref 21), (3, .int x3)]) dX9_like_171 2 rfl (by rw [zciconst_1]) (by decide) rfl ?_
    refine z_goto (tgt := 9) dX9_like_174 (by decide) ?_
    refine z_sub [2, 1, 0] rfl ?_
    exact (kk.2 h1)
theorem dX9_layFirst_0 : decode cX9_layFirst 0 = .ok (.bipush (-9), 2) := by decide +kernel
theorem dX9_layFirst_2 : decode cX9_layFirst 2 = .ok (.istore_n 1, 1) := by decide +kernel
theorem dX9_layFirst_3 : decode cX9_layFirst 3 = .ok (.iconst 0, 1) := by decide +kernel
theorem dX9_layFirst_4 : decode cX9_layFirst 4 = .ok (.istore_n 2, 1) := by decide +kernel
theorem dX9_layFirst_5 : decode cX9_layFirst 5 = .ok (.iload_n 2, 1) := by decide +kernel
theorem dX9_layFirst_6 : decode cX9_layFirst 6 = .ok (.bipush 8, 2) := by decide +kernel
theorem dX9_layFirst_8 : decode cX9_layFirst 8 = .ok (.aload_n 0, 1) := by decide +kernel
theorem dX9_layFirst_9 : decode cX9_layFirst 9 = .ok (.invokevirtual 72, 3) := by decide +kernel
theorem dX9_layFirst_12 : decode cX9_layFirst 12 = .ok (.imul, 1) := by decide +kernel
theorem dX9_layFirst_13 : decode cX9_layFirst 13 = .ok (.if_icmp .ge 174, 3) := by decide +kernel
theorem dX9_layFirst_16 : decode cX9_layFirst 16 = .ok (.aload_n 0, 1) := by decide +kernel
theorem dX9_layFirst_17 : decode cX9_layFirst 17 = .ok (.iload_n 2, 1) := by decide +kernel
theorem dX9_layFirst_18 : decode cX9_layFirst 18 = .ok (.invokevirtual 110, 3) := by decide +kernel
theorem dX9_layFirst_21 : decode cX9_layFirst 21 = .ok (.ifCond .ne 160, 3) := by decide +kernel
theorem dX9_layFirst_24 : decode cX9_layFirst 24 = .ok (.iconst 0, 1) := by decide +kernel
theorem dX9_layFirst_25 : decode cX9_layFirst 25 = .ok (.istore_n 3, 1) := by decide +kernel
theorem dX9_layFirst_26 : decode cX9_layFirst 26 = .ok (.iload_n 3, 1) := by decide +kernel
theorem dX9_layFirst_27 : decode cX9_layFirst 27 = .ok (.aload_n 0, 1) := by decide +kernel
theorem dX9_layFirst_28 : decode cX9_layFirst 28 = .ok (.invokevirtual 72, 3) := by decide +kernel
theorem dX9_layFirst_31 : decode cX9_layFirst 31 = .ok (.if_icmp .ge 26, 3) := by decide +kernel
theorem dX9_layFirst_34 : decode cX9_layFirst 34 = .ok (.aload_n 0, 1) := by decide +kernel
theorem dX9_layFirst_35 : decode cX9_layFirst 35 = .ok (.getfield 23, 3) := by decide +kernel
theorem dX9_layFirst_38 : decode cX9_layFirst 38 = .ok (.aload_n 0, 1) := by decide +kernel
theorem dX9_layFirst_39 : decode cX9_layFirst 39 = .ok (.iload_n 2, 1) := by decide +kernel
theorem dX9_layFirst_40 : decode cX9_layFirst 40 = .ok (.iload_n 3, 1) := by decide +kernel
theorem dX9_layFirst_41 : decode cX9_layFirst 41 = .ok (.invokevirtual 113, 3) := by decide +kernel
theorem dX9_layFirst_44 : decode cX9_layFirst 44 = .ok (.aload_n 0, 1) := by decide +kernel
theorem dX9_layFirst_45 : decode cX9_layFirst 45 = .ok (.getfield 19, 3) := by decide +kernel
theorem dX9_layFirst_48 : decode cX9_layFirst 48 = .ok (.iload_n 3, 1) := by decide +kernel
theorem dX9_layFirst_49 : decode cX9_layFirst 49 = .ok (.iaload, 1) := by decide +kernel
theorem dX9_layFirst_50 : decode cX9_layFirst 50 = .ok (.iastore, 1) := by decide +kernel
theorem dX9_layFirst_51 : decode cX9_layFirst 51 = .ok (.iinc 3 1, 3) := by decide +kernel
theorem dX9_layFirst_54 : decode cX9_layFirst 54 = .ok (.goto (-28), 3) := by decide +kernel
theorem dX9_layFirst_57 : decode cX9_layFirst 57 = .ok (.iload_n 1, 1) := by decide +kernel
theorem dX9_layFirst_58 : decode cX9_layFirst 58 = .ok (.bipush (-9), 2) := by decide +kernel
theorem dX9_layFirst_60 : decode cX9_layFirst 60 = .ok (.if_icmp .ne 7, 3) := by decide +kernel
theorem dX9_layFirst_63 : decode cX9_layFirst 63 = .ok (.iconst (-1), 1) := by decide +kernel
theorem dX9_layFirst_64 : decode cX9_layFirst 64 = .ok (.goto 4, 3) := by decide +kernel
theorem dX9_layFirst_67 : decode cX9_layFirst 67 = .ok (.iconst 0, 1) := by decide +kernel
theorem dX9_layFirst_68 : decode cX9_layFirst 68 = .ok (.istore_n 3, 1) := by decide +kernel
theorem dX9_layFirst_69 : decode cX9_layFirst 69 = .ok (.iconst 0, 1) := by decide +kernel
theorem dX9_layFirst_70 : decode cX9_layFirst 70 = .ok (.istore 4, 2) := by decide +kernel
theorem dX9_layFirst_72 : decode cX9_layFirst 72 = .ok (.iload 4, 2) := by decide +kernel
theorem dX9_layFirst_74 : decode cX9_layFirst 74 = .ok (.aload_n 0, 1) := by decide +kernel
theorem dX9_layFirst_75 : decode cX9_layFirst 75 = .ok (.invokevirtual 72, 3) := by decide +kernel
theorem dX9_layFirst_78 : decode cX9_layFirst 78 = .ok (.if_icmp .ge 57, 3) := by decide +kernel
theorem dX9_layFirst_81 : decode cX9_layFirst 81 = .ok (.iload_n 3, 1) := by decide +kernel
theorem dX9_layFirst_82 : decode cX9_layFirst 82 = .ok (.ifCond .ne 53, 3) := by decide +kernel
theorem dX9_layFirst_85 : decode cX9_layFirst 85 = .ok (.aload_n 0, 1) := by decide +kernel
theorem dX9_layFirst_86 : decode cX9_layFirst 86 = .ok (.getfield 23, 3) := by decide +kernel
theorem dX9_layFirst_89 : decode cX9_layFirst 89 = .ok (.iload 4, 2) := by decide +kernel
theorem dX9_layFirst_91 : decode cX9_layFirst 91 = .ok (.iaload, 1) := by decide +kernel
theorem dX9_layFirst_92 : decode cX9_layFirst 92 = .ok (.aload_n 0, 1) := by decide +kernel
theorem dX9_layFirst_93 : decode cX9_layFirst 93 = .ok (.getfield 26, 3) := by decide +kernel
theorem dX9_layFirst_96 : decode cX9_layFirst 96 = .ok (.iload 4, 2) := by decide +kernel
theorem dX9_layFirst_98 : decode cX9_layFirst 98 = .ok (.iaload, 1) := by decide +kernel
theorem dX9_layFirst_99 : decode cX9_layFirst 99 = .ok (.if_icmp .ge 7, 3) := by decide +kernel
theorem dX9_layFirst_102 : decode cX9_layFirst 102 = .ok (.iconst (-1), 1) := by decide +kernel
theorem dX9_layFirst_103 : decode cX9_layFirst 103 = .ok (.goto 25, 3) := by decide +kernel
theorem dX9_layFirst_106 : decode cX9_layFirst 106 = .ok (.aload_n 0, 1) := by decide +kernel
theorem dX9_layFirst_107 : decode cX9_layFirst 107 = .ok (.getfield 23, 3) := by decide +kernel
theorem dX9_layFirst_110 : decode cX9_layFirst 110 = .ok (.iload 4, 2) := by decide +kernel
theorem dX9_layFirst_112 : decode cX9_layFirst 112 = .ok (.iaload, 1) := by decide +kernel
theorem dX9_layFirst_113 : decode cX9_layFirst 113 = .ok (.aload_n 0, 1) := by decide +kernel
theorem dX9_layFirst_114 : decode cX9_layFirst 114 = .ok (.getfield 26, 3) := by decide +kernel
theorem dX9_layFirst_117 : decode cX9_layFirst 117 = .ok (.iload 4, 2) := by decide +kernel
theorem dX9_layFirst_119 : decode cX9_layFirst 119 = .ok (.iaload, 1) := by decide +kernel
theorem dX9_layFirst_120 : decode cX9_layFirst 120 = .ok (.if_icmp .le 7, 3) := by decide +kernel
theorem dX9_layFirst_123 : decode cX9_layFirst 123 = .ok (.iconst 1, 1) := by decide +kernel
theorem dX9_layFirst_124 : decode cX9_layFirst 124 = .ok (.goto 4, 3) := by decide +kernel
theorem dX9_layFirst_127 : decode cX9_layFirst 127 = .ok (.iconst 0, 1) := by decide +kernel
theorem dX9_layFirst_128 : decode cX9_layFirst 128 = .ok (.istore_n 3, 1) := by decide +kernel
theorem dX9_layFirst_129 : decode cX9_layFirst 129 = .ok (.iinc 4 1, 3) := by decide +kernel
theorem dX9_layFirst_132 : decode cX9_layFirst 132 = .ok (.goto (-60), 3) := by decide +kernel
theorem dX9_layFirst_135 : decode cX9_layFirst 135 = .ok (.iconst 0, 1) := by decide +kernel
theorem dX9_layFirst_136 : decode cX9_layFirst 136 = .ok (.istore 4, 2) := by decide +kernel
theorem dX9_layFirst_138 : decode cX9_layFirst 138 = .ok (.iload 4, 2) := by decide +kernel
theorem dX9_layFirst_140 : decode cX9_layFirst 140 = .ok (.aload_n 0, 1) := by decide +kernel
theorem dX9_layFirst_141 : decode cX9_layFirst 141 = .ok (.invokevirtual 72, 3) := by decide +kernel
theorem dX9_layFirst_144 : decode cX9_layFirst 144 = .ok (.if_icmp .ge 27, 3) := by decide +kernel
theorem dX9_layFirst_147 : decode cX9_layFirst 147 = .ok (.iload_n 3, 1) := by decide +kernel
theorem dX9_layFirst_148 : decode cX9_layFirst 148 = .ok (.ifCond .ge 23, 3) := by decide +kernel
theorem dX9_layFirst_151 : decode cX9_layFirst 151 = .ok (.aload_n 0, 1) := by decide +kernel
theorem dX9_layFirst_152 : decode cX9_layFirst 152 = .ok (.getfield 26, 3) := by decide +kernel
theorem dX9_layFirst_155 : decode cX9_layFirst 155 = .ok (.iload 4, 2) := by decide +kernel
theorem dX9_layFirst_157 : decode cX9_layFirst 157 = .ok (.aload_n 0, 1) := by decide +kernel
theorem dX9_layFirst_158 : decode cX9_layFirst 158 = .ok (.getfield 23, 3) := by decide +kernel
theorem dX9_layFirst_161 : decode cX9_layFirst 161 = .ok (.iload 4, 2) := by decide +kernel
theorem dX9_layFirst_163 : decode cX9_layFirst 163 = .ok (.iaload, 1) := by decide +kernel
theorem dX9_layFirst_164 : decode cX9_layFirst 164 = .ok (.iastore, 1) := by decide +kernel
theorem dX9_layFirst_165 : decode cX9_layFirst 165 = .ok (.iinc 4 1, 3) := by decide +kernel
theorem dX9_layFirst_168 : decode cX9_layFirst 168 = .ok (.goto (-30), 3) := by decide +kernel
theorem dX9_layFirst_171 : decode cX9_layFirst 171 = .ok (.iload_n 3, 1) := by decide +kernel
theorem dX9_layFirst_172 : decode cX9_layFirst 172 = .ok (.ifCond .ge 7, 3) := by decide +kernel
theorem dX9_layFirst_175 : decode cX9_layFirst 175 = .ok (.iload_n 2, 1) := by decide +kernel
theorem dX9_layFirst_176 : decode cX9_layFirst 176 = .ok (.goto 4, 3) := by decide +kernel
theorem dX9_layFirst_179 : decode cX9_layFirst 179 = .ok (.iload_n 1, 1) := by decide +kernel
theorem dX9_layFirst_180 : decode cX9_layFirst 180 = .ok (.istore_n 1, 1) := by decide +kernel
theorem dX9_layFirst_181 : decode cX9_layFirst 181 = .ok (.iinc 2 1, 3) := by decide +kernel
theorem dX9_layFirst_184 : decode cX9_layFirst 184 = .ok (.goto (-179), 3) := by decide +kernel
theorem dX9_layFirst_187 : decode cX9_layFirst 187 = .ok (.iload_n 1, 1) := by decide +kernel
theorem dX9_layFirst_188 : decode cX9_layFirst 188 = .ok (.ireturn, 1) := by decide +kernel
theorem bX9_layFirst_0 (mem : zm_Mem) (post : zm_Post) (kk : zm_Z gX9_layFirst post 5 [(0, .ref 21), (1, .int (-9)), (2, .int 0)] [] mem) : zm_Call gX9_layFirst [.ref 21] mem post := by
  refine z_entry (by decide) (Nat.le_of_ble_eq_true rfl) ?_
  show zm_Z gX9_layFirst post 0 [(0, .ref 21)] [] mem
  refine z_bipush (v := (-9)) dX9_layFirst_0 zcbipush_m9 ?_
  refine z_istore_n (lv' := [(1, .int (-9)), (0, .ref 21)]) dX9_layFirst_2 rfl (by decide) rfl ?_
  refine z_iconst (v := 0) dX9_layFirst_3 zciconst_0 ?_
  refine z_istore_n (lv' := [(2, .int 0), (1, .int (-9)), (0, .ref 21)]) dX9_layFirst_4 rfl (by decide) rfl ?_
  refine z_sub [2, 1, 0] rfl ?_
  exact kk
theorem bX9_layFirst_5 (x1 : Int32) (x2 : Int32) (mem : zm_Mem) (post : zm_Post) (kk : zm_Call gX9_cells [.ref 21] mem (fun r1 w1 u1 => (((8 * r1) ≤ x2 → post x1 0 u1) ∧ (¬ (8 * r1) ≤ x2 → zm_Call gX9_noMove [.ref 21, .int x2] u1 (fun r3 w3 u3 => ((¬ r3 = 0 → zm_Z gX9_layFirst post 5 [(0, .ref 21), (1, .int x1), (2, .int (x2 + 1))] [] u3) ∧ (r3 = 0 → zm_Z gX9_layFirst post 26 [(0, .ref 21), (1, .int x1), (2, .int x2), (3, .int 0)] [] u3))))))) : zm_Z gX9_layFirst post 5 [(0, .ref 21), (1, .int x1), (2, .int x2)] [] mem := by
  refine z_iload_n dX9_layFirst_5 rfl 2 rfl ?_
  refine z_bipush (v := 8) dX9_layFirst_6 zcbipush_8 ?_
  refine z_aload_n dX9_layFirst_8 rfl 0 rfl ?_
  refine z_callVi (g' := gX9_cells) [] (q := 21) (ci := 9) (T := TX9) rfl rfl ⟨lkX9_72, pdX9_cells, by decide, by decide⟩ ⟨_, rfl, by decide⟩ rfl (Nat.le_of_ble_eq_true rfl) dX9_layFirst_9 (zm_Call.mono kk (fun r1 w1 u1 k1 => ?_))
  refine z_imul dX9_layFirst_12 ?_
  refine z_icmp_ge (tgt := 187) dX9_layFirst_13 (by decide) (fun h2 => ?_) (fun h2 => ?_)
  ·
    refine z_iload_n dX9_layFirst_187 rfl 1 rfl ?_
    exact z_iret rfl dX9_layFirst_188 (k1.1 h2)
  ·
    refine z_aload_n dX9_layFirst_16 rfl 0 rfl ?_
    refine z_iload_n dX9_layFirst_17 rfl 2 rfl ?_
    refine z_callVi (g' := gX9_noMove) [.int x2] (q := 21) (ci := 9) (T := TX9) rfl rfl ⟨lkX9_110, pdX9_noMove, by decide, by decide⟩ ⟨_, rfl, by decide⟩ rfl (Nat.le_of_ble_eq_true rfl) dX9_layFirst_18 (zm_Call.mono (k1.2 h2) (fun r3 w3 u3 k3 => ?_))
    refine z_if_ne (tgt := 181) dX9_layFirst_21 (by decide) (fun h4 => ?_) (fun h4 => ?_)
    ·
      refine z_iinc (v := x2 + 1) (lv' := [(2, .int (x2 + 1)), (0, .ref 21), (1, .int x1)]) dX9_layFirst_181 2 rfl (by rw [zciconst_1]) (by decide) rfl ?_
      refine z_goto (tgt := 5) dX9_layFirst_184 (by decide) ?_
      refine z_sub [1, 2, 0] rfl ?_
      exact (k3.1 h4)
    ·
      refine z_iconst (v := 0) dX9_layFirst_24 zciconst_0 ?_
      refine z_istore_n (lv' := [(3, .int 0), (0, .ref 21), (1, .int x1), (2, .int x2)]) dX9_layFirst_25 rfl (by decide) rfl ?_
      refine z_sub [1, 2, 3, 0] rfl ?_
      exact (k3.2 h4)
theorem bX9_layFirst_26 (x1 : Int32) (x2 : Int32) (x3 : Int32) (mem : zm_Mem) (post : zm_Post) (kk : zm_Call gX9_cells [.ref 21] mem (fun r1 w1 u1 => ((r1 ≤ x3 → ((¬ x1 = (-9) → zm_Z gX9_layFirst post 72 [(0, .ref 21), (1, .int x1), (2, .int x2), (3, .int 0), (4, .int 0)] [] u1) ∧ (x1 = (-9) → zm_Z gX9_layFirst post 72 [(0, .ref 21), (1, .int x1), (2, .int x2), (3, .int (-1)), (4, .int 0)] [] u1))) ∧ (¬ r1 ≤ x3 → zm_Call gX9_ledTo [.ref 21, .int x2, .int x3] u1 (fun r4 w4 u4 => (vp_in x3 36 ∧ (vp_in r4 36 ∧ zm_Z gX9_layFirst post 26 [(0, .ref 21), (1, .int x1), (2, .int x2), (3, .int (x3 + 1))] [] (zm_st u4 23 (Int32.toNatClampNeg r4) (u4 22 (Int32.toNatClampNeg x3)))))))))) : zm_Z gX9_layFirst post 26 [(0, .ref 21), (1, .int x1), (2, .int x2), (3, .int x3)] [] mem := by
  refine z_iload_n dX9_layFirst_26 rfl 3 rfl ?_
  refine z_aload_n dX9_layFirst_27 rfl 0 rfl ?_
  refine z_callVi (g' := gX9_cells) [] (q := 21) (ci := 9) (T := TX9) rfl rfl ⟨lkX9_72, pdX9_cells, by decide, by decide⟩ ⟨_, rfl, by decide⟩ rfl (Nat.le_of_ble_eq_true rfl) dX9_layFirst_28 (zm_Call.mono kk (fun r1 w1 u1 k1 => ?_))
  refine z_icmp_ge (tgt := 57) dX9_layFirst_31 (by decide) (fun h2 => ?_) (fun h2 => ?_)
  ·
    refine z_iload_n dX9_layFirst_57 rfl 1 rfl ?_
    refine z_bipush (v := (-9)) dX9_layFirst_58 zcbipush_m9 ?_
    refine z_icmp_ne (tgt := 67) dX9_layFirst_60 (by decide) (fun h3 => ?_) (fun h3 => ?_)
    ·
      refine z_iconst (v := 0) dX9_layFirst_67 zciconst_0 ?_
      refine z_istore_n (lv' := [(3, .int 0), (0, .ref 21), (1, .int x1), (2, .int x2)]) dX9_layFirst_68 rfl (by decide) rfl ?_
      refine z_iconst (v := 0) dX9_layFirst_69 zciconst_0 ?_
      refine z_istore (lv' := [(4, .int 0), (3, .int 0), (0, .ref 21), (1, .int x1), (2, .int x2)]) dX9_layFirst_70 (by decide) rfl ?_
      refine z_sub [2, 3, 4, 1, 0] rfl ?_
      exact ((k1.1 h2).1 h3)
    ·
      refine z_iconst (v := (-1)) dX9_layFirst_63 zciconst_m1 ?_
      refine z_goto (tgt := 68) dX9_layFirst_64 (by decide) ?_
      refine z_istore_n (lv' := [(3, .int (-1)), (0, .ref 21), (1, .int x1), (2, .int x2)]) dX9_layFirst_68 rfl (by decide) rfl ?_
      refine z_iconst (v := 0) dX9_layFirst_69 zciconst_0 ?_
      refine z_istore (lv' := [(4, .int 0), (3, .int (-1)), (0, .ref 21), (1, .int x1), (2, .int x2)]) dX9_layFirst_70 (by decide) rfl ?_
      refine z_sub [2, 3, 4, 1, 0] rfl ?_
      exact ((k1.1 h2).2 h3)
  ·
    refine z_aload_n dX9_layFirst_34 rfl 0 rfl ?_
    refine z_getr (ci := 9) (j := 5) (r := 23) (T := TX9) rfl rfl hX9 rfl (by decide) fkX9_23 dX9_layFirst_35 ?_
    refine z_aload_n dX9_layFirst_38 rfl 0 rfl ?_
    refine z_iload_n dX9_layFirst_39 rfl 2 rfl ?_
    refine z_iload_n dX9_layFirst_40 rfl 3 rfl ?_
    refine z_callVi (g' := gX9_ledTo) [.int x2, .int x3] (q := 21) (ci := 9) (T := TX9) rfl rfl ⟨lkX9_113, pdX9_ledTo, by decide, by decide⟩ ⟨_, rfl, by decide⟩ rfl (Nat.le_of_ble_eq_true rfl) dX9_layFirst_41 (zm_Call.mono (k1.2 h2) (fun r4 w4 u4 k4 => ?_))
    refine z_aload_n dX9_layFirst_44 rfl 0 rfl ?_
    refine z_getr (ci := 9) (j := 4) (r := 22) (T := TX9) rfl rfl hX9 rfl (by decide) fkX9_19 dX9_layFirst_45 ?_
    refine z_iload_n dX9_layFirst_48 rfl 3 rfl ?_
    refine z_iald (n := 36) rfl k4.1 dX9_layFirst_49 ?_
    refine z_iast (n := 36) rfl k4.2.1 dX9_layFirst_50 ?_
    refine z_iinc (v := x3 + 1) (lv' := [(3, .int (x3 + 1)), (0, .ref 21), (1, .int x1), (2, .int x2)]) dX9_layFirst_51 3 rfl (by rw [zciconst_1]) (by decide) rfl ?_
    refine z_goto (tgt := 26) dX9_layFirst_54 (by decide) ?_
    refine z_sub [1, 2, 3, 0] rfl ?_
    exact k4.2.2
theorem bX9_layFirst_72 (x1 : Int32) (x2 : Int32) (x3 : Int32) (x4 : Int32) (mem : zm_Mem) (post : zm_Post) (kk : zm_Call gX9_cells [.ref 21] mem (fun r1 w1 u1 => ((r1 ≤ x4 → zm_Z gX9_layFirst post 138 [(0, .ref 21), (1, .int x1), (2, .int x2), (3, .int x3), (4, .int 0)] [] u1) ∧ (¬ r1 ≤ x4 → ((¬ x3 = 0 → zm_Z gX9_layFirst post 138 [(0, .ref 21), (1, .int x1), (2, .int x2), (3, .int x3), (4, .int 0)] [] u1) ∧ (x3 = 0 → (vp_in x4 36 ∧ (vp_in x4 36 ∧ (((u1 24 (Int32.toNatClampNeg x4)) ≤ (u1 23 (Int32.toNatClampNeg x4)) → (vp_in x4 36 ∧ (vp_in x4 36 ∧ (((u1 23 (Int32.toNatClampNeg x4)) ≤ (u1 24 (Int32.toNatClampNeg x4)) → zm_Z gX9_layFirst post 72 [(0, .ref 21), (1, .int x1), (2, .int x2), (3, .int 0), (4, .int (x4 + 1))] [] u1) ∧ (¬ (u1 23 (Int32.toNatClampNeg x4)) ≤ (u1 24 (Int32.toNatClampNeg x4)) → zm_Z gX9_layFirst post 72 [(0, .ref 21), (1, .int x1), (2, .int x2), (3, .int 1), (4, .int (x4 + 1))] [] u1))))) ∧ (¬ (u1 24 (Int32.toNatClampNeg x4)) ≤ (u1 23 (Int32.toNatClampNeg x4)) → zm_Z gX9_layFirst post 72 [(0, .ref 21), (1, .int x1), (2, .int x2), (3, .int (-1)), (4, .int (x4 + 1))] [] u1)))))))))) : zm_Z gX9_layFirst post 72 [(0, .ref 21), (1, .int x1), (2, .int x2), (3, .int x3), (4, .int x4)] [] mem := by
  refine z_iload dX9_layFirst_72 4 rfl ?_
  refine z_aload_n dX9_layFirst_74 rfl 0 rfl ?_
  refine z_callVi (g' := gX9_cells) [] (q := 21) (ci := 9) (T := TX9) rfl rfl ⟨lkX9_72, pdX9_cells, by decide, by decide⟩ ⟨_, rfl, by decide⟩ rfl (Nat.le_of_ble_eq_true rfl) dX9_layFirst_75 (zm_Call.mono kk (fun r1 w1 u1 k1 => ?_))
  refine z_icmp_ge (tgt := 135) dX9_layFirst_78 (by decide) (fun h2 => ?_) (fun h2 => ?_)
  ·
    refine z_iconst (v := 0) dX9_layFirst_135 zciconst_0 ?_
    refine z_istore (lv' := [(4, .int 0), (0, .ref 21), (1, .int x1), (2, .int x2), (3, .int x3)]) dX9_layFirst_136 (by decide) rfl ?_
    refine z_sub [1, 2, 3, 4, 0] rfl ?_
    exact (k1.1 h2)
  ·
    refine z_iload_n dX9_layFirst_81 rfl 3 rfl ?_
    refine z_if_ne (tgt := 135) dX9_layFirst_82 (by decide) (fun h3 => ?_) (fun h3 => ?_)
    ·
      refine z_iconst (v := 0) dX9_layFirst_135 zciconst_0 ?_
      refine z_istore (lv' := [(4, .int 0), (0, .ref 21), (1, .int x1), (2, .int x2), (3, .int x3)]) dX9_layFirst_136 (by decide) rfl ?_
      refine z_sub [1, 2, 3, 4, 0] rfl ?_
      exact ((k1.2 h2).1 h3)
    ·
      refine z_aload_n dX9_layFirst_85 rfl 0 rfl ?_
      refine z_getr (ci := 9) (j := 5) (r := 23) (T := TX9) rfl rfl hX9 rfl (by decide) fkX9_23 dX9_layFirst_86 ?_
      refine z_iload dX9_layFirst_89 4 rfl ?_
      refine z_iald (n := 36) rfl ((k1.2 h2).2 h3).1 dX9_layFirst_91 ?_
      refine z_aload_n dX9_layFirst_92 rfl 0 rfl ?_
      refine z_getr (ci := 9) (j := 6) (r := 24) (T := TX9) rfl rfl hX9 rfl (by decide) fkX9_26 dX9_layFirst_93 ?_
      refine z_iload dX9_layFirst_96 4 rfl ?_
      refine z_iald (n := 36) rfl ((k1.2 h2).2 h3).2.1 dX9_layFirst_98 ?_
      refine z_icmp_ge (tgt := 106) dX9_layFirst_99 (by decide) (fun h4 => ?_) (fun h4 => ?_)
      ·
        refine z_aload_n dX9_layFirst_106 rfl 0 rfl ?_
        refine z_getr (ci := 9) (j := 5) (r := 23) (T := TX9) rfl rfl hX9 rfl (by decide) fkX9_23 dX9_layFirst_107 ?_
        refine z_iload dX9_layFirst_110 4 rfl ?_
        refine z_iald (n := 36) rfl (((k1.2 h2).2 h3).2.2.1 h4).1 dX9_layFirst_112 ?_
        refine z_aload_n dX9_layFirst_113 rfl 0 rfl ?_
        refine z_getr (ci := 9) (j := 6) (r := 24) (T := TX9) rfl rfl hX9 rfl (by decide) fkX9_26 dX9_layFirst_114 ?_
        refine z_iload dX9_layFirst_117 4 rfl ?_
        refine z_iald (n := 36) rfl (((k1.2 h2).2 h3).2.2.1 h4).2.1 dX9_layFirst_119 ?_
        refine z_icmp_le (tgt := 127) dX9_layFirst_120 (by decide) (fun h5 => ?_) (fun h5 => ?_)
        ·
          refine z_iconst (v := 0) dX9_layFirst_127 zciconst_0 ?_
          refine z_istore_n (lv' := [(3, .int 0), (0, .ref 21), (1, .int x1), (2, .int x2), (4, .int x4)]) dX9_layFirst_128 rfl (by decide) rfl ?_
          refine z_iinc (v := x4 + 1) (lv' := [(4, .int (x4 + 1)), (3, .int 0), (0, .ref 21), (1, .int x1), (2, .int x2)]) dX9_layFirst_129 4 rfl (by rw [zciconst_1]) (by decide) rfl ?_
          refine z_goto (tgt := 72) dX9_layFirst_132 (by decide) ?_
          refine z_sub [2, 3, 4, 1, 0] rfl ?_
          exact ((((k1.2 h2).2 h3).2.2.1 h4).2.2.1 h5)
        ·
          refine z_iconst (v := 1) dX9_layFirst_123 zciconst_1 ?_
          refine z_goto (tgt := 128) dX9_layFirst_124 (by decide) ?_
          refine z_istore_n (lv' := [(3, .int 1), (0, .ref 21), (1, .int x1), (2, .int x2), (4, .int x4)]) dX9_layFirst_128 rfl (by decide) rfl ?_
          refine z_iinc (v := x4 + 1) (lv' := [(4, .int (x4 + 1)), (3, .int 1), (0, .ref 21), (1, .int x1), (2, .int x2)]) dX9_layFirst_129 4 rfl (by rw [zciconst_1]) (by decide) rfl ?_
          refine z_goto (tgt := 72) dX9_layFirst_132 (by decide) ?_
          refine z_sub [2, 3, 4, 1, 0] rfl ?_
          exact ((((k1.2 h2).2 h3).2.2.1 h4).2.2.2 h5)
      ·
        refine z_iconst (v := (-1)) dX9_layFirst_102 zciconst_m1 ?_
        refine z_goto (tgt := 128) dX9_layFirst_103 (by decide) ?_
        refine z_istore_n (lv' := [(3, .int (-1)), (0, .ref 21), (1, .int x1), (2, .int x2), (4, .int x4)]) dX9_layFirst_128 rfl (by decide) rfl ?_
        refine z_iinc (v := x4 + 1) (lv' := [(4, .int (x4 + 1)), (3, .int (-1)), (0, .ref 21), (1, .int x1), (2, .int x2)]) dX9_layFirst_129 4 rfl (by rw [zciconst_1]) (by decide) rfl ?_
        refine z_goto (tgt := 72) dX9_layFirst_132 (by decide) ?_
        refine z_sub [2, 3, 4, 1, 0] rfl ?_
        exact (((k1.2 h2).2 h3).2.2.2 h4)
theorem bX9_layFirst_138 (x1 : Int32) (x2 : Int32) (x3 : Int32) (x4 : Int32) (mem : zm_Mem) (post : zm_Post) (kk : zm_Call gX9_cells [.ref 21] mem (fun r1 w1 u1 => ((r1 ≤ x4 → zm_Z gX9_layFirst post 171 [(0, .ref 21), (1, .int x1), (2, .int x2), (3, .int x3)] [] u1) ∧ (¬ r1 ≤ x4 → ((0 ≤ x3 → zm_Z gX9_layFirst post 171 [(0, .ref 21), (1, .int x1), (2, .int x2), (3, .int x3)] [] u1) ∧ (¬ 0 ≤ x3 → (vp_in x4 36 ∧ (vp_in x4 36 ∧ zm_Z gX9_layFirst post 138 [(0, .ref 21), (1, .int x1), (2, .int x2), (3, .int x3), (4, .int (x4 + 1))] [] (zm_st u1 24 (Int32.toNatClampNeg x4) (u1 23 (Int32.toNatClampNeg x4))))))))))) : zm_Z gX9_layFirst post 138 [(0, .ref 21), (1, .int x1), (2, .int x2), (3, .int x3), (4, .int x4)] [] mem := by
  refine z_iload dX9_layFirst_138 4 rfl ?_
  refine z_aload_n dX9_layFirst_140 rfl 0 rfl ?_
  refine z_callVi (g' := gX9_cells) [] (q := 21) (ci := 9) (T := TX9) rfl rfl ⟨lkX9_72, pdX9_cells, by decide, by decide⟩ ⟨_, rfl, by decide⟩ rfl (Nat.le_of_ble_eq_true rfl) dX9_layFirst_141 (zm_Call.mono kk (fun r1 w1 u1 k1 => ?_))
  refine z_icmp_ge (tgt := 171) dX9_layFirst_144 (by decide) (fun h2 => ?_) (fun h2 => ?_)
  ·
    refine z_sub [0, 1, 2, 3] rfl ?_
    exact (k1.1 h2)
  ·
    refine z_iload_n dX9_layFirst_147 rfl 3 rfl ?_
    refine z_if_ge (tgt := 171) dX9_layFirst_148 (by decide) (fun h3 => ?_) (fun h3 => ?_)
    ·
      refine z_sub [0, 1, 2, 3] rfl ?_
      exact ((k1.2 h2).1 h3)
    ·
      refine z_aload_n dX9_layFirst_151 rfl 0 rfl ?_
      refine z_getr (ci := 9) (j := 6) (r := 24) (T := TX9) rfl rfl hX9 rfl (by decide) fkX9_26 dX9_layFirst_152 ?_
      refine z_iload dX9_layFirst_155 4 rfl ?_
      refine z_aload_n dX9_layFirst_157 rfl 0 rfl ?_
      refine z_getr (ci := 9) (j := 5) (r := 23) (T := TX9) rfl rfl hX9 rfl (by decide) fkX9_23 dX9_layFirst_158 ?_
      refine z_iload dX9_layFirst_161 4 rfl ?_
      refine z_iald (n := 36) rfl ((k1.2 h2).2 h3).1 dX9_layFirst_163 ?_
      refine z_iast (n := 36) rfl ((k1.2 h2).2 h3).2.1 dX9_layFirst_164 ?_
      refine z_iinc (v := x4 + 1) (lv' := [(4, .int (x4 + 1)), (0, .ref 21), (1, .int x1), (2, .int x2), (3, .int x3)]) dX9_layFirst_165 4 rfl (by rw [zciconst_1]) (by decide) rfl ?_
      refine z_goto (tgt := 138) dX9_layFirst_168 (by decide) ?_
      refine z_sub [1, 2, 3, 4, 0] rfl ?_
      exact ((k1.2 h2).2 h3).2.2
theorem bX9_layFirst_171 (x1 : Int32) (x2 : Int32) (x3 : Int32) (mem : zm_Mem) (post : zm_Post) (kk : ((0 ≤ x3 → zm_Z gX9_layFirst post 5 [(0, .ref 21), (1, .int x1), (2, .int (x2 + 1))] [] mem) ∧ (¬ 0 ≤ x3 → zm_Z gX9_layFirst post 5 [(0, .ref 21), (1, .int x2), (2, .int (x2 + 1))] [] mem))) : zm_Z gX9_layFirst post 171 [(0, .ref 21), (1, .int x1), (2, .int x2), (3, .int x3)] [] mem := by
  refine z_iload_n dX9_layFirst_171 rfl 3 rfl ?_
  refine z_if_ge (tgt := 179) dX9_layFirst_172 (by decide) (fun h1 => ?_) (fun h1 => ?_)
  ·
    refine z_iload_n dX9_layFirst_179 rfl 1 rfl ?_
    refine z_istore_n (lv' := [(1, .int x1), (0, .ref 21), (2, .int x2), (3, .int x3)]) dX9_layFirst_180 rfl (by decide) rfl ?_
    refine z_iinc (v := x2 + 1) (lv' := [(2, .int (x2 + 1)), (1, .int x1), (0, .ref 21), (3, .int x3)]) dX9_layFirst_181 2 rfl (by rw [zciconst_1]) (by decide) rfl ?_
    refine z_goto (tgt := 5) dX9_layFirst_184 (by decide) ?_
    refine z_sub [2, 1, 0] rfl ?_
    exact (kk.1 h1)
  ·
    refine z_iload_n dX9_layFirst_175 rfl 2 rfl ?_
    refine z_goto (tgt := 180) dX9_layFirst_176 (by decide) ?_
    refine z_istore_n (lv' := [(1, .int x2), (0, .ref 21), (2, .int x2), (3, .int x3)]) dX9_layFirst_180 rfl (by decide) rfl ?_
    refine z_iinc (v := x2 + 1) (lv' := [(2, .int (x2 + 1)), (1, .int x2), (0, .ref 21), (3, .int x3)]) dX9_layFirst_181 2 rfl (by rw [zciconst_1]) (by decide) rfl ?_
    refine z_goto (tgt := 5) dX9_layFirst_184 (by decide) ?_
    refine z_sub [2, 1, 0] rfl ?_
    exact (kk.2 h1)
theorem dX9_first_0 : decode cX9_first 0 = .ok (.aload_n 0, 1) := by decide +kernel
theorem dX9_first_1 : decode cX9_first 1 = .ok (.iconst 0, 1) := by decide +kernel
theorem dX9_first_2 : decode cX9_first 2 = .ok (.putfield 69, 3) := by decide +kernel
theorem dX9_first_5 : decode cX9_first 5 = .ok (.aload_n 0, 1) := by decide +kernel
theorem dX9_first_6 : decode cX9_first 6 = .ok (.iload_n 1, 1) := by decide +kernel
theorem dX9_first_7 : decode cX9_first 7 = .ok (.invokevirtual 102, 3) := by decide +kernel
theorem dX9_first_10 : decode cX9_first 10 = .ok (.ifCond .eq 5, 3) := by decide +kernel
theorem dX9_first_13 : decode cX9_first 13 = .ok (.iconst (-1), 1) := by decide +kernel
theorem dX9_first_14 : decode cX9_first 14 = .ok (.ireturn, 1) := by decide +kernel
theorem dX9_first_15 : decode cX9_first 15 = .ok (.aload_n 0, 1) := by decide +kernel
theorem dX9_first_16 : decode cX9_first 16 = .ok (.invokevirtual 179, 3) := by decide +kernel
theorem dX9_first_19 : decode cX9_first 19 = .ok (.pop, 1) := by decide +kernel
theorem dX9_first_20 : decode cX9_first 20 = .ok (.aload_n 0, 1) := by decide +kernel
theorem dX9_first_21 : decode cX9_first 21 = .ok (.getfield 26, 3) := by decide +kernel
theorem dX9_first_24 : decode cX9_first 24 = .ok (.iload_n 1, 1) := by decide +kernel
theorem dX9_first_25 : decode cX9_first 25 = .ok (.iaload, 1) := by decide +kernel
theorem dX9_first_26 : decode cX9_first 26 = .ok (.ireturn, 1) := by decide +kernel
theorem bX9_first_0 (x1 : Int32) (mem : zm_Mem) (post : zm_Post) (kk : zm_Call gX9_noCell [.ref 21, .int x1] (zm_st mem 21 0 0) (fun r1 w1 u1 => ((r1 = 0 → zm_Call gX9_layFirst [.ref 21] u1 (fun r3 w3 u3 => (vp_in x1 36 ∧ post (u3 24 (Int32.toNatClampNeg x1)) 0 u3))) ∧ (¬ r1 = 0 → post (-1) 0 u1)))) : zm_Call gX9_first [.ref 21, .int x1] mem post := by
  refine z_entry (by decide) (Nat.le_of_ble_eq_true rfl) ?_
  show zm_Z gX9_first post 0 [(0, .ref 21), (1, .int x1)] [] mem
  refine z_aload_n dX9_first_0 rfl 0 rfl ?_
  refine z_iconst (v := 0) dX9_first_1 zciconst_0 ?_
  refine z_put (ci := 9) (j := 0) (T := TX9) (ty0 := tyX9) rfl rfl hX9 tyX9_ok nmX9 rfl (by decide) fkX9_69 rfl rfl rfl dX9_first_2 ?_
  refine z_aload_n dX9_first_5 rfl 0 rfl ?_
  refine z_iload_n dX9_first_6 rfl 1 rfl ?_
  refine z_callVi (g' := gX9_noCell) [.int x1] (q := 21) (ci := 9) (T := TX9) rfl rfl ⟨lkX9_102, pdX9_noCell, by decide, by decide⟩ ⟨_, rfl, by decide⟩ rfl (Nat.le_of_ble_eq_true rfl) dX9_first_7 (zm_Call.mono kk (fun r1 w1 u1 k1 => ?_))
  refine z_if_eq (tgt := 15) dX9_first_10 (by decide) (fun h2 => ?_) (fun h2 => ?_)
  ·
    refine z_aload_n dX9_first_15 rfl 0 rfl ?_
    refine z_callVi (g' := gX9_layFirst) [] (q := 21) (ci := 9) (T := TX9) rfl rfl ⟨lkX9_179, pdX9_layFirst, by decide, by decide⟩ ⟨_, rfl, by decide⟩ rfl (Nat.le_of_ble_eq_true rfl) dX9_first_16 (zm_Call.mono (k1.1 h2) (fun r3 w3 u3 k3 => ?_))
    refine z_popi dX9_first_19 ?_
    refine z_aload_n dX9_first_20 rfl 0 rfl ?_
    refine z_getr (ci := 9) (j := 6) (r := 24) (T := TX9) rfl rfl hX9 rfl (by decide) fkX9_26 dX9_first_21 ?_
    refine z_iload_n dX9_first_24 rfl 1 rfl ?_
    refine z_iald (n := 36) rfl k3.1 dX9_first_25 ?_
    exact z_iret rfl dX9_first_26 k3.2
  ·
    refine z_iconst (v := (-1)) dX9_first_13 zciconst_m1 ?_
    exact z_iret rfl dX9_first_14 (k1.2 h2)
theorem dX9_toFirst_0 : decode cX9_toFirst 0 = .ok (.aload_n 0, 1) := by decide +kernel
theorem dX9_toFirst_1 : decode cX9_toFirst 1 = .ok (.iconst 0, 1) := by decide +kernel
theorem dX9_toFirst_2 : decode cX9_toFirst 2 = .ok (.putfield 69, 3) := by decide +kernel
theorem dX9_toFirst_5 : decode cX9_toFirst 5 = .ok (.aload_n 0, 1) := by decide +kernel
theorem dX9_toFirst_6 : decode cX9_toFirst 6 = .ok (.invokevirtual 179, 3) := by decide +kernel
theorem dX9_toFirst_9 : decode cX9_toFirst 9 = .ok (.ireturn, 1) := by decide +kernel
theorem bX9_toFirst_0 (mem : zm_Mem) (post : zm_Post) (kk : zm_Call gX9_layFirst [.ref 21] (zm_st mem 21 0 0) (fun r1 w1 u1 => post r1 0 u1)) : zm_Call gX9_toFirst [.ref 21] mem post := by
  refine z_entry (by decide) (Nat.le_of_ble_eq_true rfl) ?_
  show zm_Z gX9_toFirst post 0 [(0, .ref 21)] [] mem
  refine z_aload_n dX9_toFirst_0 rfl 0 rfl ?_
  refine z_iconst (v := 0) dX9_toFirst_1 zciconst_0 ?_
  refine z_put (ci := 9) (j := 0) (T := TX9) (ty0 := tyX9) rfl rfl hX9 tyX9_ok nmX9 rfl (by decide) fkX9_69 rfl rfl rfl dX9_toFirst_2 ?_
  refine z_aload_n dX9_toFirst_5 rfl 0 rfl ?_
  refine z_callVi (g' := gX9_layFirst) [] (q := 21) (ci := 9) (T := TX9) rfl rfl ⟨lkX9_179, pdX9_layFirst, by decide, by decide⟩ ⟨_, rfl, by decide⟩ rfl (Nat.le_of_ble_eq_true rfl) dX9_toFirst_6 (zm_Call.mono kk (fun r1 w1 u1 k1 => ?_))
  exact z_iret rfl dX9_toFirst_9 k1
theorem dX9_layPieces_0 : decode cX9_layPieces 0 = .ok (.aload_n 0, 1) := by decide +kernel
theorem dX9_layPieces_1 : decode cX9_layPieces 1 = .ok (.iconst 0, 1) := by decide +kernel
theorem dX9_layPieces_2 : decode cX9_layPieces 2 = .ok (.putfield 182, 3) := by decide +kernel
theorem dX9_layPieces_5 : decode cX9_layPieces 5 = .ok (.iconst 0, 1) := by decide +kernel
theorem dX9_layPieces_6 : decode cX9_layPieces 6 = .ok (.istore_n 1, 1) := by decide +kernel
theorem dX9_layPieces_7 : decode cX9_layPieces 7 = .ok (.iload_n 1, 1) := by decide +kernel
theorem dX9_layPieces_8 : decode cX9_layPieces 8 = .ok (.aload_n 0, 1) := by decide +kernel
theorem dX9_layPieces_9 : decode cX9_layPieces 9 = .ok (.invokevirtual 72, 3) := by decide +kernel
theorem dX9_layPieces_12 : decode cX9_layPieces 12 = .ok (.if_icmp .ge 24, 3) := by decide +kernel
theorem dX9_layPieces_15 : decode cX9_layPieces 15 = .ok (.aload_n 0, 1) := by decide +kernel
theorem dX9_layPieces_16 : decode cX9_layPieces 16 = .ok (.getfield 51, 3) := by decide +kernel
theorem dX9_layPieces_19 : decode cX9_layPieces 19 = .ok (.iload_n 1, 1) := by decide +kernel
theorem dX9_layPieces_20 : decode cX9_layPieces 20 = .ok (.bipush (-9), 2) := by decide +kernel
theorem dX9_layPieces_22 : decode cX9_layPieces 22 = .ok (.iastore, 1) := by decide +kernel
theorem dX9_layPieces_23 : decode cX9_layPieces 23 = .ok (.aload_n 0, 1) := by decide +kernel
theorem dX9_layPieces_24 : decode cX9_layPieces 24 = .ok (.getfield 60, 3) := by decide +kernel
theorem dX9_layPieces_27 : decode cX9_layPieces 27 = .ok (.iload_n 1, 1) := by decide +kernel
theorem dX9_layPieces_28 : decode cX9_layPieces 28 = .ok (.iconst 0, 1) := by decide +kernel
theorem dX9_layPieces_29 : decode cX9_layPieces 29 = .ok (.bastore, 1) := by decide +kernel
theorem dX9_layPieces_30 : decode cX9_layPieces 30 = .ok (.iinc 1 1, 3) := by decide +kernel
theorem dX9_layPieces_33 : decode cX9_layPieces 33 = .ok (.goto (-26), 3) := by decide +kernel
theorem dX9_layPieces_36 : decode cX9_layPieces 36 = .ok (.iconst 0, 1) := by decide +kernel
theorem dX9_layPieces_37 : decode cX9_layPieces 37 = .ok (.istore_n 1, 1) := by decide +kernel
theorem dX9_layPieces_38 : decode cX9_layPieces 38 = .ok (.iload_n 1, 1) := by decide +kernel
theorem dX9_layPieces_39 : decode cX9_layPieces 39 = .ok (.aload_n 0, 1) := by decide +kernel
theorem dX9_layPieces_40 : decode cX9_layPieces 40 = .ok (.invokevirtual 72, 3) := by decide +kernel
theorem dX9_layPieces_43 : decode cX9_layPieces 43 = .ok (.if_icmp .ge 392, 3) := by decide +kernel
theorem dX9_layPieces_46 : decode cX9_layPieces 46 = .ok (.aload_n 0, 1) := by decide +kernel
theorem dX9_layPieces_47 : decode cX9_layPieces 47 = .ok (.getfield 19, 3) := by decide +kernel
theorem dX9_layPieces_50 : decode cX9_layPieces 50 = .ok (.iload_n 1, 1) := by decide +kernel
theorem dX9_layPieces_51 : decode cX9_layPieces 51 = .ok (.iaload, 1) := by decide +kernel
theorem dX9_layPieces_52 : decode cX9_layPieces 52 = .ok (.bipush 9, 2) := by decide +kernel
theorem dX9_layPieces_54 : decode cX9_layPieces 54 = .ok (.if_icmp .eq 375, 3) := by decide +kernel
theorem dX9_layPieces_57 : decode cX9_layPieces 57 = .ok (.aload_n 0, 1) := by decide +kernel
theorem dX9_layPieces_58 : decode cX9_layPieces 58 = .ok (.getfield 51, 3) := by decide +kernel
theorem dX9_layPieces_61 : decode cX9_layPieces 61 = .ok (.iload_n 1, 1) := by decide +kernel
theorem dX9_layPieces_62 : decode cX9_layPieces 62 = .ok (.iaload, 1) := by decide +kernel
theorem dX9_layPieces_63 : decode cX9_layPieces 63 = .ok (.bipush (-9), 2) := by decide +kernel
theorem dX9_layPieces_65 : decode cX9_layPieces 65 = .ok (.if_icmp .ne 364, 3) := by decide +kernel
theorem dX9_layPieces_68 : decode cX9_layPieces 68 = .ok (.aload_n 0, 1) := by decide +kernel
theorem dX9_layPieces_69 : decode cX9_layPieces 69 = .ok (.getfield 51, 3) := by decide +kernel
theorem dX9_layPieces_72 : decode cX9_layPieces 72 = .ok (.iload_n 1, 1) := by decide +kernel
theorem dX9_layPieces_73 : decode cX9_layPieces 73 = .ok (.aload_n 0, 1) := by decide +kernel
theorem dX9_layPieces_74 : decode cX9_layPieces 74 = .ok (.getfield 182, 3) := by decide +kernel
theorem dX9_layPieces_77 : decode cX9_layPieces 77 = .ok (.iastore, 1) := by decide +kernel
theorem dX9_layPieces_78 : decode cX9_layPieces 78 = .ok (.aload_n 0, 1) := by decide +kernel
theorem dX9_layPieces_79 : decode cX9_layPieces 79 = .ok (.getfield 54, 3) := by decide +kernel
theorem dX9_layPieces_82 : decode cX9_layPieces 82 = .ok (.iload_n 1, 1) := by decide +kernel
theorem dX9_layPieces_83 : decode cX9_layPieces 83 = .ok (.iconst 0, 1) := by decide +kernel
theorem dX9_layPieces_84 : decode cX9_layPieces 84 = .ok (.iastore, 1) := by decide +kernel
theorem dX9_layPieces_85 : decode cX9_layPieces 85 = .ok (.aload_n 0, 1) := by decide +kernel
theorem dX9_layPieces_86 : decode cX9_layPieces 86 = .ok (.getfield 57, 3) := by decide +kernel
theorem dX9_layPieces_89 : decode cX9_layPieces 89 = .ok (.iload_n 1, 1) := by decide +kernel
theorem dX9_layPieces_90 : decode cX9_layPieces 90 = .ok (.iconst 0, 1) := by decide +kernel
theorem dX9_layPieces_91 : decode cX9_layPieces 91 = .ok (.iastore, 1) := by decide +kernel
theorem dX9_layPieces_92 : decode cX9_layPieces 92 = .ok (.aload_n 0, 1) := by decide +kernel
theorem dX9_layPieces_93 : decode cX9_layPieces 93 = .ok (.getfield 63, 3) := by decide +kernel
theorem dX9_layPieces_96 : decode cX9_layPieces 96 = .ok (.iconst 0, 1) := by decide +kernel
theorem dX9_layPieces_97 : decode cX9_layPieces 97 = .ok (.iload_n 1, 1) := by decide +kernel
theorem dX9_layPieces_98 : decode cX9_layPieces 98 = .ok (.iastore, 1) := by decide +kernel
theorem dX9_layPieces_99 : decode cX9_layPieces 99 = .ok (.iconst 1, 1) := by decide +kernel
theorem dX9_layPieces_100 : decode cX9_layPieces 100 = .ok (.istore_n 2, 1) := by decide +kernel
theorem dX9_layPieces_101 : decode cX9_layPieces 101 = .ok (.iconst 0, 1) := by decide +kernel
theorem dX9_layPieces_102 : decode cX9_layPieces 102 = .ok (.istore_n 3, 1) := by decide +kernel
theorem dX9_layPieces_103 : decode cX9_layPieces 103 = .ok (.iload_n 3, 1) := by decide +kernel
theorem dX9_layPieces_104 : decode cX9_layPieces 104 = .ok (.iload_n 2, 1) := by decide +kernel
theorem dX9_layPieces_105 : decode cX9_layPieces 105 = .ok (.if_icmp .ge 314, 3) := by decide +kernel
theorem dX9_layPieces_108 : decode cX9_layPieces 108 = .ok (.iconst 0, 1) := by decide +kernel
theorem dX9_layPieces_109 : decode cX9_layPieces 109 = .ok (.istore 4, 2) := by decide +kernel
theorem dX9_layPieces_111 : decode cX9_layPieces 111 = .ok (.iload 4, 2) := by decide +kernel
theorem dX9_layPieces_113 : decode cX9_layPieces 113 = .ok (.iconst 4, 1) := by decide +kernel
theorem dX9_layPieces_114 : decode cX9_layPieces 114 = .ok (.if_icmp .ge 299, 3) := by decide +kernel
theorem dX9_layPieces_117 : decode cX9_layPieces 117 = .ok (.aload_n 0, 1) := by decide +kernel
theorem dX9_layPieces_118 : decode cX9_layPieces 118 = .ok (.getfield 63, 3) := by decide +kernel
theorem dX9_layPieces_121 : decode cX9_layPieces 121 = .ok (.iload_n 3, 1) := by decide +kernel
theorem dX9_layPieces_122 : decode cX9_layPieces 122 = .ok (.iaload, 1) := by decide +kernel
theorem dX9_layPieces_123 : decode cX9_layPieces 123 = .ok (.aload_n 0, 1) := by decide +kernel
theorem dX9_layPieces_124 : decode cX9_layPieces 124 = .ok (.getfield 7, 3) := by decide +kernel
theorem dX9_layPieces_127 : decode cX9_layPieces 127 = .ok (.irem, 1) := by decide +kernel
theorem dX9_layPieces_128 : decode cX9_layPieces 128 = .ok (.iload 4, 2) := by decide +kernel
theorem dX9_layPieces_130 : decode cX9_layPieces 130 = .ok (.ifCond .ne 7, 3) := by decide +kernel
theorem dX9_layPieces_133 : decode cX9_layPieces 133 = .ok (.iconst 1, 1) := by decide +kernel
theorem dX9_layPieces_134 : decode cX9_layPieces 134 = .ok (.goto 14, 3) := by decide +kernel
theorem dX9_layPieces_137 : decode cX9_layPieces 137 = .ok (.iload 4, 2) := by decide +kernel
theorem dX9_layPieces_139 : decode cX9_layPieces 139 = .ok (.iconst 2, 1) := by decide +kernel
theorem dX9_layPieces_140 : decode cX9_layPieces 140 = .ok (.if_icmp .ne 7, 3) := by decide +kernel
theorem dX9_layPieces_143 : decode cX9_layPieces 143 = .ok (.iconst (-1), 1) := by decide +kernel
theorem dX9_layPieces_144 : decode cX9_layPieces 144 = .ok (.goto 4, 3) := by decide +kernel
theorem dX9_layPieces_147 : decode cX9_layPieces 147 = .ok (.iconst 0, 1) := by decide +kernel
theorem dX9_layPieces_148 : decode cX9_layPieces 148 = .ok (.iadd, 1) := by decide +kernel
theorem dX9_layPieces_149 : decode cX9_layPieces 149 = .ok (.istore 5, 2) := by decide +kernel
theorem dX9_layPieces_151 : decode cX9_layPieces 151 = .ok (.aload_n 0, 1) := by decide +kernel
theorem dX9_layPieces_152 : decode cX9_layPieces 152 = .ok (.getfield 63, 3) := by decide +kernel
theorem dX9_layPieces_155 : decode cX9_layPieces 155 = .ok (.iload_n 3, 1) := by decide +kernel
theorem dX9_layPieces_156 : decode cX9_layPieces 156 = .ok (.iaload, 1) := by decide +kernel
theorem dX9_layPieces_157 : decode cX9_layPieces 157 = .ok (.aload_n 0, 1) := by decide +kernel
theorem dX9_layPieces_158 : decode cX9_layPieces 158 = .ok (.getfield 7, 3) := by decide +kernel
theorem dX9_layPieces_161 : decode cX9_layPieces 161 = .ok (.idiv, 1) := by decide +kernel
theorem dX9_layPieces_162 : decode cX9_layPieces 162 = .ok (.iload 4, 2) := by decide +kernel
theorem dX9_layPieces_164 : decode cX9_layPieces 164 = .ok (.iconst 1, 1) := by decide +kernel
theorem dX9_layPieces_165 : decode cX9_layPieces 165 = .ok (.if_icmp .ne 7, 3) := by decide +kernel
theorem dX9_layPieces_168 : decode cX9_layPieces 168 = .ok (.iconst 1, 1) := by decide +kernel
theorem dX9_layPieces_169 : decode cX9_layPieces 169 = .ok (.goto 14, 3) := by decide +kernel
theorem dX9_layPieces_172 : decode cX9_layPieces 172 = .ok (.iload 4, 2) := by decide +kernel
theorem dX9_layPieces_174 : decode cX9_layPieces 174 = .ok (.iconst 3, 1) := by decide +kernel
theorem dX9_layPieces_175 : decode cX9_layPieces 175 = .ok (.if_icmp .ne 7, 3) := by decide +kernel
theorem dX9_layPieces_178 : decode cX9_layPieces 178 = .ok (.iconst (-1), 1) := by decide +kernel
theorem dX9_layPieces_179 : decode cX9_layPieces 179 = .ok (.goto 4, 3) := by decide +kernel
theorem dX9_layPieces_182 : decode cX9_layPieces 182 = .ok (.iconst 0, 1) := by decide +kernel
theorem dX9_layPieces_183 : decode cX9_layPieces 183 = .ok (.iadd, 1) := by decide +kernel
theorem dX9_layPieces_184 : decode cX9_layPieces 184 = .ok (.istore 6, 2) := by decide +kernel
theorem dX9_layPieces_186 : decode cX9_layPieces 186 = .ok (.aload_n 0, 1) := by decide +kernel
theorem dX9_layPieces_187 : decode cX9_layPieces 187 = .ok (.getfield 54, 3) := by decide +kernel
theorem dX9_layPieces_190 : decode cX9_layPieces 190 = .ok (.aload_n 0, 1) := by decide +kernel
theorem dX9_layPieces_191 : decode cX9_layPieces 191 = .ok (.getfield 63, 3) := by decide +kernel
theorem dX9_layPieces_194 : decode cX9_layPieces 194 = .ok (.iload_n 3, 1) := by decide +kernel
theorem dX9_layPieces_195 : decode cX9_layPieces 195 = .ok (.iaload, 1) := by decide +kernel
theorem dX9_layPieces_196 : decode cX9_layPieces 196 = .ok (.iaload, 1) := by decide +kernel
theorem dX9_layPieces_197 : decode cX9_layPieces 197 = .ok (.iload 5, 2) := by decide +kernel
theorem dX9_layPieces_199 : decode cX9_layPieces 199 = .ok (.ifCond .ge 7, 3) := by decide +kernel
theorem dX9_layPieces_202 : decode cX9_layPieces 202 = .ok (.iconst (-1), 1) := by decide +kernel
theorem dX9_layPieces_203 : decode cX9_layPieces 203 = .ok (.goto 17, 3) := by decide +kernel
theorem dX9_layPieces_206 : decode cX9_layPieces 206 = .ok (.iload 5, 2) := by decide +kernel
theorem dX9_layPieces_208 : decode cX9_layPieces 208 = .ok (.aload_n 0, 1) := by decide +kernel
theorem dX9_layPieces_209 : decode cX9_layPieces 209 = .ok (.getfield 7, 3) := by decide +kernel
theorem dX9_layPieces_212 : decode cX9_layPieces 212 = .ok (.if_icmp .ne 7, 3) := by decide +kernel
theorem dX9_layPieces_215 : decode cX9_layPieces 215 = .ok (.iconst 1, 1) := by decide +kernel
theorem dX9_layPieces_216 : decode cX9_layPieces 216 = .ok (.goto 4, 3) := by decide +kernel
theorem dX9_layPieces_219 : decode cX9_layPieces 219 = .ok (.iconst 0, 1) := by decide +kernel
theorem dX9_layPieces_220 : decode cX9_layPieces 220 = .ok (.iadd, 1) := by decide +kernel
theorem dX9_layPieces_221 : decode cX9_layPieces 221 = .ok (.istore 7, 2) := by decide +kernel
theorem dX9_layPieces_223 : decode cX9_layPieces 223 = .ok (.aload_n 0, 1) := by decide +kernel
theorem dX9_layPieces_224 : decode cX9_layPieces 224 = .ok (.getfield 57, 3) := by decide +kernel
theorem dX9_layPieces_227 : decode cX9_layPieces 227 = .ok (.aload_n 0, 1) := by decide +kernel
theorem dX9_layPieces_228 : decode cX9_layPieces 228 = .ok (.getfield 63, 3) := by decide +kernel
theorem dX9_layPieces_231 : decode cX9_layPieces 231 = .ok (.iload_n 3, 1) := by decide +kernel
theorem dX9_layPieces_232 : decode cX9_layPieces 232 = .ok (.iaload, 1) := by decide +kernel
theorem dX9_layPieces_233 : decode cX9_layPieces 233 = .ok (.iaload, 1) := by decide +kernel
theorem dX9_layPieces_234 : decode cX9_layPieces 234 = .ok (.iload 6, 2) := by decide +kernel
theorem dX9_layPieces_236 : decode cX9_layPieces 236 = .ok (.ifCond .ge 7, 3) := by decide +kernel
theorem dX9_layPieces_239 : decode cX9_layPieces 239 = .ok (.iconst (-1), 1) := by decide +kernel
theorem dX9_layPieces_240 : decode cX9_layPieces 240 = .ok (.goto 17, 3) := by decide +kernel
theorem dX9_layPieces_243 : decode cX9_layPieces 243 = .ok (.iload 6, 2) := by decide +kernel
theorem dX9_layPieces_245 : decode cX9_layPieces 245 = .ok (.aload_n 0, 1) := by decide +kernel
theorem dX9_layPieces_246 : decode cX9_layPieces 246 = .ok (.getfield 13, 3) := by decide +kernel
theorem dX9_layPieces_249 : decode cX9_layPieces 249 = .ok (.if_icmp .ne 7, 3) := by decide +kernel
theorem dX9_layPieces_252 : decode cX9_layPieces 252 = .ok (.iconst 1, 1) := by decide +kernel
theorem dX9_layPieces_253 : decode cX9_layPieces 253 = .ok (.goto 4, 3) := by decide +kernel
theorem dX9_layPieces_256 : decode cX9_layPieces 256 = .ok (.iconst 0, 1) := by decide +kernel
theorem dX9_layPieces_257 : decode cX9_layPieces 257 = .ok (.iadd, 1) := by decide +kernel
theorem dX9_layPieces_258 : decode cX9_layPieces 258 = .ok (.istore 8, 2) := by decide +kernel
theorem dX9_layPieces_260 : decode cX9_layPieces 260 = .ok (.iload 6, 2) := by decide +kernel
theorem dX9_layPieces_262 : decode cX9_layPieces 262 = .ok (.aload_n 0, 1) := by decide +kernel
theorem dX9_layPieces_263 : decode cX9_layPieces 263 = .ok (.getfield 13, 3) := by decide +kernel
theorem dX9_layPieces_266 : decode cX9_layPieces 266 = .ok (.invokestatic 88, 3) := by decide +kernel
theorem dX9_layPieces_269 : decode cX9_layPieces 269 = .ok (.aload_n 0, 1) := by decide +kernel
theorem dX9_layPieces_270 : decode cX9_layPieces 270 = .ok (.getfield 7, 3) := by decide +kernel
theorem dX9_layPieces_273 : decode cX9_layPieces 273 = .ok (.imul, 1) := by decide +kernel
theorem dX9_layPieces_274 : decode cX9_layPieces 274 = .ok (.iload 5, 2) := by decide +kernel
theorem dX9_layPieces_276 : decode cX9_layPieces 276 = .ok (.aload_n 0, 1) := by decide +kernel
theorem dX9_layPieces_277 : decode cX9_layPieces 277 = .ok (.getfield 7, 3) := by decide +kernel
theorem dX9_layPieces_280 : decode cX9_layPieces 280 = .ok (.invokestatic 88, 3) := by decide +kernel
theorem dX9_layPieces_283 : decode cX9_layPieces 283 = .ok (.iadd, 1) := by decide +kernel
theorem dX9_layPieces_284 : decode cX9_layPieces 284 = .ok (.istore 9, 2) := by decide +kernel
theorem dX9_layPieces_286 : decode cX9_layPieces 286 = .ok (.aload_n 0, 1) := by decide +kernel
theorem dX9_layPieces_287 : decode cX9_layPieces 287 = .ok (.getfield 19, 3) := by decide +kernel
theorem dX9_layPieces_290 : decode cX9_layPieces 290 = .ok (.iload 9, 2) := by decide +kernel
theorem dX9_layPieces_292 : decode cX9_layPieces 292 = .ok (.iaload, 1) := by decide +kernel
theorem dX9_layPieces_293 : decode cX9_layPieces 293 = .ok (.aload_n 0, 1) := by decide +kernel
theorem dX9_layPieces_294 : decode cX9_layPieces 294 = .ok (.getfield 19, 3) := by decide +kernel
theorem dX9_layPieces_297 : decode cX9_layPieces 297 = .ok (.iload_n 1, 1) := by decide +kernel
theorem dX9_layPieces_298 : decode cX9_layPieces 298 = .ok (.iaload, 1) := by decide +kernel
theorem dX9_layPieces_299 : decode cX9_layPieces 299 = .ok (.if_icmp .ne 58, 3) := by decide +kernel
theorem dX9_layPieces_302 : decode cX9_layPieces 302 = .ok (.aload_n 0, 1) := by decide +kernel
theorem dX9_layPieces_303 : decode cX9_layPieces 303 = .ok (.getfield 51, 3) := by decide +kernel
theorem dX9_layPieces_306 : decode cX9_layPieces 306 = .ok (.iload 9, 2) := by decide +kernel
theorem dX9_layPieces_308 : decode cX9_layPieces 308 = .ok (.iaload, 1) := by decide +kernel
theorem dX9_layPieces_309 : decode cX9_layPieces 309 = .ok (.bipush (-9), 2) := by decide +kernel
theorem dX9_layPieces_311 : decode cX9_layPieces 311 = .ok (.if_icmp .ne 46, 3) := by decide +kernel
theorem dX9_layPieces_314 : decode cX9_layPieces 314 = .ok (.aload_n 0, 1) := by decide +kernel
theorem dX9_layPieces_315 : decode cX9_layPieces 315 = .ok (.getfield 51, 3) := by decide +kernel
theorem dX9_layPieces_318 : decode cX9_layPieces 318 = .ok (.iload 9, 2) := by decide +kernel
theorem dX9_layPieces_320 : decode cX9_layPieces 320 = .ok (.aload_n 0, 1) := by decide +kernel
theorem dX9_layPieces_321 : decode cX9_layPieces 321 = .ok (.getfield 182, 3) := by decide +kernel
theorem dX9_layPieces_324 : decode cX9_layPieces 324 = .ok (.iastore, 1) := by decide +kernel
theorem dX9_layPieces_325 : decode cX9_layPieces 325 = .ok (.aload_n 0, 1) := by decide +kernel
theorem dX9_layPieces_326 : decode cX9_layPieces 326 = .ok (.getfield 54, 3) := by decide +kernel
theorem dX9_layPieces_329 : decode cX9_layPieces 329 = .ok (.iload 9, 2) := by decide +kernel
theorem dX9_layPieces_331 : decode cX9_layPieces 331 = .ok (.iload 7, 2) := by decide +kernel
theorem dX9_layPieces_333 : decode cX9_layPieces 333 = .ok (.iastore, 1) := by decide +kernel
theorem dX9_layPieces_334 : decode cX9_layPieces 334 = .ok (.aload_n 0, 1) := by decide +kernel
theorem dX9_layPieces_335 : decode cX9_layPieces 335 = .ok (.getfield 57, 3) := by decide +kernel
theorem dX9_layPieces_338 : decode cX9_layPieces 338 = .ok (.iload 9, 2) := by decide +kernel
theorem dX9_layPieces_340 : decode cX9_layPieces 340 = .ok (.iload 8, 2) := by decide +kernel
theorem dX9_layPieces_342 : decode cX9_layPieces 342 = .ok (.iastore, 1) := by decide +kernel
theorem dX9_layPieces_343 : decode cX9_layPieces 343 = .ok (.aload_n 0, 1) := by decide +kernel
theorem dX9_layPieces_344 : decode cX9_layPieces 344 = .ok (.getfield 63, 3) := by decide +kernel
theorem dX9_layPieces_347 : decode cX9_layPieces 347 = .ok (.iload_n 2, 1) := by decide +kernel
theorem dX9_layPieces_348 : decode cX9_layPieces 348 = .ok (.iload 9, 2) := by decide +kernel
theorem dX9_layPieces_350 : decode cX9_layPieces 350 = .ok (.iastore, 1) := by decide +kernel
theorem dX9_layPieces_351 : decode cX9_layPieces 351 = .ok (.iinc 2 1, 3) := by decide +kernel
theorem dX9_layPieces_354 : decode cX9_layPieces 354 = .ok (.goto 53, 3) := by decide +kernel
theorem dX9_layPieces_357 : decode cX9_layPieces 357 = .ok (.aload_n 0, 1) := by decide +kernel
theorem dX9_layPieces_358 : decode cX9_layPieces 358 = .ok (.getfield 19, 3) := by decide +kernel
theorem dX9_layPieces_361 : decode cX9_layPieces 361 = .ok (.iload 9, 2) := by decide +kernel
theorem dX9_layPieces_363 : decode cX9_layPieces 363 = .ok (.iaload, 1) := by decide +kernel
theorem dX9_layPieces_364 : decode cX9_layPieces 364 = .ok (.aload_n 0, 1) := by decide +kernel
theorem dX9_layPieces_365 : decode cX9_layPieces 365 = .ok (.getfield 19, 3) := by decide +kernel
theorem dX9_layPieces_368 : decode cX9_layPieces 368 = .ok (.iload_n 1, 1) := by decide +kernel
theorem dX9_layPieces_369 : decode cX9_layPieces 369 = .ok (.iaload, 1) := by decide +kernel
theorem dX9_layPieces_370 : decode cX9_layPieces 370 = .ok (.if_icmp .ne 37, 3) := by decide +kernel
theorem dX9_layPieces_373 : decode cX9_layPieces 373 = .ok (.aload_n 0, 1) := by decide +kernel
theorem dX9_layPieces_374 : decode cX9_layPieces 374 = .ok (.getfield 54, 3) := by decide +kernel
theorem dX9_layPieces_377 : decode cX9_layPieces 377 = .ok (.iload 9, 2) := by decide +kernel
theorem dX9_layPieces_379 : decode cX9_layPieces 379 = .ok (.iaload, 1) := by decide +kernel
theorem dX9_layPieces_380 : decode cX9_layPieces 380 = .ok (.iload 7, 2) := by decide +kernel
theorem dX9_layPieces_382 : decode cX9_layPieces 382 = .ok (.if_icmp .ne 15, 3) := by decide +kernel
theorem dX9_layPieces_385 : decode cX9_layPieces 385 = .ok (.aload_n 0, 1) := by decide +kernel
theorem dX9_layPieces_386 : decode cX9_layPieces 386 = .ok (.getfield 57, 3) := by decide +kernel
theorem dX9_layPieces_389 : decode cX9_layPieces 389 = .ok (.iload 9, 2) := by decide +kernel
theorem dX9_layPieces_391 : decode cX9_layPieces 391 = .ok (.iaload, 1) := by decide +kernel
theorem dX9_layPieces_392 : decode cX9_layPieces 392 = .ok (.iload 8, 2) := by decide +kernel
theorem dX9_layPieces_394 : decode cX9_layPieces 394 = .ok (.if_icmp .eq 13, 3) := by decide +kernel
theorem dX9_layPieces_397 : decode cX9_layPieces 397 = .ok (.aload_n 0, 1) := by decide +kernel
theorem dX9_layPieces_398 : decode cX9_layPieces 398 = .ok (.getfield 60, 3) := by decide +kernel
theorem dX9_layPieces_401 : decode cX9_layPieces 401 = .ok (.aload_n 0, 1) := by decide +kernel
theorem dX9_layPieces_402 : decode cX9_layPieces 402 = .ok (.getfield 182, 3) := by decide +kernel
theorem dX9_layPieces_405 : decode cX9_layPieces 405 = .ok (.iconst 1, 1) := by decide +kernel
theorem dX9_layPieces_406 : decode cX9_layPieces 406 = .ok (.bastore, 1) := by decide +kernel
theorem dX9_layPieces_407 : decode cX9_layPieces 407 = .ok (.iinc 4 1, 3) := by decide +kernel
theorem dX9_layPieces_410 : decode cX9_layPieces 410 = .ok (.goto (-299), 3) := by decide +kernel
theorem dX9_layPieces_413 : decode cX9_layPieces 413 = .ok (.iinc 3 1, 3) := by decide +kernel
theorem dX9_layPieces_416 : decode cX9_layPieces 416 = .ok (.goto (-313), 3) := by decide +kernel
theorem dX9_layPieces_419 : decode cX9_layPieces 419 = .ok (.aload_n 0, 1) := by decide +kernel
theorem dX9_layPieces_420 : decode cX9_layPieces 420 = .ok (.dup, 1) := by decide +kernel
theorem dX9_layPieces_421 : decode cX9_layPieces 421 = .ok (.getfield 182, 3) := by decide +kernel
theorem dX9_layPieces_424 : decode cX9_layPieces 424 = .ok (.iconst 1, 1) := by decide +kernel
theorem dX9_layPieces_425 : decode cX9_layPieces 425 = .ok (.iadd, 1) := by decide +kernel
theorem dX9_layPieces_426 : decode cX9_layPieces 426 = .ok (.putfield 182, 3) := by decide +kernel
theorem dX9_layPieces_429 : decode cX9_layPieces 429 = .ok (.iinc 1 1, 3) := by decide +kernel
theorem dX9_layPieces_432 : decode cX9_layPieces 432 = .ok (.goto (-394), 3) := by decide +kernel
theorem dX9_layPieces_435 : decode cX9_layPieces 435 = .ok (.return_, 1) := by decide +kernel
theorem bX9_layPieces_0 (mem : zm_Mem) (post : zm_Post) (kk : zm_Z gX9_layPieces post 7 [(0, .ref 21), (1, .int 0)] [] (zm_st mem 21 20 0)) : zm_Call gX9_layPieces [.ref 21] mem post := by
  refine z_entry (by decide) (Nat.le_of_ble_eq_true rfl) ?_
  show zm_Z gX9_layPieces post 0 [(0, .ref 21)] [] mem
  refine z_aload_n dX9_layPieces_0 rfl 0 rfl ?_
  refine z_iconst (v := 0) dX9_layPieces_1 zciconst_0 ?_
  refine z_put (ci := 9) (j := 20) (T := TX9) (ty0 := tyX9) rfl rfl hX9 tyX9_ok nmX9 rfl (by decide) fkX9_182 rfl rfl rfl dX9_layPieces_2 ?_
  refine z_iconst (v := 0) dX9_layPieces_5 zciconst_0 ?_
  refine z_istore_n (lv' := [(1, .int 0), (0, .ref 21)]) dX9_layPieces_6 rfl (by decide) rfl ?_
  refine z_sub [1, 0] rfl ?_
  exact kk
theorem bX9_layPieces_7 (x1 : Int32) (mem : zm_Mem) (post : zm_Post) (kk : zm_Call gX9_cells [.ref 21] mem (fun r1 w1 u1 => ((r1 ≤ x1 → zm_Z gX9_layPieces post 38 [(0, .ref 21), (1, .int 0)] [] u1) ∧ (¬ r1 ≤ x1 → (vp_in x1 36 ∧ (vp_in x1 36 ∧ zm_Z gX9_layPieces post 7 [(0, .ref 21), (1, .int (x1 + 1))] [] (zm_st (zm_st u1 32 (Int32.toNatClampNeg x1) (-9)) 35 (Int32.toNatClampNeg x1) 0))))))) : zm_Z gX9_layPieces post 7 [(0, .ref 21), (1, .int x1)] [] mem := by
  refine z_iload_n dX9_layPieces_7 rfl 1 rfl ?_
  refine z_aload_n dX9_layPieces_8 rfl 0 rfl ?_
  refine z_callVi (g' := gX9_cells) [] (q := 21) (ci := 9) (T := TX9) rfl rfl ⟨lkX9_72, pdX9_cells, by decide, by decide⟩ ⟨_, rfl, by decide⟩ rfl (Nat.le_of_ble_eq_true rfl) dX9_layPieces_9 (zm_Call.mono kk (fun r1 w1 u1 k1 => ?_))
  refine z_icmp_ge (tgt := 36) dX9_layPieces_12 (by decide) (fun h2 => ?_) (fun h2 => ?_)
  ·
    refine z_iconst (v := 0) dX9_layPieces_36 zciconst_0 ?_
    refine z_istore_n (lv' := [(1, .int 0), (0, .ref 21)]) dX9_layPieces_37 rfl (by decide) rfl ?_
    refine z_sub [1, 0] rfl ?_
    exact (k1.1 h2)
  ·
    refine z_aload_n dX9_layPieces_15 rfl 0 rfl ?_
    refine z_getr (ci := 9) (j := 15) (r := 32) (T := TX9) rfl rfl hX9 rfl (by decide) fkX9_51 dX9_layPieces_16 ?_
    refine z_iload_n dX9_layPieces_19 rfl 1 rfl ?_
    refine z_bipush (v := (-9)) dX9_layPieces_20 zcbipush_m9 ?_
    refine z_iast (n := 36) rfl (k1.2 h2).1 dX9_layPieces_22 ?_
    refine z_aload_n dX9_layPieces_23 rfl 0 rfl ?_
    refine z_getr (ci := 9) (j := 18) (r := 35) (T := TX9) rfl rfl hX9 rfl (by decide) fkX9_60 dX9_layPieces_24 ?_
    refine z_iload_n dX9_layPieces_27 rfl 1 rfl ?_
    refine z_iconst (v := 0) dX9_layPieces_28 zciconst_0 ?_
    refine z_bast (n := 36) rfl (k1.2 h2).2.1 (by decide) dX9_layPieces_29 ?_
    refine z_iinc (v := x1 + 1) (lv' := [(1, .int (x1 + 1)), (0, .ref 21)]) dX9_layPieces_30 1 rfl (by rw [zciconst_1]) (by decide) rfl ?_
    refine z_goto (tgt := 7) dX9_layPieces_33 (by decide) ?_
    refine z_sub [1, 0] rfl ?_
    exact (k1.2 h2).2.2
theorem bX9_layPieces_38 (x1 : Int32) (mem : zm_Mem) (post : zm_Post) (kk : zm_Call gX9_cells [.ref 21] mem (fun r1 w1 u1 => ((r1 ≤ x1 → post 0 0 u1) ∧ (¬ r1 ≤ x1 → (vp_in x1 36 ∧ (((u1 22 (Int32.toNatClampNeg x1)) = 9 → zm_Z gX9_layPieces post 38 [(0, .ref 21), (1, .int (x1 + 1))] [] u1) ∧ (¬ (u1 22 (Int32.toNatClampNeg x1)) = 9 → (vp_in x1 36 ∧ ((¬ (u1 32 (Int32.toNatClampNeg x1)) = (-9) → zm_Z gX9_layPieces post 38 [(0, .ref 21), (1, .int (x1 + 1))] [] u1) ∧ ((u1 32 (Int32.toNatClampNeg x1)) = (-9) → (vp_in x1 36 ∧ (vp_in x1 36 ∧ (vp_in x1 36 ∧ (vp_in 0 36 ∧ zm_Z gX9_layPieces post 103 [(0, .ref 21), (1, .int x1), (2, .int 1), (3, .int 0)] [] (zm_st (zm_st (zm_st (zm_st u1 32 (Int32.toNatClampNeg x1) (u1 21 20)) 33 (Int32.toNatClampNeg x1) 0) 34 (Int32.toNatClampNeg x1) 0) 36 (Int32.toNatClampNeg 0) x1))))))))))))))) : zm_Z gX9_layPieces post 38 [(0, .ref 21), (1, .int x1)] [] mem := by
  refine z_iload_n dX9_layPieces_38 rfl 1 rfl ?_
  refine z_aload_n dX9_layPieces_39 rfl 0 rfl ?_
  refine z_callVi (g' := gX9_cells) [] (q := 21) (ci := 9) (T := TX9) rfl rfl ⟨lkX9_72, pdX9_cells, by decide, by decide⟩ ⟨_, rfl, by decide⟩ rfl (Nat.le_of_ble_eq_true rfl) dX9_layPieces_40 (zm_Call.mono kk (fun r1 w1 u1 k1 => ?_))
  refine z_icmp_ge (tgt := 435) dX9_layPieces_43 (by decide) (fun h2 => ?_) (fun h2 => ?_)
  ·
    exact z_vret rfl dX9_layPieces_435 (k1.1 h2)
  ·
    refine z_aload_n dX9_layPieces_46 rfl 0 rfl ?_
    refine z_getr (ci := 9) (j := 4) (r := 22) (T := TX9) rfl rfl hX9 rfl (by decide) fkX9_19 dX9_layPieces_47 ?_
    refine z_iload_n dX9_layPieces_50 rfl 1 rfl ?_
    refine z_iald (n := 36) rfl (k1.2 h2).1 dX9_layPieces_51 ?_
    refine z_bipush (v := 9) dX9_layPieces_52 zcbipush_9 ?_
    refine z_icmp_eq (tgt := 429) dX9_layPieces_54 (by decide) (fun h3 => ?_) (fun h3 => ?_)
    ·
      refine z_iinc (v := x1 + 1) (lv' := [(1, .int (x1 + 1)), (0, .ref 21)]) dX9_layPieces_429 1 rfl (by rw [zciconst_1]) (by decide) rfl ?_
      refine z_goto (tgt := 38) dX9_layPieces_432 (by decide) ?_
      refine z_sub [1, 0] rfl ?_
      exact ((k1.2 h2).2.1 h3)
    ·
      refine z_aload_n dX9_layPieces_57 rfl 0 rfl ?_
      refine z_getr (ci := 9) (j := 15) (r := 32) (T := TX9) rfl rfl hX9 rfl (by decide) fkX9_51 dX9_layPieces_58 ?_
      refine z_iload_n dX9_layPieces_61 rfl 1 rfl ?_
      refine z_iald (n := 36) rfl ((k1.2 h2).2.2 h3).1 dX9_layPieces_62 ?_
      refine z_bipush (v := (-9)) dX9_layPieces_63 zcbipush_m9 ?_
      refine z_icmp_ne (tgt := 429) dX9_layPieces_65 (by decide) (fun h4 => ?_) (fun h4 => ?_)
      ·
        refine z_iinc (v := x1 + 1) (lv' := [(1, .int (x1 + 1)), (0, .ref 21)]) dX9_layPieces_429 1 rfl (by rw [zciconst_1]) (by decide) rfl ?_
        refine z_goto (tgt := 38) dX9_layPieces_432 (by decide) ?_
        refine z_sub [1, 0] rfl ?_
        exact (((k1.2 h2).2.2 h3).2.1 h4)
      ·
        refine z_aload_n dX9_layPieces_68 rfl 0 rfl ?_
        refine z_getr (ci := 9) (j := 15) (r := 32) (T := TX9) rfl rfl hX9 rfl (by decide) fkX9_51 dX9_layPieces_69 ?_
        refine z_iload_n dX9_layPieces_72 rfl 1 rfl ?_
        refine z_aload_n dX9_layPieces_73 rfl 0 rfl ?_
        refine z_geti (ci := 9) (j := 20) (T := TX9) rfl rfl hX9 rfl (by decide) fkX9_182 dX9_layPieces_74 ?_
        refine z_iast (n := 36) rfl (((k1.2 h2).2.2 h3).2.2 h4).1 dX9_layPieces_77 ?_
        refine z_aload_n dX9_layPieces_78 rfl 0 rfl ?_
        refine z_getr (ci := 9) (j := 16) (r := 33) (T := TX9) rfl rfl hX9 rfl (by decide) fkX9_54 dX9_layPieces_79 ?_
        refine z_iload_n dX9_layPieces_82 rfl 1 rfl ?_
        refine z_iconst (v := 0) dX9_layPieces_83 zciconst_0 ?_
        refine z_iast (n := 36) rfl (((k1.2 h2).2.2 h3).2.2 h4).2.1 dX9_layPieces_84 ?_
        refine z_aload_n dX9_layPieces_85 rfl 0 rfl ?_
        refine z_getr (ci := 9) (j := 17) (r := 34) (T := TX9) rfl rfl hX9 rfl (by decide) fkX9_57 dX9_layPieces_86 ?_
        refine z_iload_n dX9_layPieces_89 rfl 1 rfl ?_
        refine z_iconst (v := 0) dX9_layPieces_90 zciconst_0 ?_
        refine z_iast (n := 36) rfl (((k1.2 h2).2.2 h3).2.2 h4).2.2.1 dX9_layPieces_91 ?_
        refine z_aload_n dX9_layPieces_92 rfl 0 rfl ?_
        refine z_getr (ci := 9) (j := 19) (r := 36) (T := TX9) rfl rfl hX9 rfl (by decide) fkX9_63 dX9_layPieces_93 ?_
        refine z_iconst (v := 0) dX9_layPieces_96 zciconst_0 ?_
        refine z_iload_n dX9_layPieces_97 rfl 1 rfl ?_
        refine z_iast (n := 36) rfl (((k1.2 h2).2.2 h3).2.2 h4).2.2.2.1 dX9_layPieces_98 ?_
        refine z_iconst (v := 1) dX9_layPieces_99 zciconst_1 ?_
        refine z_istore_n (lv' := [(2, .int 1), (0, .ref 21), (1, .int x1)]) dX9_layPieces_100 rfl (by decide) rfl ?_
        refine z_iconst (v := 0) dX9_layPieces_101 zciconst_0 ?_
        refine z_istore_n (lv' := [(3, .int 0), (2, .int 1), (0, .ref 21), (1, .int x1)]) dX9_layPieces_102 rfl (by decide) rfl ?_
        refine z_sub [2, 3, 1, 0] rfl ?_
        exact (((k1.2 h2).2.2 h3).2.2 h4).2.2.2.2
theorem bX9_layPieces_103 (x1 : Int32) (x2 : Int32) (x3 : Int32) (mem : zm_Mem) (post : zm_Post) (kk : ((x2 ≤ x3 → zm_Z gX9_layPieces post 38 [(0, .ref 21), (1, .int (x1 + 1))] [] (zm_st mem 21 20 ((mem 21 20) + 1))) ∧ (¬ x2 ≤ x3 → zm_Z gX9_layPieces post 111 [(0, .ref 21), (1, .int x1), (2, .int x2), (3, .int x3), (4, .int 0)] [] mem))) : zm_Z gX9_layPieces post 103 [(0, .ref 21), (1, .int x1), (2, .int x2), (3, .int x3)] [] mem := by
  refine z_iload_n dX9_layPieces_103 rfl 3 rfl ?_
  refine z_iload_n dX9_layPieces_104 rfl 2 rfl ?_
  refine z_icmp_ge (tgt := 419) dX9_layPieces_105 (by decide) (fun h1 => ?_) (fun h1 => ?_)
  ·
    refine z_aload_n dX9_layPieces_419 rfl 0 rfl ?_
    refine z_dupr dX9_layPieces_420 ?_
    refine z_geti (ci := 9) (j := 20) (T := TX9) rfl rfl hX9 rfl (by decide) fkX9_182 dX9_layPieces_421 ?_
    refine z_iconst (v := 1) dX9_layPieces_424 zciconst_1 ?_
    refine z_iadd dX9_layPieces_425 ?_
    refine z_put (ci := 9) (j := 20) (T := TX9) (ty0 := tyX9) rfl rfl hX9 tyX9_ok nmX9 rfl (by decide) fkX9_182 rfl rfl rfl dX9_layPieces_426 ?_
    refine z_iinc (v := x1 + 1) (lv' := [(1, .int (x1 + 1)), (0, .ref 21), (2, .int x2), (3, .int x3)]) dX9_layPieces_429 1 rfl (by rw [zciconst_1]) (by decide) rfl ?_
    refine z_goto (tgt := 38) dX9_layPieces_432 (by decide) ?_
    refine z_sub [1, 0] rfl ?_
    exact (kk.1 h1)
  ·
    refine z_iconst (v := 0) dX9_layPieces_108 zciconst_0 ?_
    refine z_istore (lv' := [(4, .int 0), (0, .ref 21), (1, .int x1), (2, .int x2), (3, .int x3)]) dX9_layPieces_109 (by decide) rfl ?_
    refine z_sub [1, 2, 3, 4, 0] rfl ?_
    exact (kk.2 h1)
theorem bX9_layPieces_111 (x1 : Int32) (x2 : Int32) (x3 : Int32) (x4 : Int32) (mem : zm_Mem) (post : zm_Post) (kk : ((4 ≤ x4 → zm_Z gX9_layPieces post 103 [(0, .ref 21), (1, .int x1), (2, .int x2), (3, .int (x3 + 1))] [] mem) ∧ (¬ 4 ≤ x4 → (vp_in x3 36 ∧ (¬ mem 21 1 = 0 ∧ ((¬ x4 = 0 → ((¬ x4 = 2 → zm_Z gX9_layPieces post 148 [(0, .ref 21), (1, .int x1), (2, .int x2), (3, .int x3), (4, .int x4)] [.int 0, .int ((mem 36 (Int32.toNatClampNeg x3)) - (mem 36 (Int32.toNatClampNeg x3)) / (mem 21 1) * (mem 21 1))] mem) ∧ (x4 = 2 → zm_Z gX9_layPieces post 148 [(0, .ref 21), (1, .int x1), (2, .int x2), (3, .int x3), (4, .int x4)] [.int (-1), .int ((mem 36 (Int32.toNatClampNeg x3)) - (mem 36 (Int32.toNatClampNeg x3)) / (mem 21 1) * (mem 21 1))] mem))) ∧ (x4 = 0 → zm_Z gX9_layPieces post 148 [(0, .ref 21), (1, .int x1), (2, .int x2), (3, .int x3), (4, .int x4)] [.int 1, .int ((mem 36 (Int32.toNatClampNeg x3)) - (mem 36 (Int32.toNatClampNeg x3)) / (mem 21 1) * (mem 21 1))] mem))))))) : zm_Z gX9_layPieces post 111 [(0, .ref 21), (1, .int x1), (2, .int x2), (3, .int x3), (4, .int x4)] [] mem := by
  refine z_iload dX9_layPieces_111 4 rfl ?_
  refine z_iconst (v := 4) dX9_layPieces_113 zciconst_4 ?_
  refine z_icmp_ge (tgt := 413) dX9_layPieces_114 (by decide) (fun h1 => ?_) (fun h1 => ?_)
  ·
    refine z_iinc (v := x3 + 1) (lv' := [(3, .int (x3 + 1)), (0, .ref 21), (1, .int x1), (2, .int x2), (4, .int x4)]) dX9_layPieces_413 3 rfl (by rw [zciconst_1]) (by decide) rfl ?_
    refine z_goto (tgt := 103) dX9_layPieces_416 (by decide) ?_
    refine z_sub [1, 2, 3, 0] rfl ?_
    exact (kk.1 h1)
  ·
    refine z_aload_n dX9_layPieces_117 rfl 0 rfl ?_
    refine z_getr (ci := 9) (j := 19) (r := 36) (T := TX9) rfl rfl hX9 rfl (by decide) fkX9_63 dX9_layPieces_118 ?_
    refine z_iload_n dX9_layPieces_121 rfl 3 rfl ?_
    refine z_iald (n := 36) rfl (kk.2 h1).1 dX9_layPieces_122 ?_
    refine z_aload_n dX9_layPieces_123 rfl 0 rfl ?_
    refine z_geti (ci := 9) (j := 1) (T := TX9) rfl rfl hX9 rfl (by decide) fkX9_7 dX9_layPieces_124 ?_
    refine z_irem dX9_layPieces_127 (kk.2 h1).2.1 ?_
    refine z_iload dX9_layPieces_128 4 rfl ?_
    refine z_if_ne (tgt := 137) dX9_layPieces_130 (by decide) (fun h2 => ?_) (fun h2 => ?_)
    ·
      refine z_iload dX9_layPieces_137 4 rfl ?_
      refine z_iconst (v := 2) dX9_layPieces_139 zciconst_2 ?_
      refine z_icmp_ne (tgt := 147) dX9_layPieces_140 (by decide) (fun h3 => ?_) (fun h3 => ?_)
      ·
        refine z_iconst (v := 0) dX9_layPieces_147 zciconst_0 ?_
        exact (((kk.2 h1).2.2.1 h2).1 h3)
      ·
        refine z_iconst (v := (-1)) dX9_layPieces_143 zciconst_m1 ?_
        refine z_goto (tgt := 148) dX9_layPieces_144 (by decide) ?_
        exact (((kk.2 h1).2.2.1 h2).2 h3)
    ·
      refine z_iconst (v := 1) dX9_layPieces_133 zciconst_1 ?_
      refine z_goto (tgt := 148) dX9_layPieces_134 (by decide) ?_
      exact ((kk.2 h1).2.2.2 h2)
theorem bX9_layPieces_148 (x1 : Int32) (x2 : Int32) (x3 : Int32) (x4 : Int32) (s0 : Int32) (s1 : Int32) (mem : zm_Mem) (post : zm_Post) (kk : (vp_in x3 36 ∧ (¬ mem 21 1 = 0 ∧ ((¬ x4 = 1 → ((¬ x4 = 3 → zm_Z gX9_layPieces post 183 [(0, .ref 21), (1, .int x1), (2, .int x2), (3, .int x3), (4, .int x4), (5, .int (s1 + s0))] [.int 0, .int ((mem 36 (Int32.toNatClampNeg x3)) / (mem 21 1))] mem) ∧ (x4 = 3 → zm_Z gX9_layPieces post 183 [(0, .ref 21), (1, .int x1), (2, .int x2), (3, .int x3), (4, .int x4), (5, .int (s1 + s0))] [.int (-1), .int ((mem 36 (Int32.toNatClampNeg x3)) / (mem 21 1))] mem))) ∧ (x4 = 1 → zm_Z gX9_layPieces post 183 [(0, .ref 21), (1, .int x1), (2, .int x2), (3, .int x3), (4, .int x4), (5, .int (s1 + s0))] [.int 1, .int ((mem 36 (Int32.toNatClampNeg x3)) / (mem 21 1))] mem))))) : zm_Z gX9_layPieces post 148 [(0, .ref 21), (1, .int x1), (2, .int x2), (3, .int x3), (4, .int x4)] [.int s0, .int s1] mem := by
  refine z_iadd dX9_layPieces_148 ?_
  refine z_istore (lv' := [(5, .int (s1 + s0)), (0, .ref 21), (1, .int x1), (2, .int x2), (3, .int x3), (4, .int x4)]) dX9_layPieces_149 (by decide) rfl ?_
  refine z_aload_n dX9_layPieces_151 rfl 1 rfl ?_
  refine z_getr (ci := 9) (j := 19) (r := 36) (T := TX9) rfl rfl hX9 rfl (by decide) fkX9_63 dX9_layPieces_152 ?_
  refine z_iload_n dX9_layPieces_155 rfl 4 rfl ?_
  refine z_iald (n := 36) rfl kk.1 dX9_layPieces_156 ?_
  refine z_aload_n dX9_layPieces_157 rfl 1 rfl ?_
  refine z_geti (ci := 9) (j := 1) (T := TX9) rfl rfl hX9 rfl (by decide) fkX9_7 dX9_layPieces_158 ?_
  refine z_idiv dX9_layPieces_161 kk.2.1 ?_
  refine z_iload dX9_layPieces_162 5 rfl ?_
  refine z_iconst (v := 1) dX9_layPieces_164 zciconst_1 ?_
  refine z_icmp_ne (tgt := 172) dX9_layPieces_165 (by decide) (fun h1 => ?_) (fun h1 => ?_)
  ·
    refine z_iload dX9_layPieces_172 5 rfl ?_
    refine z_iconst (v := 3) dX9_layPieces_174 zciconst_3 ?_
    refine z_icmp_ne (tgt := 182) dX9_layPieces_175 (by decide) (fun h2 => ?_) (fun h2 => ?_)
    ·
      refine z_iconst (v := 0) dX9_layPieces_182 zciconst_0 ?_
      refine z_sub [1, 2, 3, 4, 5, 0] rfl ?_
      exact ((kk.2.2.1 h1).1 h2)
    ·
      refine z_iconst (v := (-1)) dX9_layPieces_178 zciconst_m1 ?_
      refine z_goto (tgt := 183) dX9_layPieces_179 (by decide) ?_
      refine z_sub [1, 2, 3, 4, 5, 0] rfl ?_
      exact ((kk.2.2.1 h1).2 h2)
  ·
    refine z_iconst (v := 1) dX9_layPieces_168 zciconst_1 ?_
    refine z_goto (tgt := 183) dX9_layPieces_169 (by decide) ?_
    refine z_sub [1, 2, 3, 4, 5, 0] rfl ?_
    exact (kk.2.2.2 h1)
theorem bX9_layPieces_183 (x1 : Int32) (x2 : Int32) (x3 : Int32) (x4 : Int32) (x5 : Int32) (s0 : Int32) (s1 : Int32) (mem : zm_Mem) (post : zm_Post) (kk : (vp_in x3 36 ∧ (vp_in (mem 36 (Int32.toNatClampNeg x3)) 36 ∧ ((0 ≤ x5 → ((¬ x5 = (mem 21 1) → zm_Z gX9_layPieces post 220 [(0, .ref 21), (1, .int x1), (2, .int x2), (3, .int x3), (4, .int x4), (5, .int x5), (6, .int (s1 + s0))] [.int 0, .int (mem 33 (Int32.toNatClampNeg (mem 36 (Int32.toNatClampNeg x3))))] mem) ∧ (x5 = (mem 21 1) → zm_Z gX9_layPieces post 220 [(0, .ref 21), (1, .int x1), (2, .int x2), (3, .int x3), (4, .int x4), (5, .int x5), (6, .int (s1 + s0))] [.int 1, .int (mem 33 (Int32.toNatClampNeg (mem 36 (Int32.toNatClampNeg x3))))] mem))) ∧ (¬ 0 ≤ x5 → zm_Z gX9_layPieces post 220 [(0, .ref 21), (1, .int x1), (2, .int x2), (3, .int x3), (4, .int x4), (5, .int x5), (6, .int (s1 + s0))] [.int (-1), .int (mem 33 (Int32.toNatClampNeg (mem 36 (Int32.toNatClampNeg x3))))] mem))))) : zm_Z gX9_layPieces post 183 [(0, .ref 21), (1, .int x1), (2, .int x2), (3, .int x3), (4, .int x4), (5, .int x5)] [.int s0, .int s1] mem := by
  refine z_iadd dX9_layPieces_183 ?_
  refine z_istore (lv' := [(6, .int (s1 + s0)), (0, .ref 21), (1, .int x1), (2, .int x2), (3, .int x3), (4, .int x4), (5, .int x5)]) dX9_layPieces_184 (by decide) rfl ?_
  refine z_aload_n dX9_layPieces_186 rfl 1 rfl ?_
  refine z_getr (ci := 9) (j := 16) (r := 33) (T := TX9) rfl rfl hX9 rfl (by decide) fkX9_54 dX9_layPieces_187 ?_
  refine z_aload_n dX9_layPieces_190 rfl 1 rfl ?_
  refine z_getr (ci := 9) (j := 19) (r := 36) (T := TX9) rfl rfl hX9 rfl (by decide) fkX9_63 dX9_layPieces_191 ?_
  refine z_iload_n dX9_layPieces_194 rfl 4 rfl ?_
  refine z_iald (n := 36) rfl kk.1 dX9_layPieces_195 ?_
  refine z_iald (n := 36) rfl kk.2.1 dX9_layPieces_196 ?_
  refine z_iload dX9_layPieces_197 6 rfl ?_
  refine z_if_ge (tgt := 206) dX9_layPieces_199 (by decide) (fun h1 => ?_) (fun h1 => ?_)
  ·
    refine z_iload dX9_layPieces_206 6 rfl ?_
    refine z_aload_n dX9_layPieces_208 rfl 1 rfl ?_
    refine z_geti (ci := 9) (j := 1) (T := TX9) rfl rfl hX9 rfl (by decide) fkX9_7 dX9_layPieces_209 ?_
    refine z_icmp_ne (tgt := 219) dX9_layPieces_212 (by decide) (fun h2 => ?_) (fun h2 => ?_)
    ·
      refine z_iconst (v := 0) dX9_layPieces_219 zciconst_0 ?_
      refine z_sub [1, 2, 3, 4, 5, 6, 0] rfl ?_
      exact ((kk.2.2.1 h1).1 h2)
    ·
      refine z_iconst (v := 1) dX9_layPieces_215 zciconst_1 ?_
      refine z_goto (tgt := 220) dX9_layPieces_216 (by decide) ?_
      refine z_sub [1, 2, 3, 4, 5, 6, 0] rfl ?_
      exact ((kk.2.2.1 h1).2 h2)
  ·
    refine z_iconst (v := (-1)) dX9_layPieces_202 zciconst_m1 ?_
    refine z_goto (tgt := 220) dX9_layPieces_203 (by decide) ?_
    refine z_sub [1, 2, 3, 4, 5, 6, 0] rfl ?_
    exact (kk.2.2.2 h1)
theorem bX9_layPieces_220 (x1 : Int32) (x2 : Int32) (x3 : Int32) (x4 : Int32) (x5 : Int32) (x6 : Int32) (s0 : Int32) (s1 : Int32) (mem : zm_Mem) (post : zm_Post) (kk : (vp_in x3 36 ∧ (vp_in (mem 36 (Int32.toNatClampNeg x3)) 36 ∧ ((0 ≤ x6 → ((¬ x6 = (mem 21 2) → zm_Z gX9_layPieces post 257 [(0, .ref 21), (1, .int x1), (2, .int x2), (3, .int x3), (4, .int x4), (5, .int x5), (6, .int x6), (7, .int (s1 + s0))] [.int 0, .int (mem 34 (Int32.toNatClampNeg (mem 36 (Int32.toNatClampNeg x3))))] mem) ∧ (x6 = (mem 21 2) → zm_Z gX9_layPieces post 257 [(0, .ref 21), (1, .int x1), (2, .int x2), (3, .int x3), (4, .int x4), (5, .int x5), (6, .int x6), (7, .int (s1 + s0))] [.int 1, .int (mem 34 (Int32.toNatClampNeg (mem 36 (Int32.toNatClampNeg x3))))] mem))) ∧ (¬ 0 ≤ x6 → zm_Z gX9_layPieces post 257 [(0, .ref 21), (1, .int x1), (2, .int x2), (3, .int x3), (4, .int x4), (5, .int x5), (6, .int x6), (7, .int (s1 + s0))] [.int (-1), .int (mem 34 (Int32.toNatClampNeg (mem 36 (Int32.toNatClampNeg x3))))] mem))))) : zm_Z gX9_layPieces post 220 [(0, .ref 21), (1, .int x1), (2, .int x2), (3, .int x3), (4, .int x4), (5, .int x5), (6, .int x6)] [.int s0, .int s1] mem := by
  refine z_iadd dX9_layPieces_220 ?_
  refine z_istore (lv' := [(7, .int (s1 + s0)), (0, .ref 21), (1, .int x1), (2, .int x2), (3, .int x3), (4, .int x4), (5, .int x5), (6, .int x6)]) dX9_layPieces_221 (by decide) rfl ?_
  refine z_aload_n dX9_layPieces_223 rfl 1 rfl ?_
  refine z_getr (ci := 9) (j := 17) (r := 34) (T := TX9) rfl rfl hX9 rfl (by decide) fkX9_57 dX9_layPieces_224 ?_
  refine z_aload_n dX9_layPieces_227 rfl 1 rfl ?_
  refine z_getr (ci := 9) (j := 19) (r := 36) (T := TX9) rfl rfl hX9 rfl (by decide) fkX9_63 dX9_layPieces_228 ?_
  refine z_iload_n dX9_layPieces_231 rfl 4 rfl ?_
  refine z_iald (n := 36) rfl kk.1 dX9_layPieces_232 ?_
  refine z_iald (n := 36) rfl kk.2.1 dX9_layPieces_233 ?_
  refine z_iload dX9_layPieces_234 7 rfl ?_
  refine z_if_ge (tgt := 243) dX9_layPieces_236 (by decide) (fun h1 => ?_) (fun h1 => ?_)
  ·
    refine z_iload dX9_layPieces_243 7 rfl ?_
    refine z_aload_n dX9_layPieces_245 rfl 1 rfl ?_
    refine z_geti (ci := 9) (j := 2) (T := TX9) rfl rfl hX9 rfl (by decide) fkX9_13 dX9_layPieces_246 ?_
    refine z_icmp_ne (tgt := 256) dX9_layPieces_249 (by decide) (fun h2 => ?_) (fun h2 => ?_)
    ·
      refine z_iconst (v := 0) dX9_layPieces_256 zciconst_0 ?_
      refine z_sub [1, 2, 3, 4, 5, 6, 7, 0] rfl ?_
      exact ((kk.2.2.1 h1).1 h2)
    ·
      refine z_iconst (v := 1) dX9_layPieces_252 zciconst_1 ?_
      refine z_goto (tgt := 257) dX9_layPieces_253 (by decide) ?_
      refine z_sub [1, 2, 3, 4, 5, 6, 7, 0] rfl ?_
      exact ((kk.2.2.1 h1).2 h2)
  ·
    refine z_iconst (v := (-1)) dX9_layPieces_239 zciconst_m1 ?_
    refine z_goto (tgt := 257) dX9_layPieces_240 (by decide) ?_
    refine z_sub [1, 2, 3, 4, 5, 6, 7, 0] rfl ?_
    exact (kk.2.2.2 h1)
theorem bX9_layPieces_257 (x1 : Int32) (x2 : Int32) (x3 : Int32) (x4 : Int32) (x5 : Int32) (x6 : Int32) (x7 : Int32) (s0 : Int32) (s1 : Int32) (mem : zm_Mem) (post : zm_Post) (kk : zm_Call gX9_rest [.int x6, .int (mem 21 2)] mem (fun r1 w1 u1 => zm_Call gX9_rest [.int x5, .int (u1 21 1)] u1 (fun r2 w2 u2 => (vp_in ((r1 * (u1 21 1)) + r2) 36 ∧ (vp_in x1 36 ∧ ((¬ (u2 22 (Int32.toNatClampNeg ((r1 * (u1 21 1)) + r2))) = (u2 22 (Int32.toNatClampNeg x1)) → zm_Z gX9_layPieces post 357 [(0, .ref 21), (1, .int x1), (2, .int x2), (3, .int x3), (4, .int x4), (7, .int x7), (8, .int (s1 + s0)), (9, .int ((r1 * (u1 21 1)) + r2))] [] u2) ∧ ((u2 22 (Int32.toNatClampNeg ((r1 * (u1 21 1)) + r2))) = (u2 22 (Int32.toNatClampNeg x1)) → (vp_in ((r1 * (u1 21 1)) + r2) 36 ∧ ((¬ (u2 32 (Int32.toNatClampNeg ((r1 * (u1 21 1)) + r2))) = (-9) → zm_Z gX9_layPieces post 357 [(0, .ref 21), (1, .int x1), (2, .int x2), (3, .int x3), (4, .int x4), (7, .int x7), (8, .int (s1 + s0)), (9, .int ((r1 * (u1 21 1)) + r2))] [] u2) ∧ ((u2 32 (Int32.toNatClampNeg ((r1 * (u1 21 1)) + r2))) = (-9) → (vp_in ((r1 * (u1 21 1)) + r2) 36 ∧ (vp_in ((r1 * (u1 21 1)) + r2) 36 ∧ (vp_in ((r1 * (u1 21 1)) + r2) 36 ∧ (vp_in x2 36 ∧ zm_Z gX9_layPieces post 111 [(0, .ref 21), (1, .int x1), (2, .int (x2 + 1)), (3, .int x3), (4, .int (x4 + 1))] [] (zm_st (zm_st (zm_st (zm_st u2 32 (Int32.toNatClampNeg ((r1 * (u1 21 1)) + r2)) (u2 21 20)) 33 (Int32.toNatClampNeg ((r1 * (u1 21 1)) + r2)) x7) 34 (Int32.toNatClampNeg ((r1 * (u1 21 1)) + r2)) (s1 + s0)) 36 (Int32.toNatClampNeg x2) ((r1 * (u1 21 1)) + r2)))))))))))))))) : zm_Z gX9_layPieces post 257 [(0, .ref 21), (1, .int x1), (2, .int x2), (3, .int x3), (4, .int x4), (5, .int x5), (6, .int x6), (7, .int x7)] [.int s0, .int s1] mem := by
  refine z_iadd dX9_layPieces_257 ?_
  refine z_istore (lv' := [(8, .int (s1 + s0)), (0, .ref 21), (1, .int x1), (2, .int x2), (3, .int x3), (4, .int x4), (5, .int x5), (6, .int x6), (7, .int x7)]) dX9_layPieces_258 (by decide) rfl ?_
  refine z_iload dX9_layPieces_260 7 rfl ?_
  refine z_aload_n dX9_layPieces_262 rfl 1 rfl ?_
  refine z_geti (ci := 9) (j := 2) (T := TX9) rfl rfl hX9 rfl (by decide) fkX9_13 dX9_layPieces_263 ?_
  refine z_callSi (g' := gX9_rest) (st := []) [.int x6, .int (mem 21 2)] ⟨lkX9_88, pdX9_rest, by decide, by decide⟩ ⟨_, rfl, by decide⟩ rfl (Nat.le_of_ble_eq_true rfl) dX9_layPieces_266 (zm_Call.mono kk (fun r1 w1 u1 k1 => ?_))
  refine z_aload_n dX9_layPieces_269 rfl 1 rfl ?_
  refine z_geti (ci := 9) (j := 1) (T := TX9) rfl rfl hX9 rfl (by decide) fkX9_7 dX9_layPieces_270 ?_
  refine z_imul dX9_layPieces_273 ?_
  refine z_iload dX9_layPieces_274 6 rfl ?_
  refine z_aload_n dX9_layPieces_276 rfl 1 rfl ?_
  refine z_geti (ci := 9) (j := 1) (T := TX9) rfl rfl hX9 rfl (by decide) fkX9_7 dX9_layPieces_277 ?_
  refine z_callSi (g' := gX9_rest) (st := [.int (r1 * (u1 21 1))]) [.int x5, .int (u1 21 1)] ⟨lkX9_88, pdX9_rest, by decide, by decide⟩ ⟨_, rfl, by decide⟩ rfl (Nat.le_of_ble_eq_true rfl) dX9_layPieces_280 (zm_Call.mono k1 (fun r2 w2 u2 k2 => ?_))
  refine z_iadd dX9_layPieces_283 ?_
  refine z_istore (lv' := [(9, .int ((r1 * (u1 21 1)) + r2)), (8, .int (s1 + s0)), (0, .ref 21), (1, .int x1), (2, .int x2), (3, .int x3), (4, .int x4), (5, .int x5), (6, .int x6), (7, .int x7)]) dX9_layPieces_284 (by decide) rfl ?_
  refine z_aload_n dX9_layPieces_286 rfl 2 rfl ?_
  refine z_getr (ci := 9) (j := 4) (r := 22) (T := TX9) rfl rfl hX9 rfl (by decide) fkX9_19 dX9_layPieces_287 ?_
  refine z_iload dX9_layPieces_290 0 rfl ?_
  refine z_iald (n := 36) rfl k2.1 dX9_layPieces_292 ?_
  refine z_aload_n dX9_layPieces_293 rfl 2 rfl ?_
  refine z_getr (ci := 9) (j := 4) (r := 22) (T := TX9) rfl rfl hX9 rfl (by decide) fkX9_19 dX9_layPieces_294 ?_
  refine z_iload_n dX9_layPieces_297 rfl 3 rfl ?_
  refine z_iald (n := 36) rfl k2.2.1 dX9_layPieces_298 ?_
  refine z_icmp_ne (tgt := 357) dX9_layPieces_299 (by decide) (fun h3 => ?_) (fun h3 => ?_)
  ·
    refine z_sub [2, 3, 4, 5, 6, 9, 1, 0] rfl ?_
    exact (k2.2.2.1 h3)
  ·
    refine z_aload_n dX9_layPieces_302 rfl 2 rfl ?_
    refine z_getr (ci := 9) (j := 15) (r := 32) (T := TX9) rfl rfl hX9 rfl (by decide) fkX9_51 dX9_layPieces_303 ?_
    refine z_iload dX9_layPieces_306 0 rfl ?_
    refine z_iald (n := 36) rfl (k2.2.2.2 h3).1 dX9_layPieces_308 ?_
    refine z_bipush (v := (-9)) dX9_layPieces_309 zcbipush_m9 ?_
    refine z_icmp_ne (tgt := 357) dX9_layPieces_311 (by decide) (fun h4 => ?_) (fun h4 => ?_)
    ·
      refine z_sub [2, 3, 4, 5, 6, 9, 1, 0] rfl ?_
      exact ((k2.2.2.2 h3).2.1 h4)
    ·
      refine z_aload_n dX9_layPieces_314 rfl 2 rfl ?_
      refine z_getr (ci := 9) (j := 15) (r := 32) (T := TX9) rfl rfl hX9 rfl (by decide) fkX9_51 dX9_layPieces_315 ?_
      refine z_iload dX9_layPieces_318 0 rfl ?_
      refine z_aload_n dX9_layPieces_320 rfl 2 rfl ?_
      refine z_geti (ci := 9) (j := 20) (T := TX9) rfl rfl hX9 rfl (by decide) fkX9_182 dX9_layPieces_321 ?_
      refine z_iast (n := 36) rfl ((k2.2.2.2 h3).2.2 h4).1 dX9_layPieces_324 ?_
      refine z_aload_n dX9_layPieces_325 rfl 2 rfl ?_
      refine z_getr (ci := 9) (j := 16) (r := 33) (T := TX9) rfl rfl hX9 rfl (by decide) fkX9_54 dX9_layPieces_326 ?_
      refine z_iload dX9_layPieces_329 0 rfl ?_
      refine z_iload dX9_layPieces_331 9 rfl ?_
      refine z_iast (n := 36) rfl ((k2.2.2.2 h3).2.2 h4).2.1 dX9_layPieces_333 ?_
      refine z_aload_n dX9_layPieces_334 rfl 2 rfl ?_
      refine z_getr (ci := 9) (j := 17) (r := 34) (T := TX9) rfl rfl hX9 rfl (by decide) fkX9_57 dX9_layPieces_335 ?_
      refine z_iload dX9_layPieces_338 0 rfl ?_
      refine z_iload dX9_layPieces_340 1 rfl ?_
      refine z_iast (n := 36) rfl ((k2.2.2.2 h3).2.2 h4).2.2.1 dX9_layPieces_342 ?_
      refine z_aload_n dX9_layPieces_343 rfl 2 rfl ?_
      refine z_getr (ci := 9) (j := 19) (r := 36) (T := TX9) rfl rfl hX9 rfl (by decide) fkX9_63 dX9_layPieces_344 ?_
      refine z_iload_n dX9_layPieces_347 rfl 4 rfl ?_
      refine z_iload dX9_layPieces_348 0 rfl ?_
      refine z_iast (n := 36) rfl ((k2.2.2.2 h3).2.2 h4).2.2.2.1 dX9_layPieces_350 ?_
      refine z_iinc (v := x2 + 1) (lv' := [(2, .int (x2 + 1)), (9, .int ((r1 * (u1 21 1)) + r2)), (8, .int (s1 + s0)), (0, .ref 21), (1, .int x1), (3, .int x3), (4, .int x4), (5, .int x5), (6, .int x6), (7, .int x7)]) dX9_layPieces_351 4 rfl (by rw [zciconst_1]) (by decide) rfl ?_
      refine z_goto (tgt := 407) dX9_layPieces_354 (by decide) ?_
      refine z_iinc (v := x4 + 1) (lv' := [(4, .int (x4 + 1)), (2, .int (x2 + 1)), (9, .int ((r1 * (u1 21 1)) + r2)), (8, .int (s1 + s0)), (0, .ref 21), (1, .int x1), (3, .int x3), (5, .int x5), (6, .int x6), (7, .int x7)]) dX9_layPieces_407 6 rfl (by rw [zciconst_1]) (by decide) rfl ?_
      refine z_goto (tgt := 111) dX9_layPieces_410 (by decide) ?_
      refine z_sub [4, 5, 1, 6, 0] rfl ?_
      exact ((k2.2.2.2 h3).2.2 h4).2.2.2.2
theorem bX9_layPieces_357 (x1 : Int32) (x2 : Int32) (x3 : Int32) (x4 : Int32) (x7 : Int32) (x8 : Int32) (x9 : Int32) (mem : zm_Mem) (post : zm_Post) (kk : (vp_in x9 36 ∧ (vp_in x1 36 ∧ ((¬ (mem 22 (Int32.toNatClampNeg x9)) = (mem 22 (Int32.toNatClampNeg x1)) → zm_Z gX9_layPieces post 111 [(0, .ref 21), (1, .int x1), (2, .int x2), (3, .int x3), (4, .int (x4 + 1))] [] mem) ∧ ((mem 22 (Int32.toNatClampNeg x9)) = (mem 22 (Int32.toNatClampNeg x1)) → (vp_in x9 36 ∧ ((¬ (mem 33 (Int32.toNatClampNeg x9)) = x7 → zm_Z gX9_layPieces post 397 [(0, .ref 21), (1, .int x1), (2, .int x2), (3, .int x3), (4, .int x4)] [] mem) ∧ ((mem 33 (Int32.toNatClampNeg x9)) = x7 → (vp_in x9 36 ∧ (((mem 34 (Int32.toNatClampNeg x9)) = x8 → zm_Z gX9_layPieces post 111 [(0, .ref 21), (1, .int x1), (2, .int x2), (3, .int x3), (4, .int (x4 + 1))] [] mem) ∧ (¬ (mem 34 (Int32.toNatClampNeg x9)) = x8 → zm_Z gX9_layPieces post 397 [(0, .ref 21), (1, .int x1), (2, .int x2), (3, .int x3), (4, .int x4)] [] mem))))))))))) : zm_Z gX9_layPieces post 357 [(0, .ref 21), (1, .int x1), (2, .int x2), (3, .int x3), (4, .int x4), (7, .int x7), (8, .int x8), (9, .int x9)] [] mem := by
  refine z_aload_n dX9_layPieces_357 rfl 0 rfl ?_
  refine z_getr (ci := 9) (j := 4) (r := 22) (T := TX9) rfl rfl hX9 rfl (by decide) fkX9_19 dX9_layPieces_358 ?_
  refine z_iload dX9_layPieces_361 7 rfl ?_
  refine z_iald (n := 36) rfl kk.1 dX9_layPieces_363 ?_
  refine z_aload_n dX9_layPieces_364 rfl 0 rfl ?_
  refine z_getr (ci := 9) (j := 4) (r := 22) (T := TX9) rfl rfl hX9 rfl (by decide) fkX9_19 dX9_layPieces_365 ?_
  refine z_iload_n dX9_layPieces_368 rfl 1 rfl ?_
  refine z_iald (n := 36) rfl kk.2.1 dX9_layPieces_369 ?_
  refine z_icmp_ne (tgt := 407) dX9_layPieces_370 (by decide) (fun h1 => ?_) (fun h1 => ?_)
  ·
    refine z_iinc (v := x4 + 1) (lv' := [(4, .int (x4 + 1)), (0, .ref 21), (1, .int x1), (2, .int x2), (3, .int x3), (7, .int x7), (8, .int x8), (9, .int x9)]) dX9_layPieces_407 4 rfl (by rw [zciconst_1]) (by decide) rfl ?_
    refine z_goto (tgt := 111) dX9_layPieces_410 (by decide) ?_
    refine z_sub [1, 2, 3, 4, 0] rfl ?_
    exact (kk.2.2.1 h1)
  ·
    refine z_aload_n dX9_layPieces_373 rfl 0 rfl ?_
    refine z_getr (ci := 9) (j := 16) (r := 33) (T := TX9) rfl rfl hX9 rfl (by decide) fkX9_54 dX9_layPieces_374 ?_
    refine z_iload dX9_layPieces_377 7 rfl ?_
    refine z_iald (n := 36) rfl (kk.2.2.2 h1).1 dX9_layPieces_379 ?_
    refine z_iload dX9_layPieces_380 5 rfl ?_
    refine z_icmp_ne (tgt := 397) dX9_layPieces_382 (by decide) (fun h2 => ?_) (fun h2 => ?_)
    ·
      refine z_sub [0, 1, 2, 3, 4] rfl ?_
      exact ((kk.2.2.2 h1).2.1 h2)
    ·
      refine z_aload_n dX9_layPieces_385 rfl 0 rfl ?_
      refine z_getr (ci := 9) (j := 17) (r := 34) (T := TX9) rfl rfl hX9 rfl (by decide) fkX9_57 dX9_layPieces_386 ?_
      refine z_iload dX9_layPieces_389 7 rfl ?_
      refine z_iald (n := 36) rfl ((kk.2.2.2 h1).2.2 h2).1 dX9_layPieces_391 ?_
      refine z_iload dX9_layPieces_392 6 rfl ?_
      refine z_icmp_eq (tgt := 407) dX9_layPieces_394 (by decide) (fun h3 => ?_) (fun h3 => ?_)
      ·
        refine z_iinc (v := x4 + 1) (lv' := [(4, .int (x4 + 1)), (0, .ref 21), (1, .int x1), (2, .int x2), (3, .int x3), (7, .int x7), (8, .int x8), (9, .int x9)]) dX9_layPieces_407 4 rfl (by rw [zciconst_1]) (by decide) rfl ?_
        refine z_goto (tgt := 111) dX9_layPieces_410 (by decide) ?_
        refine z_sub [1, 2, 3, 4, 0] rfl ?_
        exact (((kk.2.2.2 h1).2.2 h2).2.1 h3)
      ·
        refine z_sub [0, 1, 2, 3, 4] rfl ?_
        exact (((kk.2.2.2 h1).2.2 h2).2.2 h3)
theorem bX9_layPieces_397 (x1 : Int32) (x2 : Int32) (x3 : Int32) (x4 : Int32) (mem : zm_Mem) (post : zm_Post) (kk : (vp_in (mem 21 20) 36 ∧ zm_Z gX9_layPieces post 111 [(0, .ref 21), (1, .int x1), (2, .int x2), (3, .int x3), (4, .int (x4 + 1))] [] (zm_st mem 35 (Int32.toNatClampNeg (mem 21 20)) 1))) : zm_Z gX9_layPieces post 397 [(0, .ref 21), (1, .int x1), (2, .int x2), (3, .int x3), (4, .int x4)] [] mem := by
  refine z_aload_n dX9_layPieces_397 rfl 0 rfl ?_
  refine z_getr (ci := 9) (j := 18) (r := 35) (T := TX9) rfl rfl hX9 rfl (by decide) fkX9_60 dX9_layPieces_398 ?_
  refine z_aload_n dX9_layPieces_401 rfl 0 rfl ?_
  refine z_geti (ci := 9) (j := 20) (T := TX9) rfl rfl hX9 rfl (by decide) fkX9_182 dX9_layPieces_402 ?_
  refine z_iconst (v := 1) dX9_layPieces_405 zciconst_1 ?_
  refine z_bast (n := 36) rfl kk.1 (by decide) dX9_layPieces_406 ?_
  refine z_iinc (v := x4 + 1) (lv' := [(4, .int (x4 + 1)), (0, .ref 21), (1, .int x1), (2, .int x2), (3, .int x3)]) dX9_layPieces_407 4 rfl (by rw [zciconst_1]) (by decide) rfl ?_
  refine z_goto (tgt := 111) dX9_layPieces_410 (by decide) ?_
  refine z_sub [1, 2, 3, 4, 0] rfl ?_
  exact kk.2
theorem dX9_pieces_0 : decode cX9_pieces 0 = .ok (.aload_n 0, 1) := by decide +kernel
theorem dX9_pieces_1 : decode cX9_pieces 1 = .ok (.iconst 0, 1) := by decide +kernel
theorem dX9_pieces_2 : decode cX9_pieces 2 = .ok (.putfield 69, 3) := by decide +kernel
theorem dX9_pieces_5 : decode cX9_pieces 5 = .ok (.aload_n 0, 1) := by decide +kernel
theorem dX9_pieces_6 : decode cX9_pieces 6 = .ok (.invokevirtual 185, 3) := by decide +kernel
theorem dX9_pieces_9 : decode cX9_pieces 9 = .ok (.iconst 0, 1) := by decide +kernel
theorem dX9_pieces_10 : decode cX9_pieces 10 = .ok (.istore_n 2, 1) := by decide +kernel
theorem dX9_pieces_11 : decode cX9_pieces 11 = .ok (.iconst 0, 1) := by decide +kernel
theorem dX9_pieces_12 : decode cX9_pieces 12 = .ok (.istore_n 3, 1) := by decide +kernel
theorem dX9_pieces_13 : decode cX9_pieces 13 = .ok (.iload_n 3, 1) := by decide +kernel
theorem dX9_pieces_14 : decode cX9_pieces 14 = .ok (.aload_n 0, 1) := by decide +kernel
theorem dX9_pieces_15 : decode cX9_pieces 15 = .ok (.getfield 182, 3) := by decide +kernel
theorem dX9_pieces_18 : decode cX9_pieces 18 = .ok (.if_icmp .ge 26, 3) := by decide +kernel
theorem dX9_pieces_21 : decode cX9_pieces 21 = .ok (.iload_n 2, 1) := by decide +kernel
theorem dX9_pieces_22 : decode cX9_pieces 22 = .ok (.aload_n 0, 1) := by decide +kernel
theorem dX9_pieces_23 : decode cX9_pieces 23 = .ok (.getfield 60, 3) := by decide +kernel
theorem dX9_pieces_26 : decode cX9_pieces 26 = .ok (.iload_n 3, 1) := by decide +kernel
theorem dX9_pieces_27 : decode cX9_pieces 27 = .ok (.baload, 1) := by decide +kernel
theorem dX9_pieces_28 : decode cX9_pieces 28 = .ok (.ifCond .eq 7, 3) := by decide +kernel
theorem dX9_pieces_31 : decode cX9_pieces 31 = .ok (.iconst 1, 1) := by decide +kernel
theorem dX9_pieces_32 : decode cX9_pieces 32 = .ok (.goto 4, 3) := by decide +kernel
theorem dX9_pieces_35 : decode cX9_pieces 35 = .ok (.iconst 0, 1) := by decide +kernel
theorem dX9_pieces_36 : decode cX9_pieces 36 = .ok (.iadd, 1) := by decide +kernel
theorem dX9_pieces_37 : decode cX9_pieces 37 = .ok (.istore_n 2, 1) := by decide +kernel
theorem dX9_pieces_38 : decode cX9_pieces 38 = .ok (.iinc 3 1, 3) := by decide +kernel
theorem dX9_pieces_41 : decode cX9_pieces 41 = .ok (.goto (-28), 3) := by decide +kernel
theorem dX9_pieces_44 : decode cX9_pieces 44 = .ok (.iload_n 1, 1) := by decide +kernel
theorem dX9_pieces_45 : decode cX9_pieces 45 = .ok (.ifCond .eq 7, 3) := by decide +kernel
theorem dX9_pieces_48 : decode cX9_pieces 48 = .ok (.iload_n 2, 1) := by decide +kernel
theorem dX9_pieces_49 : decode cX9_pieces 49 = .ok (.goto 7, 3) := by decide +kernel
theorem dX9_pieces_52 : decode cX9_pieces 52 = .ok (.aload_n 0, 1) := by decide +kernel
theorem dX9_pieces_53 : decode cX9_pieces 53 = .ok (.getfield 182, 3) := by decide +kernel
theorem dX9_pieces_56 : decode cX9_pieces 56 = .ok (.ireturn, 1) := by decide +kernel
theorem bX9_pieces_0 (x1 : Int32) (mem : zm_Mem) (post : zm_Post) (kk : zm_Call gX9_layPieces [.ref 21] (zm_st mem 21 0 0) (fun r1 w1 u1 => zm_Z gX9_pieces post 13 [(0, .ref 21), (1, .int x1), (2, .int 0), (3, .int 0)] [] u1)) : zm_Call gX9_pieces [.ref 21, .int x1] mem post := by
  refine z_entry (by decide) (Nat.le_of_ble_eq_true rfl) ?_
  show zm_Z gX9_pieces post 0 [(0, .ref 21), (1, .int x1)] [] mem
  refine z_aload_n dX9_pieces_0 rfl 0 rfl ?_
  refine z_iconst (v := 0) dX9_pieces_1 zciconst_0 ?_
  refine z_put (ci := 9) (j := 0) (T := TX9) (ty0 := tyX9) rfl rfl hX9 tyX9_ok nmX9 rfl (by decide) fkX9_69 rfl rfl rfl dX9_pieces_2 ?_
  refine z_aload_n dX9_pieces_5 rfl 0 rfl ?_
  refine z_callVv (g' := gX9_layPieces) [] (q := 21) (ci := 9) (T := TX9) rfl rfl ⟨lkX9_185, pdX9_layPieces, by decide, by decide⟩ rfl rfl (Nat.le_of_ble_eq_true rfl) dX9_pieces_6 (zm_Call.mono kk (fun r1 w1 u1 k1 => ?_))
  refine z_iconst (v := 0) dX9_pieces_9 zciconst_0 ?_
  refine z_istore_n (lv' := [(2, .int 0), (0, .ref 21), (1, .int x1)]) dX9_pieces_10 rfl (by decide) rfl ?_
  refine z_iconst (v := 0) dX9_pieces_11 zciconst_0 ?_
  refine z_istore_n (lv' := [(3, .int 0), (2, .int 0), (0, .ref 21), (1, .int x1)]) dX9_pieces_12 rfl (by decide) rfl ?_
  refine z_sub [2, 3, 1, 0] rfl ?_
  exact k1
theorem bX9_pieces_13 (x1 : Int32) (x2 : Int32) (x3 : Int32) (mem : zm_Mem) (post : zm_Post) (kk : (((mem 21 20) ≤ x3 → ((x1 = 0 → post (mem 21 20) 0 mem) ∧ (¬ x1 = 0 → post x2 0 mem))) ∧ (¬ (mem 21 20) ≤ x3 → (vp_in x3 36 ∧ (((mem 35 (Int32.toNatClampNeg x3)) = 0 → zm_Z gX9_pieces post 13 [(0, .ref 21), (1, .int x1), (2, .int (x2 + 0)), (3, .int (x3 + 1))] [] mem) ∧ (¬ (mem 35 (Int32.toNatClampNeg x3)) = 0 → zm_Z gX9_pieces post 13 [(0, .ref 21), (1, .int x1), (2, .int (x2 + 1)), (3, .int (x3 + 1))] [] mem)))))) : zm_Z gX9_pieces post 13 [(0, .ref 21), (1, .int x1), (2, .int x2), (3, .int x3)] [] mem := by
  refine z_iload_n dX9_pieces_13 rfl 3 rfl ?_
  refine z_aload_n dX9_pieces_14 rfl 0 rfl ?_
  refine z_geti (ci := 9) (j := 20) (T := TX9) rfl rfl hX9 rfl (by decide) fkX9_182 dX9_pieces_15 ?_
  refine z_icmp_ge (tgt := 44) dX9_pieces_18 (by decide) (fun h1 => ?_) (fun h1 => ?_)
  ·
    refine z_iload_n dX9_pieces_44 rfl 1 rfl ?_
    refine z_if_eq (tgt := 52) dX9_pieces_45 (by decide) (fun h2 => ?_) (fun h2 => ?_)
    ·
      refine z_aload_n dX9_pieces_52 rfl 0 rfl ?_
      refine z_geti (ci := 9) (j := 20) (T := TX9) rfl rfl hX9 rfl (by decide) fkX9_182 dX9_pieces_53 ?_
      exact z_iret rfl dX9_pieces_56 ((kk.1 h1).1 h2)
    ·
      refine z_iload_n dX9_pieces_48 rfl 2 rfl ?_
      refine z_goto (tgt := 56) dX9_pieces_49 (by decide) ?_
      exact z_iret rfl dX9_pieces_56 ((kk.1 h1).2 h2)
  ·
    refine z_iload_n dX9_pieces_21 rfl 2 rfl ?_
    refine z_aload_n dX9_pieces_22 rfl 0 rfl ?_
    refine z_getr (ci := 9) (j := 18) (r := 35) (T := TX9) rfl rfl hX9 rfl (by decide) fkX9_60 dX9_pieces_23 ?_
    refine z_iload_n dX9_pieces_26 rfl 3 rfl ?_
    refine z_bald (n := 36) rfl (kk.2 h1).1 dX9_pieces_27 ?_
    refine z_if_eq (tgt := 35) dX9_pieces_28 (by decide) (fun h3 => ?_) (fun h3 => ?_)
    ·
      refine z_iconst (v := 0) dX9_pieces_35 zciconst_0 ?_
      refine z_iadd dX9_pieces_36 ?_
      refine z_istore_n (lv' := [(2, .int (x2 + 0)), (0, .ref 21), (1, .int x1), (3, .int x3)]) dX9_pieces_37 rfl (by decide) rfl ?_
      refine z_iinc (v := x3 + 1) (lv' := [(3, .int (x3 + 1)), (2, .int (x2 + 0)), (0, .ref 21), (1, .int x1)]) dX9_pieces_38 3 rfl (by rw [zciconst_1]) (by decide) rfl ?_
      refine z_goto (tgt := 13) dX9_pieces_41 (by decide) ?_
      refine z_sub [2, 3, 1, 0] rfl ?_
      exact ((kk.2 h1).2.1 h3)
    ·
      refine z_iconst (v := 1) dX9_pieces_31 zciconst_1 ?_
      refine z_goto (tgt := 36) dX9_pieces_32 (by decide) ?_
      refine z_iadd dX9_pieces_36 ?_
      refine z_istore_n (lv' := [(2, .int (x2 + 1)), (0, .ref 21), (1, .int x1), (3, .int x3)]) dX9_pieces_37 rfl (by decide) rfl ?_
      refine z_iinc (v := x3 + 1) (lv' := [(3, .int (x3 + 1)), (2, .int (x2 + 1)), (0, .ref 21), (1, .int x1)]) dX9_pieces_38 3 rfl (by rw [zciconst_1]) (by decide) rfl ?_
      refine z_goto (tgt := 13) dX9_pieces_41 (by decide) ?_
      refine z_sub [2, 3, 1, 0] rfl ?_
      exact ((kk.2 h1).2.2 h3)
theorem dX9_piece_0 : decode cX9_piece 0 = .ok (.aload_n 0, 1) := by decide +kernel
theorem dX9_piece_1 : decode cX9_piece 1 = .ok (.iconst 0, 1) := by decide +kernel
theorem dX9_piece_2 : decode cX9_piece 2 = .ok (.putfield 69, 3) := by decide +kernel
theorem dX9_piece_5 : decode cX9_piece 5 = .ok (.aload_n 0, 1) := by decide +kernel
theorem dX9_piece_6 : decode cX9_piece 6 = .ok (.iload_n 1, 1) := by decide +kernel
theorem dX9_piece_7 : decode cX9_piece 7 = .ok (.invokevirtual 102, 3) := by decide +kernel
theorem dX9_piece_10 : decode cX9_piece 10 = .ok (.ifCond .eq 5, 3) := by decide +kernel
theorem dX9_piece_13 : decode cX9_piece 13 = .ok (.iconst (-1), 1) := by decide +kernel
theorem dX9_piece_14 : decode cX9_piece 14 = .ok (.ireturn, 1) := by decide +kernel
theorem dX9_piece_15 : decode cX9_piece 15 = .ok (.aload_n 0, 1) := by decide +kernel
theorem dX9_piece_16 : decode cX9_piece 16 = .ok (.getfield 19, 3) := by decide +kernel
theorem dX9_piece_19 : decode cX9_piece 19 = .ok (.iload_n 1, 1) := by decide +kernel
theorem dX9_piece_20 : decode cX9_piece 20 = .ok (.iaload, 1) := by decide +kernel
theorem dX9_piece_21 : decode cX9_piece 21 = .ok (.bipush 9, 2) := by decide +kernel
theorem dX9_piece_23 : decode cX9_piece 23 = .ok (.if_icmp .ne 6, 3) := by decide +kernel
theorem dX9_piece_26 : decode cX9_piece 26 = .ok (.bipush (-3), 2) := by decide +kernel
theorem dX9_piece_28 : decode cX9_piece 28 = .ok (.ireturn, 1) := by decide +kernel
theorem dX9_piece_29 : decode cX9_piece 29 = .ok (.aload_n 0, 1) := by decide +kernel
theorem dX9_piece_30 : decode cX9_piece 30 = .ok (.invokevirtual 185, 3) := by decide +kernel
theorem dX9_piece_33 : decode cX9_piece 33 = .ok (.iconst 0, 1) := by decide +kernel
theorem dX9_piece_34 : decode cX9_piece 34 = .ok (.istore_n 2, 1) := by decide +kernel
theorem dX9_piece_35 : decode cX9_piece 35 = .ok (.iconst 0, 1) := by decide +kernel
theorem dX9_piece_36 : decode cX9_piece 36 = .ok (.istore_n 3, 1) := by decide +kernel
theorem dX9_piece_37 : decode cX9_piece 37 = .ok (.iload_n 3, 1) := by decide +kernel
theorem dX9_piece_38 : decode cX9_piece 38 = .ok (.aload_n 0, 1) := by decide +kernel
theorem dX9_piece_39 : decode cX9_piece 39 = .ok (.invokevirtual 72, 3) := by decide +kernel
theorem dX9_piece_42 : decode cX9_piece 42 = .ok (.if_icmp .ge 32, 3) := by decide +kernel
theorem dX9_piece_45 : decode cX9_piece 45 = .ok (.iload_n 2, 1) := by decide +kernel
theorem dX9_piece_46 : decode cX9_piece 46 = .ok (.aload_n 0, 1) := by decide +kernel
theorem dX9_piece_47 : decode cX9_piece 47 = .ok (.getfield 51, 3) := by decide +kernel
theorem dX9_piece_50 : decode cX9_piece 50 = .ok (.iload_n 3, 1) := by decide +kernel
theorem dX9_piece_51 : decode cX9_piece 51 = .ok (.iaload, 1) := by decide +kernel
theorem dX9_piece_52 : decode cX9_piece 52 = .ok (.aload_n 0, 1) := by decide +kernel
theorem dX9_piece_53 : decode cX9_piece 53 = .ok (.getfield 51, 3) := by decide +kernel
theorem dX9_piece_56 : decode cX9_piece 56 = .ok (.iload_n 1, 1) := by decide +kernel
theorem dX9_piece_57 : decode cX9_piece 57 = .ok (.iaload, 1) := by decide +kernel
theorem dX9_piece_58 : decode cX9_piece 58 = .ok (.if_icmp .ne 7, 3) := by decide +kernel
theorem dX9_piece_61 : decode cX9_piece 61 = .ok (.iconst 1, 1) := by decide +kernel
theorem dX9_piece_62 : decode cX9_piece 62 = .ok (.goto 4, 3) := by decide +kernel
theorem dX9_piece_65 : decode cX9_piece 65 = .ok (.iconst 0, 1) := by decide +kernel
theorem dX9_piece_66 : decode cX9_piece 66 = .ok (.iadd, 1) := by decide +kernel
theorem dX9_piece_67 : decode cX9_piece 67 = .ok (.istore_n 2, 1) := by decide +kernel
theorem dX9_piece_68 : decode cX9_piece 68 = .ok (.iinc 3 1, 3) := by decide +kernel
theorem dX9_piece_71 : decode cX9_piece 71 = .ok (.goto (-34), 3) := by decide +kernel
theorem dX9_piece_74 : decode cX9_piece 74 = .ok (.iload_n 2, 1) := by decide +kernel
theorem dX9_piece_75 : decode cX9_piece 75 = .ok (.ireturn, 1) := by decide +kernel
theorem bX9_piece_0 (x1 : Int32) (mem : zm_Mem) (post : zm_Post) (kk : zm_Call gX9_noCell [.ref 21, .int x1] (zm_st mem 21 0 0) (fun r1 w1 u1 => ((r1 = 0 → (vp_in x1 36 ∧ ((¬ (u1 22 (Int32.toNatClampNeg x1)) = 9 → zm_Call gX9_layPieces [.ref 21] u1 (fun r4 w4 u4 => zm_Z gX9_piece post 37 [(0, .ref 21), (1, .int x1), (2, .int 0), (3, .int 0)] [] u4)) ∧ ((u1 22 (Int32.toNatClampNeg x1)) = 9 → post (-3) 0 u1)))) ∧ (¬ r1 = 0 → post (-1) 0 u1)))) : zm_Call gX9_piece [.ref 21, .int x1] mem post := by
  refine z_entry (by decide) (Nat.le_of_ble_eq_true rfl) ?_
  show zm_Z gX9_piece post 0 [(0, .ref 21), (1, .int x1)] [] mem
  refine z_aload_n dX9_piece_0 rfl 0 rfl ?_
  refine z_iconst (v := 0) dX9_piece_1 zciconst_0 ?_
  refine z_put (ci := 9) (j := 0) (T := TX9) (ty0 := tyX9) rfl rfl hX9 tyX9_ok nmX9 rfl (by decide) fkX9_69 rfl rfl rfl dX9_piece_2 ?_
  refine z_aload_n dX9_piece_5 rfl 0 rfl ?_
  refine z_iload_n dX9_piece_6 rfl 1 rfl ?_
  refine z_callVi (g' := gX9_noCell) [.int x1] (q := 21) (ci := 9) (T := TX9) rfl rfl ⟨lkX9_102, pdX9_noCell, by decide, by decide⟩ ⟨_, rfl, by decide⟩ rfl (Nat.le_of_ble_eq_true rfl) dX9_piece_7 (zm_Call.mono kk (fun r1 w1 u1 k1 => ?_))
  refine z_if_eq (tgt := 15) dX9_piece_10 (by decide) (fun h2 => ?_) (fun h2 => ?_)
  ·
    refine z_aload_n dX9_piece_15 rfl 0 rfl ?_
    refine z_getr (ci := 9) (j := 4) (r := 22) (T := TX9) rfl rfl hX9 rfl (by decide) fkX9_19 dX9_piece_16 ?_
    refine z_iload_n dX9_piece_19 rfl 1 rfl ?_
    refine z_iald (n := 36) rfl (k1.1 h2).1 dX9_piece_20 ?_
    refine z_bipush (v := 9) dX9_piece_21 zcbipush_9 ?_
    refine z_icmp_ne (tgt := 29) dX9_piece_23 (by decide) (fun h3 => ?_) (fun h3 => ?_)
    ·
      refine z_aload_n dX9_piece_29 rfl 0 rfl ?_
      refine z_callVv (g' := gX9_layPieces) [] (q := 21) (ci := 9) (T := TX9) rfl rfl ⟨lkX9_185, pdX9_layPieces, by decide, by decide⟩ rfl rfl (Nat.le_of_ble_eq_true rfl) dX9_piece_30 (zm_Call.mono ((k1.1 h2).2.1 h3) (fun r4 w4 u4 k4 => ?_))
      refine z_iconst (v := 0) dX9_piece_33 zciconst_0 ?_
      refine z_istore_n (lv' := [(2, .int 0), (0, .ref 21), (1, .int x1)]) dX9_piece_34 rfl (by decide) rfl ?_
      refine z_iconst (v := 0) dX9_piece_35 zciconst_0 ?_
      refine z_istore_n (lv' := [(3, .int 0), (2, .int 0), (0, .ref 21), (1, .int x1)]) dX9_piece_36 rfl (by decide) rfl ?_
      refine z_sub [2, 3, 1, 0] rfl ?_
      exact k4
    ·
      refine z_bipush (v := (-3)) dX9_piece_26 zcbipush_m3 ?_
      exact z_iret rfl dX9_piece_28 ((k1.1 h2).2.2 h3)
  ·
    refine z_iconst (v := (-1)) dX9_piece_13 zciconst_m1 ?_
    exact z_iret rfl dX9_piece_14 (k1.2 h2)
theorem bX9_piece_37 (x1 : Int32) (x2 : Int32) (x3 : Int32) (mem : zm_Mem) (post : zm_Post) (kk : zm_Call gX9_cells [.ref 21] mem (fun r1 w1 u1 => ((r1 ≤ x3 → post x2 0 u1) ∧ (¬ r1 ≤ x3 → (vp_in x3 36 ∧ (vp_in x1 36 ∧ ((¬ (u1 32 (Int32.toNatClampNeg x3)) = (u1 32 (Int32.toNatClampNeg x1)) → zm_Z gX9_piece post 37 [(0, .ref 21), (1, .int x1), (2, .int (x2 + 0)), (3, .int (x3 + 1))] [] u1) ∧ ((u1 32 (Int32.toNatClampNeg x3)) = (u1 32 (Int32.toNatClampNeg x1)) → zm_Z gX9_piece post 37 [(0, .ref 21), (1, .int x1), (2, .int (x2 + 1)), (3, .int (x3 + 1))] [] u1)))))))) : zm_Z gX9_piece post 37 [(0, .ref 21), (1, .int x1), (2, .int x2), (3, .int x3)] [] mem := by
  refine z_iload_n dX9_piece_37 rfl 3 rfl ?_
  refine z_aload_n dX9_piece_38 rfl 0 rfl ?_
  refine z_callVi (g' := gX9_cells) [] (q := 21) (ci := 9) (T := TX9) rfl rfl ⟨lkX9_72, pdX9_cells, by decide, by decide⟩ ⟨_, rfl, by decide⟩ rfl (Nat.le_of_ble_eq_true rfl) dX9_piece_39 (zm_Call.mono kk (fun r1 w1 u1 k1 => ?_))
  refine z_icmp_ge (tgt := 74) dX9_piece_42 (by decide) (fun h2 => ?_) (fun h2 => ?_)
  ·
    refine z_iload_n dX9_piece_74 rfl 2 rfl ?_
    exact z_iret rfl dX9_piece_75 (k1.1 h2)
  ·
    refine z_iload_n dX9_piece_45 rfl 2 rfl ?_
    refine z_aload_n dX9_piece_46 rfl 0 rfl ?_
    refine z_getr (ci := 9) (j := 15) (r := 32) (T := TX9) rfl rfl hX9 rfl (by decide) fkX9_51 dX9_piece_47 ?_
    refine z_iload_n dX9_piece_50 rfl 3 rfl ?_
    refine z_iald (n := 36) rfl (k1.2 h2).1 dX9_piece_51 ?_
    refine z_aload_n dX9_piece_52 rfl 0 rfl ?_
    refine z_getr (ci := 9) (j := 15) (r := 32) (T := TX9) rfl rfl hX9 rfl (by decide) fkX9_51 dX9_piece_53 ?_
    refine z_iload_n dX9_piece_56 rfl 1 rfl ?_
    refine z_iald (n := 36) rfl (k1.2 h2).2.1 dX9_piece_57 ?_
    refine z_icmp_ne (tgt := 65) dX9_piece_58 (by decide) (fun h3 => ?_) (fun h3 => ?_)
    ·
      refine z_iconst (v := 0) dX9_piece_65 zciconst_0 ?_
      refine z_iadd dX9_piece_66 ?_
      refine z_istore_n (lv' := [(2, .int (x2 + 0)), (0, .ref 21), (1, .int x1), (3, .int x3)]) dX9_piece_67 rfl (by decide) rfl ?_
      refine z_iinc (v := x3 + 1) (lv' := [(3, .int (x3 + 1)), (2, .int (x2 + 0)), (0, .ref 21), (1, .int x1)]) dX9_piece_68 3 rfl (by rw [zciconst_1]) (by decide) rfl ?_
      refine z_goto (tgt := 37) dX9_piece_71 (by decide) ?_
      refine z_sub [2, 3, 1, 0] rfl ?_
      exact ((k1.2 h2).2.2.1 h3)
    ·
      refine z_iconst (v := 1) dX9_piece_61 zciconst_1 ?_
      refine z_goto (tgt := 66) dX9_piece_62 (by decide) ?_
      refine z_iadd dX9_piece_66 ?_
      refine z_istore_n (lv' := [(2, .int (x2 + 1)), (0, .ref 21), (1, .int x1), (3, .int x3)]) dX9_piece_67 rfl (by decide) rfl ?_
      refine z_iinc (v := x3 + 1) (lv' := [(3, .int (x3 + 1)), (2, .int (x2 + 1)), (0, .ref 21), (1, .int x1)]) dX9_piece_68 3 rfl (by rw [zciconst_1]) (by decide) rfl ?_
      refine z_goto (tgt := 37) dX9_piece_71 (by decide) ?_
      refine z_sub [2, 3, 1, 0] rfl ?_
      exact ((k1.2 h2).2.2.2 h3)
theorem dX9_count_0 : decode cX9_count 0 = .ok (.aload_n 0, 1) := by decide +kernel
theorem dX9_count_1 : decode cX9_count 1 = .ok (.iconst 0, 1) := by decide +kernel
theorem dX9_count_2 : decode cX9_count 2 = .ok (.putfield 69, 3) := by decide +kernel
theorem dX9_count_5 : decode cX9_count 5 = .ok (.iconst 0, 1) := by decide +kernel
theorem dX9_count_6 : decode cX9_count 6 = .ok (.istore_n 2, 1) := by decide +kernel
theorem dX9_count_7 : decode cX9_count 7 = .ok (.iconst 0, 1) := by decide +kernel
theorem dX9_count_8 : decode cX9_count 8 = .ok (.istore_n 3, 1) := by decide +kernel
theorem dX9_count_9 : decode cX9_count 9 = .ok (.iconst 0, 1) := by decide +kernel
theorem dX9_count_10 : decode cX9_count 10 = .ok (.istore 4, 2) := by decide +kernel
theorem dX9_count_12 : decode cX9_count 12 = .ok (.iload 4, 2) := by decide +kernel
theorem dX9_count_14 : decode cX9_count 14 = .ok (.aload_n 0, 1) := by decide +kernel
theorem dX9_count_15 : decode cX9_count 15 = .ok (.invokevirtual 72, 3) := by decide +kernel
theorem dX9_count_18 : decode cX9_count 18 = .ok (.if_icmp .ge 57, 3) := by decide +kernel
theorem dX9_count_21 : decode cX9_count 21 = .ok (.iload_n 2, 1) := by decide +kernel
theorem dX9_count_22 : decode cX9_count 22 = .ok (.aload_n 0, 1) := by decide +kernel
theorem dX9_count_23 : decode cX9_count 23 = .ok (.getfield 19, 3) := by decide +kernel
theorem dX9_count_26 : decode cX9_count 26 = .ok (.iload 4, 2) := by decide +kernel
theorem dX9_count_28 : decode cX9_count 28 = .ok (.iaload, 1) := by decide +kernel
theorem dX9_count_29 : decode cX9_count 29 = .ok (.bipush 9, 2) := by decide +kernel
theorem dX9_count_31 : decode cX9_count 31 = .ok (.if_icmp .ne 7, 3) := by decide +kernel
theorem dX9_count_34 : decode cX9_count 34 = .ok (.iconst 1, 1) := by decide +kernel
theorem dX9_count_35 : decode cX9_count 35 = .ok (.goto 4, 3) := by decide +kernel
theorem dX9_count_38 : decode cX9_count 38 = .ok (.iconst 0, 1) := by decide +kernel
theorem dX9_count_39 : decode cX9_count 39 = .ok (.iadd, 1) := by decide +kernel
theorem dX9_count_40 : decode cX9_count 40 = .ok (.istore_n 2, 1) := by decide +kernel
theorem dX9_count_41 : decode cX9_count 41 = .ok (.iload_n 3, 1) := by decide +kernel
theorem dX9_count_42 : decode cX9_count 42 = .ok (.aload_n 0, 1) := by decide +kernel
theorem dX9_count_43 : decode cX9_count 43 = .ok (.getfield 19, 3) := by decide +kernel
theorem dX9_count_46 : decode cX9_count 46 = .ok (.iload 4, 2) := by decide +kernel
theorem dX9_count_48 : decode cX9_count 48 = .ok (.iaload, 1) := by decide +kernel
theorem dX9_count_49 : decode cX9_count 49 = .ok (.bipush 9, 2) := by decide +kernel
theorem dX9_count_51 : decode cX9_count 51 = .ok (.if_icmp .ne 7, 3) := by decide +kernel
theorem dX9_count_54 : decode cX9_count 54 = .ok (.iconst 0, 1) := by decide +kernel
theorem dX9_count_55 : decode cX9_count 55 = .ok (.goto 12, 3) := by decide +kernel
theorem dX9_count_58 : decode cX9_count 58 = .ok (.iconst 1, 1) := by decide +kernel
theorem dX9_count_59 : decode cX9_count 59 = .ok (.aload_n 0, 1) := by decide +kernel
theorem dX9_count_60 : decode cX9_count 60 = .ok (.getfield 19, 3) := by decide +kernel
theorem dX9_count_63 : decode cX9_count 63 = .ok (.iload 4, 2) := by decide +kernel
theorem dX9_count_65 : decode cX9_count 65 = .ok (.iaload, 1) := by decide +kernel
theorem dX9_count_66 : decode cX9_count 66 = .ok (.ishl, 1) := by decide +kernel
theorem dX9_count_67 : decode cX9_count 67 = .ok (.ior, 1) := by decide +kernel
theorem dX9_count_68 : decode cX9_count 68 = .ok (.istore_n 3, 1) := by decide +kernel
theorem dX9_count_69 : decode cX9_count 69 = .ok (.iinc 4 1, 3) := by decide +kernel
theorem dX9_count_72 : decode cX9_count 72 = .ok (.goto (-60), 3) := by decide +kernel
theorem dX9_count_75 : decode cX9_count 75 = .ok (.iload_n 1, 1) := by decide +kernel
theorem dX9_count_76 : decode cX9_count 76 = .ok (.tableswitch 73 0 4 #[36, 41, 46, 48, 53], 36) := by decide +kernel
theorem dX9_count_112 : decode cX9_count 112 = .ok (.aload_n 0, 1) := by decide +kernel
theorem dX9_count_113 : decode cX9_count 113 = .ok (.invokevirtual 72, 3) := by decide +kernel
theorem dX9_count_116 : decode cX9_count 116 = .ok (.ireturn, 1) := by decide +kernel
theorem dX9_count_117 : decode cX9_count 117 = .ok (.aload_n 0, 1) := by decide +kernel
theorem dX9_count_118 : decode cX9_count 118 = .ok (.getfield 16, 3) := by decide +kernel
theorem dX9_count_121 : decode cX9_count 121 = .ok (.ireturn, 1) := by decide +kernel
theorem dX9_count_122 : decode cX9_count 122 = .ok (.iload_n 2, 1) := by decide +kernel
theorem dX9_count_123 : decode cX9_count 123 = .ok (.ireturn, 1) := by decide +kernel
theorem dX9_count_124 : decode cX9_count 124 = .ok (.aload_n 0, 1) := by decide +kernel
theorem dX9_count_125 : decode cX9_count 125 = .ok (.getfield 97, 3) := by decide +kernel
theorem dX9_count_128 : decode cX9_count 128 = .ok (.ireturn, 1) := by decide +kernel
theorem dX9_count_129 : decode cX9_count 129 = .ok (.iload_n 3, 1) := by decide +kernel
theorem dX9_count_130 : decode cX9_count 130 = .ok (.iconst 1, 1) := by decide +kernel
theorem dX9_count_131 : decode cX9_count 131 = .ok (.iand, 1) := by decide +kernel
theorem dX9_count_132 : decode cX9_count 132 = .ok (.iload_n 3, 1) := by decide +kernel
theorem dX9_count_133 : decode cX9_count 133 = .ok (.iconst 1, 1) := by decide +kernel
theorem dX9_count_134 : decode cX9_count 134 = .ok (.ishr, 1) := by decide +kernel
theorem dX9_count_135 : decode cX9_count 135 = .ok (.iconst 1, 1) := by decide +kernel
theorem dX9_count_136 : decode cX9_count 136 = .ok (.iand, 1) := by decide +kernel
theorem dX9_count_137 : decode cX9_count 137 = .ok (.iadd, 1) := by decide +kernel
theorem dX9_count_138 : decode cX9_count 138 = .ok (.iload_n 3, 1) := by decide +kernel
theorem dX9_count_139 : decode cX9_count 139 = .ok (.iconst 2, 1) := by decide +kernel
theorem dX9_count_140 : decode cX9_count 140 = .ok (.ishr, 1) := by decide +kernel
theorem dX9_count_141 : decode cX9_count 141 = .ok (.iconst 1, 1) := by decide +kernel
theorem dX9_count_142 : decode cX9_count 142 = .ok (.iand, 1) := by decide +kernel
theorem dX9_count_143 : decode cX9_count 143 = .ok (.iadd, 1) := by decide +kernel
theorem dX9_count_144 : decode cX9_count 144 = .ok (.iload_n 3, 1) := by decide +kernel
theorem dX9_count_145 : decode cX9_count 145 = .ok (.iconst 3, 1) := by decide +kernel
theorem dX9_count_146 : decode cX9_count 146 = .ok (.ishr, 1) := by decide +kernel
theorem dX9_count_147 : decode cX9_count 147 = .ok (.iadd, 1) := by decide +kernel
theorem dX9_count_148 : decode cX9_count 148 = .ok (.ireturn, 1) := by decide +kernel
theorem dX9_count_149 : decode cX9_count 149 = .ok (.bipush (-2), 2) := by decide +kernel
theorem dX9_count_151 : decode cX9_count 151 = .ok (.ireturn, 1) := by decide +kernel
theorem bX9_count_0 (x1 : Int32) (mem : zm_Mem) (post : zm_Post) (kk : zm_Z gX9_count post 12 [(0, .ref 21), (1, .int x1), (2, .int 0), (3, .int 0), (4, .int 0)] [] (zm_st mem 21 0 0)) : zm_Call gX9_count [.ref 21, .int x1] mem post := by
  refine z_entry (by decide) (Nat.le_of_ble_eq_true rfl) ?_
  show zm_Z gX9_count post 0 [(0, .ref 21), (1, .int x1)] [] mem
  refine z_aload_n dX9_count_0 rfl 0 rfl ?_
  refine z_iconst (v := 0) dX9_count_1 zciconst_0 ?_
  refine z_put (ci := 9) (j := 0) (T := TX9) (ty0 := tyX9) rfl rfl hX9 tyX9_ok nmX9 rfl (by decide) fkX9_69 rfl rfl rfl dX9_count_2 ?_
  refine z_iconst (v := 0) dX9_count_5 zciconst_0 ?_
  refine z_istore_n (lv' := [(2, .int 0), (0, .ref 21), (1, .int x1)]) dX9_count_6 rfl (by decide) rfl ?_
  refine z_iconst (v := 0) dX9_count_7 zciconst_0 ?_
  refine z_istore_n (lv' := [(3, .int 0), (2, .int 0), (0, .ref 21), (1, .int x1)]) dX9_count_8 rfl (by decide) rfl ?_
  refine z_iconst (v := 0) dX9_count_9 zciconst_0 ?_
  refine z_istore (lv' := [(4, .int 0), (3, .int 0), (2, .int 0), (0, .ref 21), (1, .int x1)]) dX9_count_10 (by decide) rfl ?_
  refine z_sub [3, 4, 2, 1, 0] rfl ?_
  exact kk
theorem bX9_count_12 (x1 : Int32) (x2 : Int32) (x3 : Int32) (x4 : Int32) (mem : zm_Mem) (post : zm_Post) (kk : zm_Call gX9_cells [.ref 21] mem (fun r1 w1 u1 => ((r1 ≤ x4 → (((x1 : Int32).toInt < 0 ∨ 4 < (x1 : Int32).toInt → post (-2) 0 u1) ∧ ((x1 : Int32).toInt = 0 → zm_Call gX9_cells [.ref 21] u1 (fun r5 w5 u5 => post r5 0 u5)) ∧ ((x1 : Int32).toInt = 1 → post (u1 21 3) 0 u1) ∧ ((x1 : Int32).toInt = 2 → post x2 0 u1) ∧ ((x1 : Int32).toInt = 3 → post (u1 21 10) 0 u1) ∧ ((x1 : Int32).toInt = 4 → post ((((x3 &&& 1) + (((x3 : Int32) >>> ((1 : Int32) &&& 31)) &&& 1)) + (((x3 : Int32) >>> ((2 : Int32) &&& 31)) &&& 1)) + ((x3 : Int32) >>> ((3 : Int32) &&& 31))) 0 u1))) ∧ (¬ r1 ≤ x4 → (vp_in x4 36 ∧ ((¬ (u1 22 (Int32.toNatClampNeg x4)) = 9 → zm_Z gX9_count post 39 [(0, .ref 21), (1, .int x1), (3, .int x3), (4, .int x4)] [.int 0, .int x2] u1) ∧ ((u1 22 (Int32.toNatClampNeg x4)) = 9 → zm_Z gX9_count post 39 [(0, .ref 21), (1, .int x1), (3, .int x3), (4, .int x4)] [.int 1, .int x2] u1))))))) : zm_Z gX9_count post 12 [(0, .ref 21), (1, .int x1), (2, .int x2), (3, .int x3), (4, .int x4)] [] mem := by
  refine z_iload dX9_count_12 4 rfl ?_
  refine z_aload_n dX9_count_14 rfl 0 rfl ?_
  refine z_callVi (g' := gX9_cells) [] (q := 21) (ci := 9) (T := TX9) rfl rfl ⟨lkX9_72, pdX9_cells, by decide, by decide⟩ ⟨_, rfl, by decide⟩ rfl (Nat.le_of_ble_eq_true rfl) dX9_count_15 (zm_Call.mono kk (fun r1 w1 u1 k1 => ?_))
  refine z_icmp_ge (tgt := 75) dX9_count_18 (by decide) (fun h2 => ?_) (fun h2 => ?_)
  ·
    refine z_iload_n dX9_count_75 rfl 1 rfl ?_
    by_cases h3 : (x1 : Int32).toInt < 0 ∨ 4 < (x1 : Int32).toInt
    ·
      refine z_tableOut (tgt := 149) dX9_count_76 h3 (by decide) ?_
      refine z_bipush (v := (-2)) dX9_count_149 zcbipush_m2 ?_
      exact z_iret rfl dX9_count_151 ((k1.1 h2).1 h3)
    by_cases h4 : (x1 : Int32).toInt = 0
    ·
      refine z_tableIn (off := 36) (tgt := 112) dX9_count_76 (by omega) (by omega) (by rw [h4]; rfl) (by decide) ?_
      refine z_aload_n dX9_count_112 rfl 0 rfl ?_
      refine z_callVi (g' := gX9_cells) [] (q := 21) (ci := 9) (T := TX9) rfl rfl ⟨lkX9_72, pdX9_cells, by decide, by decide⟩ ⟨_, rfl, by decide⟩ rfl (Nat.le_of_ble_eq_true rfl) dX9_count_113 (zm_Call.mono ((k1.1 h2).2.1 h4) (fun r5 w5 u5 k5 => ?_))
      exact z_iret rfl dX9_count_116 k5
    by_cases h6 : (x1 : Int32).toInt = 1
    ·
      refine z_tableIn (off := 41) (tgt := 117) dX9_count_76 (by omega) (by omega) (by rw [h6]; rfl) (by decide) ?_
      refine z_aload_n dX9_count_117 rfl 0 rfl ?_
      refine z_geti (ci := 9) (j := 3) (T := TX9) rfl rfl hX9 rfl (by decide) fkX9_16 dX9_count_118 ?_
      exact z_iret rfl dX9_count_121 ((k1.1 h2).2.2.1 h6)
    by_cases h7 : (x1 : Int32).toInt = 2
    ·
      refine z_tableIn (off := 46) (tgt := 122) dX9_count_76 (by omega) (by omega) (by rw [h7]; rfl) (by decide) ?_
      refine z_iload_n dX9_count_122 rfl 2 rfl ?_
      exact z_iret rfl dX9_count_123 ((k1.1 h2).2.2.2.1 h7)
    by_cases h8 : (x1 : Int32).toInt = 3
    ·
      refine z_tableIn (off := 48) (tgt := 124) dX9_count_76 (by omega) (by omega) (by rw [h8]; rfl) (by decide) ?_
      refine z_aload_n dX9_count_124 rfl 0 rfl ?_
      refine z_geti (ci := 9) (j := 10) (T := TX9) rfl rfl hX9 rfl (by decide) fkX9_97 dX9_count_125 ?_
      exact z_iret rfl dX9_count_128 ((k1.1 h2).2.2.2.2.1 h8)
    have h9 : (x1 : Int32).toInt = 4 := by omega
    refine z_tableIn (off := 53) (tgt := 129) dX9_count_76 (by omega) (by omega) (by rw [h9]; rfl) (by decide) ?_
    refine z_iload_n dX9_count_129 rfl 3 rfl ?_
    refine z_iconst (v := 1) dX9_count_130 zciconst_1 ?_
    refine z_iand dX9_count_131 ?_
    refine z_iload_n dX9_count_132 rfl 3 rfl ?_
    refine z_iconst (v := 1) dX9_count_133 zciconst_1 ?_
    refine z_ishr dX9_count_134 ?_
    refine z_iconst (v := 1) dX9_count_135 zciconst_1 ?_
    refine z_iand dX9_count_136 ?_
    refine z_iadd dX9_count_137 ?_
    refine z_iload_n dX9_count_138 rfl 3 rfl ?_
    refine z_iconst (v := 2) dX9_count_139 zciconst_2 ?_
    refine z_ishr dX9_count_140 ?_
    refine z_iconst (v := 1) dX9_count_141 zciconst_1 ?_
    refine z_iand dX9_count_142 ?_
    refine z_iadd dX9_count_143 ?_
    refine z_iload_n dX9_count_144 rfl 3 rfl ?_
    refine z_iconst (v := 3) dX9_count_145 zciconst_3 ?_
    refine z_ishr dX9_count_146 ?_
    refine z_iadd dX9_count_147 ?_
    exact z_iret rfl dX9_count_148 ((k1.1 h2).2.2.2.2.2 h9)
  ·
    refine z_iload_n dX9_count_21 rfl 2 rfl ?_
    refine z_aload_n dX9_count_22 rfl 0 rfl ?_
    refine z_getr (ci := 9) (j := 4) (r := 22) (T := TX9) rfl rfl hX9 rfl (by decide) fkX9_19 dX9_count_23 ?_
    refine z_iload dX9_count_26 4 rfl ?_
    refine z_iald (n := 36) rfl (k1.2 h2).1 dX9_count_28 ?_
    refine z_bipush (v := 9) dX9_count_29 zcbipush_9 ?_
    refine z_icmp_ne (tgt := 38) dX9_count_31 (by decide) (fun h10 => ?_) (fun h10 => ?_)
    ·
      refine z_iconst (v := 0) dX9_count_38 zciconst_0 ?_
      refine z_sub [0, 1, 3, 4] rfl ?_
      exact ((k1.2 h2).2.1 h10)
    ·
      refine z_iconst (v := 1) dX9_count_34 zciconst_1 ?_
      refine z_goto (tgt := 39) dX9_count_35 (by decide) ?_
      refine z_sub [0, 1, 3, 4] rfl ?_
      exact ((k1.2 h2).2.2 h10)
theorem bX9_count_39 (x1 : Int32) (x3 : Int32) (x4 : Int32) (s0 : Int32) (s1 : Int32) (mem : zm_Mem) (post : zm_Post) (kk : (vp_in x4 36 ∧ ((¬ (mem 22 (Int32.toNatClampNeg x4)) = 9 → (vp_in x4 36 ∧ zm_Z gX9_count post 12 [(0, .ref 21), (1, .int x1), (2, .int (s1 + s0)), (3, .int (x3 ||| ((1 : Int32) <<< (((mem 22 (Int32.toNatClampNeg x4)) : Int32) &&& 31)))), (4, .int (x4 + 1))] [] mem)) ∧ ((mem 22 (Int32.toNatClampNeg x4)) = 9 → zm_Z gX9_count post 12 [(0, .ref 21), (1, .int x1), (2, .int (s1 + s0)), (3, .int (x3 ||| 0)), (4, .int (x4 + 1))] [] mem)))) : zm_Z gX9_count post 39 [(0, .ref 21), (1, .int x1), (3, .int x3), (4, .int x4)] [.int s0, .int s1] mem := by
  refine z_iadd dX9_count_39 ?_
  refine z_istore_n (lv' := [(2, .int (s1 + s0)), (0, .ref 21), (1, .int x1), (3, .int x3), (4, .int x4)]) dX9_count_40 rfl (by decide) rfl ?_
  refine z_iload_n dX9_count_41 rfl 3 rfl ?_
  refine z_aload_n dX9_count_42 rfl 1 rfl ?_
  refine z_getr (ci := 9) (j := 4) (r := 22) (T := TX9) rfl rfl hX9 rfl (by decide) fkX9_19 dX9_count_43 ?_
  refine z_iload dX9_count_46 4 rfl ?_
  refine z_iald (n := 36) rfl kk.1 dX9_count_48 ?_
  refine z_bipush (v := 9) dX9_count_49 zcbipush_9 ?_
  refine z_icmp_ne (tgt := 58) dX9_count_51 (by decide) (fun h1 => ?_) (fun h1 => ?_)
  ·
    refine z_iconst (v := 1) dX9_count_58 zciconst_1 ?_
    refine z_aload_n dX9_count_59 rfl 1 rfl ?_
    refine z_getr (ci := 9) (j := 4) (r := 22) (T := TX9) rfl rfl hX9 rfl (by decide) fkX9_19 dX9_count_60 ?_
    refine z_iload dX9_count_63 4 rfl ?_
    refine z_iald (n := 36) rfl (kk.2.1 h1).1 dX9_count_65 ?_
    refine z_ishl dX9_count_66 ?_
    refine z_ior dX9_count_67 ?_
    refine z_istore_n (lv' := [(3, .int (x3 ||| ((1 : Int32) <<< (((mem 22 (Int32.toNatClampNeg x4)) : Int32) &&& 31)))), (2, .int (s1 + s0)), (0, .ref 21), (1, .int x1), (4, .int x4)]) dX9_count_68 rfl (by decide) rfl ?_
    refine z_iinc (v := x4 + 1) (lv' := [(4, .int (x4 + 1)), (3, .int (x3 ||| ((1 : Int32) <<< (((mem 22 (Int32.toNatClampNeg x4)) : Int32) &&& 31)))), (2, .int (s1 + s0)), (0, .ref 21), (1, .int x1)]) dX9_count_69 4 rfl (by rw [zciconst_1]) (by decide) rfl ?_
    refine z_goto (tgt := 12) dX9_count_72 (by decide) ?_
    refine z_sub [3, 4, 2, 1, 0] rfl ?_
    exact (kk.2.1 h1).2
  ·
    refine z_iconst (v := 0) dX9_count_54 zciconst_0 ?_
    refine z_goto (tgt := 67) dX9_count_55 (by decide) ?_
    refine z_ior dX9_count_67 ?_
    refine z_istore_n (lv' := [(3, .int (x3 ||| 0)), (2, .int (s1 + s0)), (0, .ref 21), (1, .int x1), (4, .int x4)]) dX9_count_68 rfl (by decide) rfl ?_
    refine z_iinc (v := x4 + 1) (lv' := [(4, .int (x4 + 1)), (3, .int (x3 ||| 0)), (2, .int (s1 + s0)), (0, .ref 21), (1, .int x1)]) dX9_count_69 4 rfl (by rw [zciconst_1]) (by decide) rfl ?_
    refine z_goto (tgt := 12) dX9_count_72 (by decide) ?_
    refine z_sub [3, 4, 2, 1, 0] rfl ?_
    exact (kk.2.2 h1)
