theorem ku_37 : Cond.classLink R_law 7 RX8 ∈ zm_tb := zm_tb_in 37 (by decide +kernel) (by decide +kernel)
theorem ku_38 : Cond.instantiable RX8 8 ∈ zm_tb := zm_tb_in 38 (by decide +kernel) (by decide +kernel)
theorem ku_26 : Cond.initialized RX8 ∈ zm_tb := zm_tb_in 26 (by decide +kernel) (by decide +kernel)
theorem ku_39 : Cond.methodLink R_law 9 yX8_init ∈ zm_tb := zm_tb_in 39 (by decide +kernel) (by decide +kernel)
theorem ku_40 : Cond.instanceMethod yX8_init ∈ zm_tb := zm_tb_in 40 (by decide +kernel) (by decide +kernel)
theorem ku_761 : Cond.classLink R_law 10 RX9 ∈ zm_tb := zm_tb_in 761 (by decide +kernel) (by decide +kernel)
theorem ku_762 : Cond.instantiable RX9 22 ∈ zm_tb := zm_tb_in 762 (by decide +kernel) (by decide +kernel)
theorem ku_35 : Cond.initialized RX9 ∈ zm_tb := zm_tb_in 35 (by decide +kernel) (by decide +kernel)
theorem ku_763 : Cond.methodLink R_law 12 yX9_init ∈ zm_tb := zm_tb_in 763 (by decide +kernel) (by decide +kernel)
theorem ku_764 : Cond.instanceMethod yX9_init ∈ zm_tb := zm_tb_in 764 (by decide +kernel) (by decide +kernel)
theorem ku_97 : Cond.arrayClass .int ∈ zm_tb := zm_tb_in 97 (by decide +kernel) (by decide +kernel)
theorem ku_157 : Cond.arrayClass .boolean ∈ zm_tb := zm_tb_in 157 (by decide +kernel) (by decide +kernel)
theorem ku_159 : Cond.instantiable RX0 2 ∈ zm_tb := zm_tb_in 159 (by decide +kernel) (by decide +kernel)
theorem ku_46 : Cond.instantiable RX1 3 ∈ zm_tb := zm_tb_in 46 (by decide +kernel) (by decide +kernel)
theorem ku_99 : Cond.instantiable RX2 2 ∈ zm_tb := zm_tb_in 99 (by decide +kernel) (by decide +kernel)
theorem ku_172 : Cond.instantiable RX3 2 ∈ zm_tb := zm_tb_in 172 (by decide +kernel) (by decide +kernel)
theorem ku_112 : Cond.instantiable RX4 3 ∈ zm_tb := zm_tb_in 112 (by decide +kernel) (by decide +kernel)
theorem ku_71 : Cond.instantiable RX5 4 ∈ zm_tb := zm_tb_in 71 (by decide +kernel) (by decide +kernel)
theorem ku_185 : Cond.instantiable RX6 8 ∈ zm_tb := zm_tb_in 185 (by decide +kernel) (by decide +kernel)
theorem ku_128 : Cond.instantiable RX7 7 ∈ zm_tb := zm_tb_in 128 (by decide +kernel) (by decide +kernel)
theorem ku_533 : Cond.laysStatic RX4 "ROWS" "[I" ∈ lw_tbl := List.mem_of_getElem? (i := 533) (by decide +kernel)
theorem ku_30 : Cond.initialized RX4 ∈ zm_tb := zm_tb_in 30 (by decide +kernel) (by decide +kernel)
/-! THE LAW: its loop and its start -/
theorem zand63 (y : Int32) : ∃ v, v < 64 ∧ y &&& 63 = nI v := by
  refine ⟨(y &&& 63).toBitVec.toNat, ?_, ?_⟩
  · rw [Int32.toBitVec_and, BitVec.toNat_and]
    exact Nat.lt_of_le_of_lt Nat.and_le_right (by decide)
  · apply Int32.toBitVec_inj.mp
    show _ = BitVec.ofNat 32 _
    rw [BitVec.ofNat_toNat, BitVec.setWidth_eq]
section ZLOOP
variable {p : Program} {l : Launch} {e : Env} {s : State} {m : MethodId} {below : List Frame} {meth : Method} {c : Code} {b L : Nat} {xs : Nat → Int32} {D : va_G} {c1 c2 : ClassId} {ad : Nat → Nat}
set_option maxHeartbeats 4000000 in
set_option maxRecDepth 100000 in
theorem zl_loop (C : zl_At p s m meth c b L xs D c1 c2) (hL : L ≤ 2048) : ∀ (f i : Nat) (mem : zm_Mem), L ≤ i + f → i ≤ L + 4 → zInv mem → zl_Z p l e s m below meth c b D c1 c2 ad 18 (nI i) [] mem := by
  intro f
  have out : ∀ (i : Nat) (mem : zm_Mem), i ≤ L + 4 → (¬ i + 4 ≤ L ∨ (i + 4 ≤ L ∧ zl_Z p l e s m below meth c b D c1 c2 ad 26 (nI i) [] mem)) → zl_Z p l e s m below meth c b D c1 c2 ad 18 (nI i) [] mem := by
    intro i mem hi4 hor H locs ls Dy hl
    refine lv_iload_n C.1.1 C.1.2.1 eL_18 rfl (lv_at hl 3 rfl) ?_
    refine lv_aload_n C.1.1 C.1.2.1 eL_19 rfl (lv_at hl 0 rfl) ?_
    refine va_slen C.1.1 C.1.2.1 C.2.1 C.2.2 (Nat.not_le.mpr C.2.2) Dy.2.2 eL_20 ?_
    refine lv_iconst (v := 4) C.1.1 C.1.2.1 eL_21 (by decide) ?_
    refine lv_isub C.1.1 C.1.2.1 eL_22 ?_
    have key : (Int32.ofNat L - 4 < nI i) ↔ ¬ i + 4 ≤ L := by
      rw [Int32.lt_iff_toInt_lt, show Int32.ofNat L - 4 = nI L - nI 4 from rfl, pk_sub_toInt (by omega) (by decide), nI_toInt (by omega)]
      omega
    refine lv_icmp_gt (tgt := 1091) C.1.1 C.1.2.1 eL_23 (by decide) (fun q => ?_) (fun q => ?_)
    · refine lv_iconst (v := 1) C.1.1 C.1.2.1 eL_1091 (by decide) ?_
      refine va_forget (fun q hq => Dy.2.2.2.2 q hq) ?_
      exact lw_ret C.1.1 C.1.2.1 C.1.2.2.1 C.1.2.2.2.1 eL_1092
    · rcases hor with z | z
      · exact absurd (key.mpr z) q
      · exact z.2 H locs ls Dy hl
  induction f with
  | zero =>
    intro i mem h1 h2 I
    exact out i mem h2 (Or.inl (by omega))
  | succ f ih =>
    intro i mem h1 h2 I
    refine out i mem h2 ?_
    by_cases hi : i + 4 ≤ L
    · refine Or.inr ⟨hi, ?_⟩
      have K : ∀ u, zInv u → zl_Z p l e s m below meth c b D c1 c2 ad 1085 (nI i) [] u := by
        intro u Iu H locs ls Dy hl
        refine lv_iinc (v := nI (i + 4)) (lv' := [(3, .int (nI (i + 4))), (0, .ref b), (1, .ref (ad 0)), (2, .ref (ad 21))]) C.1.1 C.1.2.1 eL_1085 hl (k := 3) rfl (nI_add i 4) (by decide) rfl (fun ls hl => ?_)
        refine lv_goto (tgt := 18) C.1.1 C.1.2.1 eL_1088 (by decide) ?_
        exact ih (i + 4) u (by omega) (by omega) Iu H locs ls Dy (lv_sub hl [1, 2, 3, 0] rfl)
      intro H locs ls Dy hl
      refine lv_aload_n C.1.1 C.1.2.1 eL_26 rfl (lv_at hl 0 rfl) ?_
      refine lv_iload_n C.1.1 C.1.2.1 eL_27 rfl (lv_at hl 3 rfl) ?_
      refine va_sld C.1.1 C.1.2.1 C.2.1 C.2.2 (Nat.not_le.mpr C.2.2) Dy.2.2 (pk_in i L (by omega) rfl (by omega)) eL_28 ?_
      refine lv_bipush (v := 63) C.1.1 C.1.2.1 eL_29 (by decide) ?_
      refine lv_iand C.1.1 C.1.2.1 eL_31 ?_
      obtain ⟨v, hv, ev⟩ := zand63 (xs (nI i).toNatClampNeg)
      rw [ev]
      by_cases h38 : v ≤ 38
      · rcases (show v = 0 ∨ v = 1 ∨ v = 2 ∨ v = 3 ∨ v = 4 ∨ v = 5 ∨ v = 6 ∨ v = 7 ∨ v = 8 ∨ v = 9 ∨ v = 10 ∨ v = 11 ∨ v = 12 ∨ v = 13 ∨ v = 14 ∨ v = 15 ∨ v = 16 ∨ v = 17 ∨ v = 18 ∨ v = 19 ∨ v = 20 ∨ v = 21 ∨ v = 22 ∨ v = 23 ∨ v = 24 ∨ v = 25 ∨ v = 26 ∨ v = 27 ∨ v = 28 ∨ v = 29 ∨ v = 30 ∨ v = 31 ∨ v = 32 ∨ v = 33 ∨ v = 34 ∨ v = 35 ∨ v = 36 ∨ v = 37 ∨ v = 38 by omega) with rfl | rfl | rfl | rfl | rfl | rfl | rfl | rfl | rfl | rfl | rfl | rfl | rfl | rfl | rfl | rfl | rfl | rfl | rfl | rfl | rfl | rfl | rfl | rfl | rfl | rfl | rfl | rfl | rfl | rfl | rfl | rfl | rfl | rfl | rfl | rfl | rfl | rfl | rfl
        · exact lv_tableIn (off := 172) (tgt := 204) C.1.1 C.1.2.1 eL_32 (by decide) (by decide) (by decide) (by decide) (zc_0 C hL hi K I H locs ls Dy hl)
        · exact lv_tableIn (off := 205) (tgt := 237) C.1.1 C.1.2.1 eL_32 (by decide) (by decide) (by decide) (by decide) (zc_1 C hL hi K I H locs ls Dy hl)
        · exact lv_tableIn (off := 228) (tgt := 260) C.1.1 C.1.2.1 eL_32 (by decide) (by decide) (by decide) (by decide) (zc_2 C hL hi K I H locs ls Dy hl)
        · exact lv_tableIn (off := 261) (tgt := 293) C.1.1 C.1.2.1 eL_32 (by decide) (by decide) (by decide) (by decide) (zc_3 C hL hi K I H locs ls Dy hl)
        · exact lv_tableIn (off := 304) (tgt := 336) C.1.1 C.1.2.1 eL_32 (by decide) (by decide) (by decide) (by decide) (zc_4 C hL hi K I H locs ls Dy hl)
        · exact lv_tableIn (off := 327) (tgt := 359) C.1.1 C.1.2.1 eL_32 (by decide) (by decide) (by decide) (by decide) (zc_5 C hL hi K I H locs ls Dy hl)
        · exact lv_tableIn (off := 340) (tgt := 372) C.1.1 C.1.2.1 eL_32 (by decide) (by decide) (by decide) (by decide) (zc_6 C hL hi K I H locs ls Dy hl)
        · exact lv_tableIn (off := 373) (tgt := 405) C.1.1 C.1.2.1 eL_32 (by decide) (by decide) (by decide) (by decide) (zc_7 C hL hi K I H locs ls Dy hl)
        · exact lv_tableIn (off := 406) (tgt := 438) C.1.1 C.1.2.1 eL_32 (by decide) (by decide) (by decide) (by decide) (zc_8 C hL hi K I H locs ls Dy hl)
        · exact lv_tableIn (off := 429) (tgt := 461) C.1.1 C.1.2.1 eL_32 (by decide) (by decide) (by decide) (by decide) (zc_9 C hL hi K I H locs ls Dy hl)
        · exact lv_tableIn (off := 452) (tgt := 484) C.1.1 C.1.2.1 eL_32 (by decide) (by decide) (by decide) (by decide) (zc_10 C hL hi K I H locs ls Dy hl)
        · exact lv_tableIn (off := 475) (tgt := 507) C.1.1 C.1.2.1 eL_32 (by decide) (by decide) (by decide) (by decide) (zc_11 C hL hi K I H locs ls Dy hl)
        · exact lv_tableIn (off := 498) (tgt := 530) C.1.1 C.1.2.1 eL_32 (by decide) (by decide) (by decide) (by decide) (zc_12 C hL hi K I H locs ls Dy hl)
        · exact lv_tableIn (off := 521) (tgt := 553) C.1.1 C.1.2.1 eL_32 (by decide) (by decide) (by decide) (by decide) (zc_13 C hL hi K I H locs ls Dy hl)
        · exact lv_tableIn (off := 544) (tgt := 576) C.1.1 C.1.2.1 eL_32 (by decide) (by decide) (by decide) (by decide) (zc_14 C hL hi K I H locs ls Dy hl)
        · exact lv_tableIn (off := 557) (tgt := 589) C.1.1 C.1.2.1 eL_32 (by decide) (by decide) (by decide) (by decide) (zc_15 C hL hi K I H locs ls Dy hl)
        · exact lv_tableIn (off := 580) (tgt := 612) C.1.1 C.1.2.1 eL_32 (by decide) (by decide) (by decide) (by decide) (zc_16 C hL hi K I H locs ls Dy hl)
        · exact lv_tableIn (off := 603) (tgt := 635) C.1.1 C.1.2.1 eL_32 (by decide) (by decide) (by decide) (by decide) (zc_17 C hL hi K I H locs ls Dy hl)
        · exact lv_tableIn (off := 616) (tgt := 648) C.1.1 C.1.2.1 eL_32 (by decide) (by decide) (by decide) (by decide) (zc_18 C hL hi K I H locs ls Dy hl)
        · exact lv_tableIn (off := 629) (tgt := 661) C.1.1 C.1.2.1 eL_32 (by decide) (by decide) (by decide) (by decide) (zc_19 C hL hi K I H locs ls Dy hl)
        · exact lv_tableIn (off := 662) (tgt := 694) C.1.1 C.1.2.1 eL_32 (by decide) (by decide) (by decide) (by decide) (zc_20 C hL hi K I H locs ls Dy hl)
        · exact lv_tableIn (off := 695) (tgt := 727) C.1.1 C.1.2.1 eL_32 (by decide) (by decide) (by decide) (by decide) (zc_21 C hL hi K I H locs ls Dy hl)
        · exact lv_tableIn (off := 718) (tgt := 750) C.1.1 C.1.2.1 eL_32 (by decide) (by decide) (by decide) (by decide) (zc_22 C hL hi K I H locs ls Dy hl)
        · exact lv_tableIn (off := 731) (tgt := 763) C.1.1 C.1.2.1 eL_32 (by decide) (by decide) (by decide) (by decide) (zc_23 C hL hi K I H locs ls Dy hl)
        · exact lv_tableIn (off := 754) (tgt := 786) C.1.1 C.1.2.1 eL_32 (by decide) (by decide) (by decide) (by decide) (zc_24 C hL hi K I H locs ls Dy hl)
        · exact lv_tableIn (off := 767) (tgt := 799) C.1.1 C.1.2.1 eL_32 (by decide) (by decide) (by decide) (by decide) (zc_25 C hL hi K I H locs ls Dy hl)
        · exact lv_tableIn (off := 780) (tgt := 812) C.1.1 C.1.2.1 eL_32 (by decide) (by decide) (by decide) (by decide) (zc_26 C hL hi K I H locs ls Dy hl)
        · exact lv_tableIn (off := 793) (tgt := 825) C.1.1 C.1.2.1 eL_32 (by decide) (by decide) (by decide) (by decide) (zc_27 C hL hi K I H locs ls Dy hl)
        · exact lv_tableIn (off := 816) (tgt := 848) C.1.1 C.1.2.1 eL_32 (by decide) (by decide) (by decide) (by decide) (zc_28 C hL hi K I H locs ls Dy hl)
        · exact lv_tableIn (off := 855) (tgt := 887) C.1.1 C.1.2.1 eL_32 (by decide) (by decide) (by decide) (by decide) (zc_29 C hL hi K I H locs ls Dy hl)
        · exact lv_tableIn (off := 878) (tgt := 910) C.1.1 C.1.2.1 eL_32 (by decide) (by decide) (by decide) (by decide) (zc_30 C hL hi K I H locs ls Dy hl)
        · exact lv_tableIn (off := 891) (tgt := 923) C.1.1 C.1.2.1 eL_32 (by decide) (by decide) (by decide) (by decide) (zc_31 C hL hi K I H locs ls Dy hl)
        · exact lv_tableIn (off := 905) (tgt := 937) C.1.1 C.1.2.1 eL_32 (by decide) (by decide) (by decide) (by decide) (zc_32 C hL hi K I H locs ls Dy hl)
        · exact lv_tableIn (off := 919) (tgt := 951) C.1.1 C.1.2.1 eL_32 (by decide) (by decide) (by decide) (by decide) (zc_33 C hL hi K I H locs ls Dy hl)
        · exact lv_tableIn (off := 932) (tgt := 964) C.1.1 C.1.2.1 eL_32 (by decide) (by decide) (by decide) (by decide) (zc_34 C hL hi K I H locs ls Dy hl)
        · exact lv_tableIn (off := 955) (tgt := 987) C.1.1 C.1.2.1 eL_32 (by decide) (by decide) (by decide) (by decide) (zc_35 C hL hi K I H locs ls Dy hl)
        · exact lv_tableIn (off := 968) (tgt := 1000) C.1.1 C.1.2.1 eL_32 (by decide) (by decide) (by decide) (by decide) (zc_36 C hL hi K I H locs ls Dy hl)
        · exact lv_tableIn (off := 1007) (tgt := 1039) C.1.1 C.1.2.1 eL_32 (by decide) (by decide) (by decide) (by decide) (zc_37 C hL hi K I H locs ls Dy hl)
        · exact lv_tableIn (off := 1030) (tgt := 1062) C.1.1 C.1.2.1 eL_32 (by decide) (by decide) (by decide) (by decide) (zc_38 C hL hi K I H locs ls Dy hl)
      · exact lv_tableOut (tgt := 1085) C.1.1 C.1.2.1 eL_32 (Or.inr (by rw [nI_toInt (by omega)]; omega)) (by decide) (K mem I H locs ls Dy hl)
    · exact Or.inl hi
end ZLOOP
