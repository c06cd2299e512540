theorem ku_37 : Cond.classLink R_law 7 RX8 ∈ zm_tb := zm_tb_in 37 (by decide +kernel) (by decide +kernel)
theorem ku_38 : Cond.instantiable RX8 8 ∈ zm_tb := zm_tb_in 38 (by decide +kernel) (by decide +kernel)
theorem ku_26 : Cond.initialized RX8 ∈ zm_tb := zm_tb_in 26 (by decide +kernel) (by decide +kernel)
theorem ku_39 : Cond.methodLink R_law 9 yX8_init ∈ zm_tb := zm_tb_in 39 (by decide +kernel) (by decide +kernel)
theorem ku_40 : Cond.instanceMethod yX8_init ∈ zm_tb := zm_tb_in 40 (by decide +kernel) (by decide +kernel)
theorem ku_761 : Cond.classLink R_law 10 RX9 ∈ zm_tb := zm_tb_in 761 (by decide +kernel) (by decide +kernel)
theorem ku_762 : Cond.instantiable RX9 22 ∈ zm_tb := zm_tb_in 762 (by decide +kernel) (by decide +kernel)
theorem ku_35 : Cond.initialized RX9 ∈ zm_tb := zm_tb_in 35 (by decide +kernel) (by decide +kernel)
theorem ku_763 : Cond.methodLink R_law 12 yX9_init ∈ zm_tb := zm_tb_in 763 (by decide +kernel) (by decide +kernel)
theorem ku_764 : Cond.instanceMethod yX9_init ∈ zm_tb := zm_tb_in 764 (by decide +kernel) (by decide +kernel)
theorem ku_97 : Cond.arrayClass .int ∈ zm_tb := zm_tb_in 97 (by decide +kernel) (by decide +kernel)
theorem ku_157 : Cond.arrayClass .boolean ∈ zm_tb := zm_tb_in 157 (by decide +kernel) (by decide +kernel)
theorem ku_159 : Cond.instantiable RX0 2 ∈ zm_tb := zm_tb_in 159 (by decide +kernel) (by decide +kernel)
theorem ku_46 : Cond.instantiable RX1 3 ∈ zm_tb := zm_tb_in 46 (by decide +kernel) (by decide +kernel)
theorem ku_99 : Cond.instantiable RX2 2 ∈ zm_tb := zm_tb_in 99 (by decide +kernel) (by decide +kernel)
theorem ku_172 : Cond.instantiable RX3 2 ∈ zm_tb := zm_tb_in 172 (by decide +kernel) (by decide +kernel)
theorem ku_112 : Cond.instantiable RX4 3 ∈ zm_tb := zm_tb_in 112 (by decide +kernel) (by decide +kernel)
theorem ku_71 : Cond.instantiable RX5 4 ∈ zm_tb := zm_tb_in 71 (by decide +kernel) (by decide +kernel)
theorem ku_185 : Cond.instantiable RX6 8 ∈ zm_tb := zm_tb_in 185 (by decide +kernel) (by decide +kernel)
theorem ku_128 : Cond.instantiable RX7 7 ∈ zm_tb := zm_tb_in 128 (by decide +kernel) (by decide +kernel)
theorem ku_533 : Cond.laysStatic RX4 "ROWS" "[I" ∈ zm_tb := zm_tb_in 533 (by decide +kernel) (by decide +kernel)
theorem ku_30 : Cond.initialized RX4 ∈ zm_tb := zm_tb_in 30 (by decide +kernel) (by decide +kernel)
/-! THE LAW: its loop and its start -/
theorem zand63 (y : Int32) : ∃ v, v < 64 ∧ y &&& 63 = nI v := by
  refine ⟨(y &&& 63).toBitVec.toNat, ?_, ?_⟩
  · rw [Int32.toBitVec_and, BitVec.toNat_and]
    exact Nat.lt_of_le_of_lt Nat.and_le_right (by decide)
  · apply Int32.toBitVec_inj.mp
    show _ = BitVec.ofNat 32 _
    rw [BitVec.ofNat_toNat, BitVec.setWidth_eq]
section ZLOOP
variable {p : Program} {l : Launch} {e : Env} {s : State} {m : MethodId} {below : List Frame} {meth : Method} {c : Code} {b L : Nat} {xs : Nat → Int32} {D : va_G} {c1 c2 : ClassId} {ad : Nat → Nat}
set_option maxHeartbeats 4000000 in
set_option maxRecDepth 100000 in
theorem zl_loop (C : zl_At p s m meth c b L xs D c1 c2) (hL : L ≤ 2048) : ∀ (f i : Nat) (mem : zm_Mem), L ≤ i + f → i ≤ L + 4 → zInv mem → zl_Z p l e s m below meth c b D c1 c2 ad 18 (nI i) [] mem := by
  intro f
  have out : ∀ (i : Nat) (mem : zm_Mem), i ≤ L + 4 → (¬ i + 4 ≤ L ∨ (i + 4 ≤ L ∧ zl_Z p l e s m below meth c b D c1 c2 ad 26 (nI i) [] mem)) → zl_Z p l e s m below meth c b D c1 c2 ad 18 (nI i) [] mem := by
    intro i mem hi4 hor H locs ls Dy hl
    refine lv_iload_n C.1.1 C.1.2.1 eL_18 rfl (lv_at hl 3 rfl) ?_
    refine lv_aload_n C.1.1 C.1.2.1 eL_19 rfl (lv_at hl 0 rfl) ?_
    refine va_slen C.1.1 C.1.2.1 C.2.1 C.2.2 (Nat.not_le.mpr C.2.2) Dy.2.2 eL_20 ?_
    refine lv_iconst (v := 4) C.1.1 C.1.2.1 eL_21 (by decide) ?_
    refine lv_isub C.1.1 C.1.2.1 eL_22 ?_
    have key : (Int32.ofNat L - 4 < nI i) ↔ ¬ i + 4 ≤ L := by
      rw [Int32.lt_iff_toInt_lt, show Int32.ofNat L - 4 = nI L - nI 4 from rfl, pk_sub_toInt (by omega) (by decide), nI_toInt (by omega)]
      omega
    refine lv_icmp_gt (tgt := 1091) C.1.1 C.1.2.1 eL_23 (by decide) (fun q => ?_) (fun q => ?_)
    · refine lv_iconst (v := 1) C.1.1 C.1.2.1 eL_1091 (by decide) ?_
      refine va_forget (fun q hq => Dy.2.2.2.2 q hq) ?_
      exact lw_ret C.1.1 C.1.2.1 C.1.2.2.1 C.1.2.2.2.1 eL_1092
    · rcases hor with z | z
      · exact absurd (key.mpr z) q
      · exact z.2 H locs ls Dy hl
  induction f with
  | zero =>
    intro i mem h1 h2 I
    exact out i mem h2 (Or.inl (by omega))
  | succ f ih =>
    intro i mem h1 h2 I
    refine out i mem h2 ?_
    by_cases hi : i + 4 ≤ L
    · refine Or.inr ⟨hi, ?_⟩
      have K : ∀ u, zInv u → zl_Z p l e s m below meth c b D c1 c2 ad 1085 (nI i) [] u := by
        intro u Iu H locs ls Dy hl
        refine lv_iinc (v := nI (i + 4)) (lv' := [(3, .int (nI (i + 4))), (0, .ref b), (1, .ref (ad 0)), (2, .ref (ad 21))]) C.1.1 C.1.2.1 eL_1085 hl (k := 3) rfl (nI_add i 4) (by decide) rfl (fun ls hl => ?_)
        refine lv_goto (tgt := 18) C.1.1 C.1.2.1 eL_1088 (by decide) ?_
        exact ih (i + 4) u (by omega) (by omega) Iu H locs ls Dy (lv_sub hl [1, 2, 3, 0] rfl)
      intro H locs ls Dy hl
      refine lv_aload_n C.1.1 C.1.2.1 eL_26 rfl (lv_at hl 0 rfl) ?_
      refine lv_iload_n C.1.1 C.1.2.1 eL_27 rfl (lv_at hl 3 rfl) ?_
      refine va_sld C.1.1 C.1.2.1 C.2.1 C.2.2 (Nat.not_le.mpr C.2.2) Dy.2.2 (pk_in i L (by omega) rfl (by omega)) eL_28 ?_
      refine lv_bipush (v := 63) C.1.1 C.1.2.1 eL_29 (by decide) ?_
      refine lv_iand C.1.1 C.1.2.1 eL_31 ?_
      obtain ⟨v, hv, ev⟩ := zand63 (xs (nI i).toNatClampNeg)
      rw [ev]
      by_cases h38 : v ≤ 38
      · rcases (show v = 0 ∨ v = 1 ∨ v = 2 ∨ v = 3 ∨ v = 4 ∨ v = 5 ∨ v = 6 ∨ v = 7 ∨ v = 8 ∨ v = 9 ∨ v = 10 ∨ v = 11 ∨ v = 12 ∨ v = 13 ∨ v = 14 ∨ v = 15 ∨ v = 16 ∨ v = 17 ∨ v = 18 ∨ v = 19 ∨ v = 20 ∨ v = 21 ∨ v = 22 ∨ v = 23 ∨ v = 24 ∨ v = 25 ∨ v = 26 ∨ v = 27 ∨ v = 28 ∨ v = 29 ∨ v = 30 ∨ v = 31 ∨ v = 32 ∨ v = 33 ∨ v = 34 ∨ v = 35 ∨ v = 36 ∨ v = 37 ∨ v = 38 by omega) with rfl | rfl | rfl | rfl | rfl | rfl | rfl | rfl | rfl | rfl | rfl | rfl | rfl | rfl | rfl | rfl | rfl | rfl | rfl | rfl | rfl | rfl | rfl | rfl | rfl | rfl | rfl | rfl | rfl | rfl | rfl | rfl | rfl | rfl | rfl | rfl | rfl | rfl | rfl
        · exact lv_tableIn (off := 172) (tgt := 204) C.1.1 C.1.2.1 eL_32 (by decide) (by decide) (by decide) (by decide) (zc_0 C hL hi K I H locs ls Dy hl)
        · exact lv_tableIn (off := 205) (tgt := 237) C.1.1 C.1.2.1 eL_32 (by decide) (by decide) (by decide) (by decide) (zc_1 C hL hi K I H locs ls Dy hl)
        · exact lv_tableIn (off := 228) (tgt := 260) C.1.1 C.1.2.1 eL_32 (by decide) (by decide) (by decide) (by decide) (zc_2 C hL hi K I H locs ls Dy hl)
        · exact lv_tableIn (off := 261) (tgt := 293) C.1.1 C.1.2.1 eL_32 (by decide) (by decide) (by decide) (by decide) (zc_3 C hL hi K I H locs ls Dy hl)
        · exact lv_tableIn (off := 304) (tgt := 336) C.1.1 C.1.2.1 eL_32 (by decide) (by decide) (by decide) (by decide) (zc_4 C hL hi K I H locs ls Dy hl)
        · exact lv_tableIn (off := 327) (tgt := 359) C.1.1 C.1.2.1 eL_32 (by decide) (by decide) (by decide) (by decide) (zc_5 C hL hi K I H locs ls Dy hl)
        · exact lv_tableIn (off := 340) (tgt := 372) C.1.1 C.1.2.1 eL_32 (by decide) (by decide) (by decide) (by decide) (zc_6 C hL hi K I H locs ls Dy hl)
        · exact lv_tableIn (off := 373) (tgt := 405) C.1.1 C.1.2.1 eL_32 (by decide) (by decide) (by decide) (by decide) (zc_7 C hL hi K I H locs ls Dy hl)
        · exact lv_tableIn (off := 406) (tgt := 438) C.1.1 C.1.2.1 eL_32 (by decide) (by decide) (by decide) (by decide) (zc_8 C hL hi K I H locs ls Dy hl)
        · exact lv_tableIn (off := 429) (tgt := 461) C.1.1 C.1.2.1 eL_32 (by decide) (by decide) (by decide) (by decide) (zc_9 C hL hi K I H locs ls Dy hl)
        · exact lv_tableIn (off := 452) (tgt := 484) C.1.1 C.1.2.1 eL_32 (by decide) (by decide) (by decide) (by decide) (zc_10 C hL hi K I H locs ls Dy hl)
        · exact lv_tableIn (off := 475) (tgt := 507) C.1.1 C.1.2.1 eL_32 (by decide) (by decide) (by decide) (by decide) (zc_11 C hL hi K I H locs ls Dy hl)
        · exact lv_tableIn (off := 498) (tgt := 530) C.1.1 C.1.2.1 eL_32 (by decide) (by decide) (by decide) (by decide) (zc_12 C hL hi K I H locs ls Dy hl)
        · exact lv_tableIn (off := 521) (tgt := 553) C.1.1 C.1.2.1 eL_32 (by decide) (by decide) (by decide) (by decide) (zc_13 C hL hi K I H locs ls Dy hl)
        · exact lv_tableIn (off := 544) (tgt := 576) C.1.1 C.1.2.1 eL_32 (by decide) (by decide) (by decide) (by decide) (zc_14 C hL hi K I H locs ls Dy hl)
        · exact lv_tableIn (off := 557) (tgt := 589) C.1.1 C.1.2.1 eL_32 (by decide) (by decide) (by decide) (by decide) (zc_15 C hL hi K I H locs ls Dy hl)
        · exact lv_tableIn (off := 580) (tgt := 612) C.1.1 C.1.2.1 eL_32 (by decide) (by decide) (by decide) (by decide) (zc_16 C hL hi K I H locs ls Dy hl)
        · exact lv_tableIn (off := 603) (tgt := 635) C.1.1 C.1.2.1 eL_32 (by decide) (by decide) (by decide) (by decide) (zc_17 C hL hi K I H locs ls Dy hl)
        · exact lv_tableIn (off := 616) (tgt := 648) C.1.1 C.1.2.1 eL_32 (by decide) (by decide) (by decide) (by decide) (zc_18 C hL hi K I H locs ls Dy hl)
        · exact lv_tableIn (off := 629) (tgt := 661) C.1.1 C.1.2.1 eL_32 (by decide) (by decide) (by decide) (by decide) (zc_19 C hL hi K I H locs ls Dy hl)
        · exact lv_tableIn (off := 662) (tgt := 694) C.1.1 C.1.2.1 eL_32 (by decide) (by decide) (by decide) (by decide) (zc_20 C hL hi K I H locs ls Dy hl)
        · exact lv_tableIn (off := 695) (tgt := 727) C.1.1 C.1.2.1 eL_32 (by decide) (by decide) (by decide) (by decide) (zc_21 C hL hi K I H locs ls Dy hl)
        · exact lv_tableIn (off := 718) (tgt := 750) C.1.1 C.1.2.1 eL_32 (by decide) (by decide) (by decide) (by decide) (zc_22 C hL hi K I H locs ls Dy hl)
        · exact lv_tableIn (off := 731) (tgt := 763) C.1.1 C.1.2.1 eL_32 (by decide) (by decide) (by decide) (by decide) (zc_23 C hL hi K I H locs ls Dy hl)
        · exact lv_tableIn (off := 754) (tgt := 786) C.1.1 C.1.2.1 eL_32 (by decide) (by decide) (by decide) (by decide) (zc_24 C hL hi K I H locs ls Dy hl)
        · exact lv_tableIn (off := 767) (tgt := 799) C.1.1 C.1.2.1 eL_32 (by decide) (by decide) (by decide) (by decide) (zc_25 C hL hi K I H locs ls Dy hl)
        · exact lv_tableIn (off := 780) (tgt := 812) C.1.1 C.1.2.1 eL_32 (by decide) (by decide) (by decide) (by decide) (zc_26 C hL hi K I H locs ls Dy hl)
        · exact lv_tableIn (off := 793) (tgt := 825) C.1.1 C.1.2.1 eL_32 (by decide) (by decide) (by decide) (by decide) (zc_27 C hL hi K I H locs ls Dy hl)
        · exact lv_tableIn (off := 816) (tgt := 848) C.1.1 C.1.2.1 eL_32 (by decide) (by decide) (by decide) (by decide) (zc_28 C hL hi K I H locs ls Dy hl)
        · exact lv_tableIn (off := 855) (tgt := 887) C.1.1 C.1.2.1 eL_32 (by decide) (by decide) (by decide) (by decide) (zc_29 C hL hi K I H locs ls Dy hl)
        · exact lv_tableIn (off := 878) (tgt := 910) C.1.1 C.1.2.1 eL_32 (by decide) (by decide) (by decide) (by decide) (zc_30 C hL hi K I H locs ls Dy hl)
        · exact lv_tableIn (off := 891) (tgt := 923) C.1.1 C.1.2.1 eL_32 (by decide) (by decide) (by decide) (by decide) (zc_31 C hL hi K I H locs ls Dy hl)
        · exact lv_tableIn (off := 905) (tgt := 937) C.1.1 C.1.2.1 eL_32 (by decide) (by decide) (by decide) (by decide) (zc_32 C hL hi K I H locs ls Dy hl)
        · exact lv_tableIn (off := 919) (tgt := 951) C.1.1 C.1.2.1 eL_32 (by decide) (by decide) (by decide) (by decide) (zc_33 C hL hi K I H locs ls Dy hl)
        · exact lv_tableIn (off := 932) (tgt := 964) C.1.1 C.1.2.1 eL_32 (by decide) (by decide) (by decide) (by decide) (zc_34 C hL hi K I H locs ls Dy hl)
        · exact lv_tableIn (off := 955) (tgt := 987) C.1.1 C.1.2.1 eL_32 (by decide) (by decide) (by decide) (by decide) (zc_35 C hL hi K I H locs ls Dy hl)
        · exact lv_tableIn (off := 968) (tgt := 1000) C.1.1 C.1.2.1 eL_32 (by decide) (by decide) (by decide) (by decide) (zc_36 C hL hi K I H locs ls Dy hl)
        · exact lv_tableIn (off := 1007) (tgt := 1039) C.1.1 C.1.2.1 eL_32 (by decide) (by decide) (by decide) (by decide) (zc_37 C hL hi K I H locs ls Dy hl)
        · exact lv_tableIn (off := 1030) (tgt := 1062) C.1.1 C.1.2.1 eL_32 (by decide) (by decide) (by decide) (by decide) (zc_38 C hL hi K I H locs ls Dy hl)
      · exact lv_tableOut (tgt := 1085) C.1.1 C.1.2.1 eL_32 (Or.inr (by rw [nI_toInt (by omega)]; omega)) (by decide) (K mem I H locs ls Dy hl)
    · exact Or.inl hi
end ZLOOP
def zm_m0 (f : Nat → Int32) : zm_Mem := fun k j => if k = 10 then f j else if k = 1 then (if j = 2 then 16 else 4) else if k = 2 then (if j = 3 then 2 else 0) else if k = 21 then (if j = 1 then 4 else if j = 2 then 4 else if j = 3 then 2 else 0) else 0
theorem zm_m0_inv {f : Nat → Int32} (hf : ∀ j, j < 36 → f j = nI j) : zInv (zm_m0 f) := by
  refine ⟨4, 4, 16, 2, fun _ => 0, 0, fun _ => 0, id, ⟨⟨by decide, by decide, by decide, by decide, by decide, by decide, by decide⟩, by decide, by decide, fun _ _ => Or.inl (by decide), by decide, fun j hj => by omega, fun c hc => Nat.le_refl _, fun c hc j hj => by omega, fun g hg c hc => rfl⟩, ⟨⟨rfl, rfl, rfl⟩, rfl, fun c hc => rfl, rfl, fun j hj => by omega, fun c hc => ?_⟩, ⟨rfl, rfl⟩, rfl, fun c hc => rfl, rfl, fun j hj => by omega⟩
  show (if 10 = 10 then f c else _) = nI c
  rw [if_pos rfl]
  exact hf c (by omega)
set_option maxHeartbeats 4000000 in
set_option maxRecDepth 100000 in
theorem zm_pic0 {c1 c2 : ClassId} {f : Nat → Int32} {a0 a1 a2 a3 a4 a5 a6 a7 a8 a9 a10 a11 a12 a13 a14 a15 a16 a17 a18 a19 a20 a21 a22 a23 a24 a25 a26 a27 a28 a29 a30 a31 a32 a33 a34 a35 a36 a37 : Nat} : zm_pic c1 c2 (fun k => ([a0, a1, a2, a3, a4, a5, a6, a7, a8, a9, a10, a11, a12, a13, a14, a15, a16, a17, a18, a19, a20, a21, a22, a23, a24, a25, a26, a27, a28, a29, a30, a31, a32, a33, a34, a35, a36, a37] : List Nat).getD k 0) (zm_m0 f) = [(a0, .inr (8, [.ref a1, .ref a2, .ref a5, .ref a6, .ref a8, .ref a13, .ref a15, .ref a16])), (a1, .inr (1, [.int 4, .int 4, .int 16])), (a2, .inr (5, [.ref a1, .ref a3, .ref a4, .int 2])), (a3, .inl (c1, 36, .inl (fun _ => 0))), (a4, .inl (c1, 36, .inl (fun _ => 0))), (a5, .inr (2, [.ref a1, .ref a2])), (a6, .inr (4, [.ref a1, .ref a2, .ref a7])), (a7, .inl (c1, 4, .inl (fun _ => 0))), (a8, .inr (7, [.ref a1, .ref a2, .ref a9, .ref a10, .ref a11, .ref a12, .int 0])), (a9, .inl (c1, 4, .inl (fun _ => 0))), (a10, .inl (c1, 36, .inl f)), (a11, .inl (c1, 288, .inl (fun _ => 0))), (a12, .inl (c2, 288, .inl (fun _ => 0))), (a13, .inr (0, [.ref a1, .ref a14])), (a14, .inl (c2, 36, .inl (fun _ => 0))), (a15, .inr (3, [.ref a1, .ref a2])), (a16, .inr (6, [.ref a1, .ref a2, .ref a17, .ref a18, .ref a19, .ref a20, .int 0, .int 0])), (a17, .inl (c1, 36, .inl (fun _ => 0))), (a18, .inl (c2, 36, .inl (fun _ => 0))), (a19, .inl (c1, 36, .inl (fun _ => 0))), (a20, .inl (c1, 36, .inl (fun _ => 0)))] ++ [(a21, .inr (9, [.int 0, .int 4, .int 4, .int 2, .ref a22, .ref a23, .ref a24, .ref a25, .ref a26, .ref a27, .int 0, .ref a28, .ref a29, .ref a30, .ref a31, .ref a32, .ref a33, .ref a34, .ref a35, .ref a36, .int 0, .ref a37])), (a22, .inl (c1, 36, .inl (fun _ => 0))), (a23, .inl (c1, 36, .inl (fun _ => 0))), (a24, .inl (c1, 36, .inl (fun _ => 0))), (a25, .inl (c1, 36, .inl (fun _ => 0))), (a26, .inl (c1, 4, .inl (fun _ => 0))), (a27, .inl (c1, 4, .inl (fun _ => 0))), (a28, .inl (c2, 288, .inl (fun _ => 0))), (a29, .inl (c1, 288, .inl (fun _ => 0))), (a30, .inl (c2, 36, .inl (fun _ => 0))), (a31, .inl (c1, 4, .inl (fun _ => 0))), (a32, .inl (c1, 36, .inl (fun _ => 0))), (a33, .inl (c1, 36, .inl (fun _ => 0))), (a34, .inl (c1, 36, .inl (fun _ => 0))), (a35, .inl (c2, 36, .inl (fun _ => 0))), (a36, .inl (c1, 36, .inl (fun _ => 0))), (a37, .inl (c1, 10368, .inl (fun _ => 0)))] := rfl
theorem zm_nw0 : ∀ t ∈ zm_NW, Cond.fieldLinkNest t.1 t.2.1 t.2.2.1 t.2.2.2.1 t.2.2.2.2.1 t.2.2.2.2.2 ∈ lw_tbl := by
  have h : (zm_NW.all (fun t => decide (Cond.fieldLinkNest t.1 t.2.1 t.2.2.1 t.2.2.2.1 t.2.2.2.2.1 t.2.2.2.2.2 ∈ lw_tbl))) = true := by decide +kernel
  exact fun t ht => of_decide_eq_true (List.all_eq_true.mp h t ht)
theorem zm_el0 : ∀ j, j < 96 → Cond.eq (Term.elem (Term.static "PaperRepeats$Paints" "ROWS" "[I") (Term.int (Int32.ofNat j))) (Term.int (zm_rows j)) ∈ flatC (Jvm.Cond.and given_1 narrow_1) := by
  have h : ((List.range 96).all (fun j => decide (Cond.eq (Term.elem (Term.static "PaperRepeats$Paints" "ROWS" "[I") (Term.int (Int32.ofNat j))) (Term.int (zm_rows j)) ∈ flatC (Jvm.Cond.and given_1 narrow_1)))) = true := by decide +kernel
  exact fun j hj => of_decide_eq_true (List.all_eq_true.mp h j (List.mem_range.mpr hj))
theorem zm_env0 {args : Array Value} {s : State} (hts : ∀ w ∈ lw_tbl, w.before args s = true) (hgv : (Jvm.Cond.and given_1 narrow_1).before args s = true) : zm_env (fun q : Nat => s.heap.size ≤ q) s s.heap := by
  have htz : ∀ w ∈ zm_tb, w.before args s = true := fun w hw => hts w (List.mem_filter.mp hw).1
  have hs := flat_of_before _ hgv
  have hA : ∀ a : Nat, a < s.heap.size → ¬ (fun q : Nat => s.heap.size ≤ q) a := fun a h => Nat.not_le.mpr h
  refine ⟨fun t ht => va_Nw.of rfl (hts _ (zm_nw0 t ht)), ?_⟩
  obtain ⟨r, h1, h2⟩ := va_Tof (tm := Term.static "PaperRepeats$Paints" "ROWS" "[I") (ty := .int) (N := 96) (f := fun j => .int (zm_rows j)) (A := fun q : Nat => s.heap.size ≤ q) (by decide) (hs _ (by decide +kernel)) (va_eqt (z := 96) (hs _ (by decide +kernel))) (fun j hj => va_eqt (hs _ (zm_el0 j hj))) hA
  exact ⟨r, va_Zref (htz _ ku_533) (htz _ ku_30) h1 hA, h2⟩
theorem zm_arr0 {args : Array Value} {s : State} {ty : FieldType} (hp : ∀ C, ty ≠ .object C) (h : (Cond.arrayClass ty).before args s = true) : ∃ cA, ArrOfT s cA ty ∧ va_RA s cA ty := by
  simp [Cond.before, Cond.holds, Cond.value] at h
  cases hf : s.vm.findClass ("[" ++ ty.toString) with
  | none => rw [hf] at h; simp at h
  | some cA =>
    rw [hf] at h
    simp at h
    obtain ⟨kA, h2, h3⟩ := h
    cases hk : kA.kind with
    | array comp ty2 =>
      rw [hk] at h3
      simp at h3
      subst h3
      refine ⟨cA, fun n z => ⟨fun k h => (by cases h), kA, h2, comp, hk⟩, ?_⟩
      cases ty2 with
      | object C => exact absurd rfl (hp C)
      | _ => exact hf
    | _ => rw [hk] at h3; simp at h3

set_option maxHeartbeats 8000000 in
set_option maxRecDepth 100000 in
/-- THE LAW, from its entry -/
theorem whole_start {p : Program} {e : Env} {s : State} {m : MethodId} {below : List Frame} {meth : Method} {c : Code} (l : Launch) {b L : Nat} {xs : Nat → Int32} (hL : L ≤ 2048) (C0 : lw_At p s m meth c b L xs) : W p l e room_1 s m #[Value.ref b] below meth c s.heap [] 0 0 (lw_Z below #[Value.ref b] s) (entryFrame m ([Value.ref b] : List Value).toArray 4) := by
  obtain ⟨hx, hb, hr, hml, hown, hts0, hX, hbl, hlocks, hgv⟩ := id C0
  have hts : ∀ w ∈ zm_tb, w.before #[Value.ref b] s = true := fun w hw => hts0 w (List.mem_filter.mp hw).1
  have hA : ∀ q : Nat, s.heap.size ≤ q → (fun q : Nat => s.heap.size ≤ q) q := fun _ h => h
  have hE := zm_env0 hts0 hgv
  obtain ⟨c1, r1, r2⟩ := zm_arr0 (ty := .int) (fun _ h => by cases h) (hts _ ku_97)
  obtain ⟨c2, r3, r4⟩ := zm_arr0 (ty := .boolean) (fun _ h => by cases h) (hts _ ku_157)
  obtain ⟨dc0, di0, hKn0⟩ := u_known (C := RX0) (T := TX0) (N := 2) (n := 2) hts hX0 (hts _ ku_159)
  obtain ⟨dc1, di1, hKn1⟩ := u_known (C := RX1) (T := TX1) (N := 3) (n := 3) hts hX1 (hts _ ku_46)
  obtain ⟨dc2, di2, hKn2⟩ := u_known (C := RX2) (T := TX2) (N := 2) (n := 2) hts hX2 (hts _ ku_99)
  obtain ⟨dc3, di3, hKn3⟩ := u_known (C := RX3) (T := TX3) (N := 2) (n := 2) hts hX3 (hts _ ku_172)
  obtain ⟨dc4, di4, hKn4⟩ := u_known (C := RX4) (T := TX4) (N := 3) (n := 3) hts hX4 (hts _ ku_112)
  obtain ⟨dc5, di5, hKn5⟩ := u_known (C := RX5) (T := TX5) (N := 4) (n := 4) hts hX5 (hts _ ku_71)
  obtain ⟨dc6, di6, hKn6⟩ := u_known (C := RX6) (T := TX6) (N := 8) (n := 8) hts hX6 (hts _ ku_185)
  obtain ⟨dc7, di7, hKn7⟩ := u_known (C := RX7) (T := TX7) (N := 7) (n := 7) hts hX7 (hts _ ku_128)
  obtain ⟨dc8, di8, hKn8⟩ := u_known (C := RX8) (T := TX8) (N := 8) (n := 8) hts hX8 (hts _ ku_38)
  obtain ⟨dc9, di9, hKn9⟩ := u_known (C := RX9) (T := TX9) (N := 22) (n := 22) hts hX9 (hts _ ku_762)
  obtain ⟨D, hKc⟩ : ∃ (D : va_G), ∀ (k : Nat) (q : vw_C), zm_classes[k]? = some q → u_Kn s q.1 q.2.1 q.2.2 (D.1 k) (D.2 k) := by
    refine ⟨(fun k => match k with | 0 => dc0 | 1 => dc1 | 2 => dc2 | 3 => dc3 | 4 => dc4 | 5 => dc5 | 6 => dc6 | 7 => dc7 | 8 => dc8 | _ => dc9, fun k => match k with | 0 => di0 | 1 => di1 | 2 => di2 | 3 => di3 | 4 => di4 | 5 => di5 | 6 => di6 | 7 => di7 | 8 => di8 | _ => di9), ?_⟩
    intro k q hq
    match k, hq with
    | 0, hq => cases hq; exact hKn0
    | 1, hq => cases hq; exact hKn1
    | 2, hq => cases hq; exact hKn2
    | 3, hq => cases hq; exact hKn3
    | 4, hq => cases hq; exact hKn4
    | 5, hq => cases hq; exact hKn5
    | 6, hq => cases hq; exact hKn6
    | 7, hq => cases hq; exact hKn7
    | 8, hq => cases hq; exact hKn8
    | 9, hq => cases hq; exact hKn9
    | k + 10, hq => simp [zm_classes] at hq
  have hK : va_K D zm_classes (zm_tys c1 c2) s := ⟨hKc, fun k q h => by
    match k, h with
    | 0, h => cases h; exact ⟨r1, r2⟩
    | 1, h => cases h; exact ⟨r3, r4⟩
    | k + 2, h => simp [zm_tys] at h⟩
  have hS : va_S (fun q : Nat => s.heap.size ≤ q) s.heap s.heap [] := va_S.rf
  have hP : va_P D zm_classes [] s.heap := fun k q h => by simp at h
  have hD : va_D (fun q : Nat => s.heap.size ≤ q) [] := ⟨fun i j p q h => by simp at h, fun k q h => by simp at h⟩
  have hl := lv_entry ([.ref b]) (n := 4) (Nat.le_of_ble_eq_true rfl)
  rw [lg_entry_eq]
  generalize (lg_sl ([.ref b]) ++ List.replicate (4 - (lg_sl ([.ref b])).length) Slot.unset).toArray = ls at hl ⊢
  have hl : lv_has ls 4 [(0, .ref b)] := hl
  refine va_new (ci := 8) (fs := [.null, .null, .null, .null, .null, .null, .null, .null]) (C := RX8) (T := TX8) (N := 8) hx hb hts hX8 tyX8 tyX8_ok hown (hts _ ku_37) (hts _ ku_38) (hts _ ku_26) hK hP hD hS hA rfl (fun j hj => by rcases (show j = 0 ∨ j = 1 ∨ j = 2 ∨ j = 3 ∨ j = 4 ∨ j = 5 ∨ j = 6 ∨ j = 7 by omega) with rfl | rfl | rfl | rfl | rfl | rfl | rfl | rfl <;> rfl) (Nat.le_of_ble_eq_true rfl) (Nat.le_of_ble_eq_true rfl) eL_0 (fun a0 H hP hD hS => ?_)
  have hP : va_P D zm_classes [(a0, .inr (8, [.null, .null, .null, .null, .null, .null, .null, .null]))] H := hP
  have hD : va_D (fun q : Nat => s.heap.size ≤ q) [(a0, .inr (8, [.null, .null, .null, .null, .null, .null, .null, .null]))] := hD
  refine W.widen (k := 1) (n := 8) (by omega) (by omega) ?_
  refine lv_dup hx hb eL_3 rfl ?_
  have hPc := hP.sub (ws' := [(a0, .inr (8, [.null, .null, .null, .null, .null, .null, .null, .null]))]) [0] rfl
  have hDc := hD.sub (ws' := [(a0, .inr (8, [.null, .null, .null, .null, .null, .null, .null, .null]))]) [0] (by decide) rfl
  have hFc := va_free (wc := [(a0, .inr (8, [.null, .null, .null, .null, .null, .null, .null, .null]))]) hD hS hA [0] rfl
  refine va_callv (va_runI (As := []) (rest := [.ref a0]) ⟨hx, hb, hml, hown, hts⟩ (kX8_init l D c1 c2 a0 H.size) (cwI 0 hts (zm_goodI kcX8) rfl rfl rfl (hts _ ku_26) (hts _ ku_39) (hts _ ku_40) rfl (by decide +kernel) ⟨Nat.le_of_ble_eq_true rfl, Nat.le_of_ble_eq_true rfl⟩) ⟨fun a U g mk q => by obtain ⟨q0, q1, qP, qK, qD⟩ := q; exact ⟨q0, q1, qP, va_K.moved (u := U) (U := U.calling g mk a) (Vm.Alike.refl U.vm) qK, qD⟩, fun U hU hW => ⟨rfl, by rw [hU], by rw [hU]; exact hPc, va_K.moved hW.alike hK, hDc.weaken (fun _ _ _ _ => trivial)⟩⟩ rfl rfl hl.1 rfl (lv_room (Nat.le_of_ble_eq_true rfl)) eL_4 ⟨Nat.le_of_ble_eq_true rfl, Nat.le_of_ble_eq_true rfl⟩) hS (fun q _ h => hFc q h) hFc (fun u t H1 locs ht hvm hw hB hz1 hk1 hS => ?_)
  obtain ⟨a1, a2, a3, a4, a5, a6, a7, a8, a9, a10, a11, a12, a13, a14, a15, a16, a17, a18, a19, a20, f, hf, hP1, hK1, hD1⟩ := hB
  rw [ht] at hP1
  obtain ⟨hP, hD⟩ := va_join (wr := []) (w1 := [(a0, .inr (8, [.ref a1, .ref a2, .ref a5, .ref a6, .ref a8, .ref a13, .ref a15, .ref a16])), (a1, .inr (1, [.int 4, .int 4, .int 16])), (a2, .inr (5, [.ref a1, .ref a3, .ref a4, .int 2])), (a3, .inl (c1, 36, .inl (fun _ => 0))), (a4, .inl (c1, 36, .inl (fun _ => 0))), (a5, .inr (2, [.ref a1, .ref a2])), (a6, .inr (4, [.ref a1, .ref a2, .ref a7])), (a7, .inl (c1, 4, .inl (fun _ => 0))), (a8, .inr (7, [.ref a1, .ref a2, .ref a9, .ref a10, .ref a11, .ref a12, .int 0])), (a9, .inl (c1, 4, .inl (fun _ => 0))), (a10, .inl (c1, 36, .inl f)), (a11, .inl (c1, 288, .inl (fun _ => 0))), (a12, .inl (c2, 288, .inl (fun _ => 0))), (a13, .inr (0, [.ref a1, .ref a14])), (a14, .inl (c2, 36, .inl (fun _ => 0))), (a15, .inr (3, [.ref a1, .ref a2])), (a16, .inr (6, [.ref a1, .ref a2, .ref a17, .ref a18, .ref a19, .ref a20, .int 0, .int 0])), (a17, .inl (c1, 36, .inl (fun _ => 0))), (a18, .inl (c2, 36, .inl (fun _ => 0))), (a19, .inl (c1, 36, .inl (fun _ => 0))), (a20, .inl (c1, 36, .inl (fun _ => 0)))]) hP hD [0] [] rfl rfl (by decide) (by decide) hk1 hFc hP1 hD1
  generalize H1 = H at hP hS ⊢
  have hP : va_P D zm_classes [(a0, .inr (8, [.ref a1, .ref a2, .ref a5, .ref a6, .ref a8, .ref a13, .ref a15, .ref a16])), (a1, .inr (1, [.int 4, .int 4, .int 16])), (a2, .inr (5, [.ref a1, .ref a3, .ref a4, .int 2])), (a3, .inl (c1, 36, .inl (fun _ => 0))), (a4, .inl (c1, 36, .inl (fun _ => 0))), (a5, .inr (2, [.ref a1, .ref a2])), (a6, .inr (4, [.ref a1, .ref a2, .ref a7])), (a7, .inl (c1, 4, .inl (fun _ => 0))), (a8, .inr (7, [.ref a1, .ref a2, .ref a9, .ref a10, .ref a11, .ref a12, .int 0])), (a9, .inl (c1, 4, .inl (fun _ => 0))), (a10, .inl (c1, 36, .inl f)), (a11, .inl (c1, 288, .inl (fun _ => 0))), (a12, .inl (c2, 288, .inl (fun _ => 0))), (a13, .inr (0, [.ref a1, .ref a14])), (a14, .inl (c2, 36, .inl (fun _ => 0))), (a15, .inr (3, [.ref a1, .ref a2])), (a16, .inr (6, [.ref a1, .ref a2, .ref a17, .ref a18, .ref a19, .ref a20, .int 0, .int 0])), (a17, .inl (c1, 36, .inl (fun _ => 0))), (a18, .inl (c2, 36, .inl (fun _ => 0))), (a19, .inl (c1, 36, .inl (fun _ => 0))), (a20, .inl (c1, 36, .inl (fun _ => 0)))] H := hP
  have hD : va_D (fun q : Nat => s.heap.size ≤ q) [(a0, .inr (8, [.ref a1, .ref a2, .ref a5, .ref a6, .ref a8, .ref a13, .ref a15, .ref a16])), (a1, .inr (1, [.int 4, .int 4, .int 16])), (a2, .inr (5, [.ref a1, .ref a3, .ref a4, .int 2])), (a3, .inl (c1, 36, .inl (fun _ => 0))), (a4, .inl (c1, 36, .inl (fun _ => 0))), (a5, .inr (2, [.ref a1, .ref a2])), (a6, .inr (4, [.ref a1, .ref a2, .ref a7])), (a7, .inl (c1, 4, .inl (fun _ => 0))), (a8, .inr (7, [.ref a1, .ref a2, .ref a9, .ref a10, .ref a11, .ref a12, .int 0])), (a9, .inl (c1, 4, .inl (fun _ => 0))), (a10, .inl (c1, 36, .inl f)), (a11, .inl (c1, 288, .inl (fun _ => 0))), (a12, .inl (c2, 288, .inl (fun _ => 0))), (a13, .inr (0, [.ref a1, .ref a14])), (a14, .inl (c2, 36, .inl (fun _ => 0))), (a15, .inr (3, [.ref a1, .ref a2])), (a16, .inr (6, [.ref a1, .ref a2, .ref a17, .ref a18, .ref a19, .ref a20, .int 0, .int 0])), (a17, .inl (c1, 36, .inl (fun _ => 0))), (a18, .inl (c2, 36, .inl (fun _ => 0))), (a19, .inl (c1, 36, .inl (fun _ => 0))), (a20, .inl (c1, 36, .inl (fun _ => 0)))] := hD
  refine W.widen (k := 21) (n := 911) (by omega) (by omega) ?_
  refine lv_astore_n (lv' := [(1, .ref a0), (0, .ref b)]) hx hb eL_7 rfl hl (by decide) rfl (fun ls hl => ?_)
  refine va_new (ci := 9) (fs := [.int 0, .int 0, .int 0, .int 0, .null, .null, .null, .null, .null, .null, .int 0, .null, .null, .null, .null, .null, .null, .null, .null, .null, .int 0, .null]) (C := RX9) (T := TX9) (N := 22) hx hb hts hX9 tyX9 tyX9_ok hown (hts _ ku_761) (hts _ ku_762) (hts _ ku_35) hK hP hD hS hA rfl (fun j hj => by rcases (show j = 0 ∨ j = 1 ∨ j = 2 ∨ j = 3 ∨ j = 4 ∨ j = 5 ∨ j = 6 ∨ j = 7 ∨ j = 8 ∨ j = 9 ∨ j = 10 ∨ j = 11 ∨ j = 12 ∨ j = 13 ∨ j = 14 ∨ j = 15 ∨ j = 16 ∨ j = 17 ∨ j = 18 ∨ j = 19 ∨ j = 20 ∨ j = 21 by omega) with rfl | rfl | rfl | rfl | rfl | rfl | rfl | rfl | rfl | rfl | rfl | rfl | rfl | rfl | rfl | rfl | rfl | rfl | rfl | rfl | rfl | rfl <;> rfl) (Nat.le_of_ble_eq_true rfl) (Nat.le_of_ble_eq_true rfl) eL_8 (fun a21 H hP hD hS => ?_)
  have hP : va_P D zm_classes [(a0, .inr (8, [.ref a1, .ref a2, .ref a5, .ref a6, .ref a8, .ref a13, .ref a15, .ref a16])), (a1, .inr (1, [.int 4, .int 4, .int 16])), (a2, .inr (5, [.ref a1, .ref a3, .ref a4, .int 2])), (a3, .inl (c1, 36, .inl (fun _ => 0))), (a4, .inl (c1, 36, .inl (fun _ => 0))), (a5, .inr (2, [.ref a1, .ref a2])), (a6, .inr (4, [.ref a1, .ref a2, .ref a7])), (a7, .inl (c1, 4, .inl (fun _ => 0))), (a8, .inr (7, [.ref a1, .ref a2, .ref a9, .ref a10, .ref a11, .ref a12, .int 0])), (a9, .inl (c1, 4, .inl (fun _ => 0))), (a10, .inl (c1, 36, .inl f)), (a11, .inl (c1, 288, .inl (fun _ => 0))), (a12, .inl (c2, 288, .inl (fun _ => 0))), (a13, .inr (0, [.ref a1, .ref a14])), (a14, .inl (c2, 36, .inl (fun _ => 0))), (a15, .inr (3, [.ref a1, .ref a2])), (a16, .inr (6, [.ref a1, .ref a2, .ref a17, .ref a18, .ref a19, .ref a20, .int 0, .int 0])), (a17, .inl (c1, 36, .inl (fun _ => 0))), (a18, .inl (c2, 36, .inl (fun _ => 0))), (a19, .inl (c1, 36, .inl (fun _ => 0))), (a20, .inl (c1, 36, .inl (fun _ => 0))), (a21, .inr (9, [.int 0, .int 0, .int 0, .int 0, .null, .null, .null, .null, .null, .null, .int 0, .null, .null, .null, .null, .null, .null, .null, .null, .null, .int 0, .null]))] H := hP
  have hD : va_D (fun q : Nat => s.heap.size ≤ q) [(a0, .inr (8, [.ref a1, .ref a2, .ref a5, .ref a6, .ref a8, .ref a13, .ref a15, .ref a16])), (a1, .inr (1, [.int 4, .int 4, .int 16])), (a2, .inr (5, [.ref a1, .ref a3, .ref a4, .int 2])), (a3, .inl (c1, 36, .inl (fun _ => 0))), (a4, .inl (c1, 36, .inl (fun _ => 0))), (a5, .inr (2, [.ref a1, .ref a2])), (a6, .inr (4, [.ref a1, .ref a2, .ref a7])), (a7, .inl (c1, 4, .inl (fun _ => 0))), (a8, .inr (7, [.ref a1, .ref a2, .ref a9, .ref a10, .ref a11, .ref a12, .int 0])), (a9, .inl (c1, 4, .inl (fun _ => 0))), (a10, .inl (c1, 36, .inl f)), (a11, .inl (c1, 288, .inl (fun _ => 0))), (a12, .inl (c2, 288, .inl (fun _ => 0))), (a13, .inr (0, [.ref a1, .ref a14])), (a14, .inl (c2, 36, .inl (fun _ => 0))), (a15, .inr (3, [.ref a1, .ref a2])), (a16, .inr (6, [.ref a1, .ref a2, .ref a17, .ref a18, .ref a19, .ref a20, .int 0, .int 0])), (a17, .inl (c1, 36, .inl (fun _ => 0))), (a18, .inl (c2, 36, .inl (fun _ => 0))), (a19, .inl (c1, 36, .inl (fun _ => 0))), (a20, .inl (c1, 36, .inl (fun _ => 0))), (a21, .inr (9, [.int 0, .int 0, .int 0, .int 0, .null, .null, .null, .null, .null, .null, .int 0, .null, .null, .null, .null, .null, .null, .null, .null, .null, .int 0, .null]))] := hD
  refine W.widen (k := 22) (n := 933) (by omega) (by omega) ?_
  refine lv_dup hx hb eL_11 rfl ?_
  have hPc := hP.sub (ws' := [(a21, .inr (9, [.int 0, .int 0, .int 0, .int 0, .null, .null, .null, .null, .null, .null, .int 0, .null, .null, .null, .null, .null, .null, .null, .null, .null, .int 0, .null]))]) [21] rfl
  have hDc := hD.sub (ws' := [(a21, .inr (9, [.int 0, .int 0, .int 0, .int 0, .null, .null, .null, .null, .null, .null, .int 0, .null, .null, .null, .null, .null, .null, .null, .null, .null, .int 0, .null]))]) [21] (by decide) rfl
  have hFc := va_free (wc := [(a21, .inr (9, [.int 0, .int 0, .int 0, .int 0, .null, .null, .null, .null, .null, .null, .int 0, .null, .null, .null, .null, .null, .null, .null, .null, .null, .int 0, .null]))]) hD hS hA [21] rfl
  refine va_callv (va_runI (As := []) (rest := [.ref a21]) ⟨hx, hb, hml, hown, hts⟩ (kX9_init l D c1 c2 a21 H.size) (cwI 0 hts (zm_goodI kcX9) rfl rfl rfl (hts _ ku_35) (hts _ ku_763) (hts _ ku_764) rfl (by decide +kernel) ⟨Nat.le_of_ble_eq_true rfl, Nat.le_of_ble_eq_true rfl⟩) ⟨fun a U g mk q => by obtain ⟨q0, q1, qP, qK, qD⟩ := q; exact ⟨q0, q1, qP, va_K.moved (u := U) (U := U.calling g mk a) (Vm.Alike.refl U.vm) qK, qD⟩, fun U hU hW => ⟨rfl, by rw [hU], by rw [hU]; exact hPc, va_K.moved hW.alike hK, hDc.weaken (fun _ _ _ _ => trivial)⟩⟩ rfl rfl hl.1 rfl (lv_room (Nat.le_of_ble_eq_true rfl)) eL_12 ⟨Nat.le_of_ble_eq_true rfl, Nat.le_of_ble_eq_true rfl⟩) hS (fun q _ h => hFc q h) hFc (fun u t H1 locs ht hvm hw hB hz1 hk1 hS => ?_)
  obtain ⟨a22, a23, a24, a25, a26, a27, a28, a29, a30, a31, a32, a33, a34, a35, a36, a37, hP1, hK1, hD1⟩ := hB
  rw [ht] at hP1
  obtain ⟨hP, hD⟩ := va_join (wr := [(a0, .inr (8, [.ref a1, .ref a2, .ref a5, .ref a6, .ref a8, .ref a13, .ref a15, .ref a16])), (a1, .inr (1, [.int 4, .int 4, .int 16])), (a2, .inr (5, [.ref a1, .ref a3, .ref a4, .int 2])), (a3, .inl (c1, 36, .inl (fun _ => 0))), (a4, .inl (c1, 36, .inl (fun _ => 0))), (a5, .inr (2, [.ref a1, .ref a2])), (a6, .inr (4, [.ref a1, .ref a2, .ref a7])), (a7, .inl (c1, 4, .inl (fun _ => 0))), (a8, .inr (7, [.ref a1, .ref a2, .ref a9, .ref a10, .ref a11, .ref a12, .int 0])), (a9, .inl (c1, 4, .inl (fun _ => 0))), (a10, .inl (c1, 36, .inl f)), (a11, .inl (c1, 288, .inl (fun _ => 0))), (a12, .inl (c2, 288, .inl (fun _ => 0))), (a13, .inr (0, [.ref a1, .ref a14])), (a14, .inl (c2, 36, .inl (fun _ => 0))), (a15, .inr (3, [.ref a1, .ref a2])), (a16, .inr (6, [.ref a1, .ref a2, .ref a17, .ref a18, .ref a19, .ref a20, .int 0, .int 0])), (a17, .inl (c1, 36, .inl (fun _ => 0))), (a18, .inl (c2, 36, .inl (fun _ => 0))), (a19, .inl (c1, 36, .inl (fun _ => 0))), (a20, .inl (c1, 36, .inl (fun _ => 0)))]) (w1 := [(a21, .inr (9, [.int 0, .int 4, .int 4, .int 2, .ref a22, .ref a23, .ref a24, .ref a25, .ref a26, .ref a27, .int 0, .ref a28, .ref a29, .ref a30, .ref a31, .ref a32, .ref a33, .ref a34, .ref a35, .ref a36, .int 0, .ref a37])), (a22, .inl (c1, 36, .inl (fun _ => 0))), (a23, .inl (c1, 36, .inl (fun _ => 0))), (a24, .inl (c1, 36, .inl (fun _ => 0))), (a25, .inl (c1, 36, .inl (fun _ => 0))), (a26, .inl (c1, 4, .inl (fun _ => 0))), (a27, .inl (c1, 4, .inl (fun _ => 0))), (a28, .inl (c2, 288, .inl (fun _ => 0))), (a29, .inl (c1, 288, .inl (fun _ => 0))), (a30, .inl (c2, 36, .inl (fun _ => 0))), (a31, .inl (c1, 4, .inl (fun _ => 0))), (a32, .inl (c1, 36, .inl (fun _ => 0))), (a33, .inl (c1, 36, .inl (fun _ => 0))), (a34, .inl (c1, 36, .inl (fun _ => 0))), (a35, .inl (c2, 36, .inl (fun _ => 0))), (a36, .inl (c1, 36, .inl (fun _ => 0))), (a37, .inl (c1, 10368, .inl (fun _ => 0)))]) hP hD [21] [0, 1, 2, 3, 4, 5, 6, 7, 8, 9, 10, 11, 12, 13, 14, 15, 16, 17, 18, 19, 20] rfl rfl (by decide) (by decide) hk1 hFc hP1 hD1
  generalize H1 = H at hP hS ⊢
  have hP : va_P D zm_classes [(a0, .inr (8, [.ref a1, .ref a2, .ref a5, .ref a6, .ref a8, .ref a13, .ref a15, .ref a16])), (a1, .inr (1, [.int 4, .int 4, .int 16])), (a2, .inr (5, [.ref a1, .ref a3, .ref a4, .int 2])), (a3, .inl (c1, 36, .inl (fun _ => 0))), (a4, .inl (c1, 36, .inl (fun _ => 0))), (a5, .inr (2, [.ref a1, .ref a2])), (a6, .inr (4, [.ref a1, .ref a2, .ref a7])), (a7, .inl (c1, 4, .inl (fun _ => 0))), (a8, .inr (7, [.ref a1, .ref a2, .ref a9, .ref a10, .ref a11, .ref a12, .int 0])), (a9, .inl (c1, 4, .inl (fun _ => 0))), (a10, .inl (c1, 36, .inl f)), (a11, .inl (c1, 288, .inl (fun _ => 0))), (a12, .inl (c2, 288, .inl (fun _ => 0))), (a13, .inr (0, [.ref a1, .ref a14])), (a14, .inl (c2, 36, .inl (fun _ => 0))), (a15, .inr (3, [.ref a1, .ref a2])), (a16, .inr (6, [.ref a1, .ref a2, .ref a17, .ref a18, .ref a19, .ref a20, .int 0, .int 0])), (a17, .inl (c1, 36, .inl (fun _ => 0))), (a18, .inl (c2, 36, .inl (fun _ => 0))), (a19, .inl (c1, 36, .inl (fun _ => 0))), (a20, .inl (c1, 36, .inl (fun _ => 0))), (a21, .inr (9, [.int 0, .int 4, .int 4, .int 2, .ref a22, .ref a23, .ref a24, .ref a25, .ref a26, .ref a27, .int 0, .ref a28, .ref a29, .ref a30, .ref a31, .ref a32, .ref a33, .ref a34, .ref a35, .ref a36, .int 0, .ref a37])), (a22, .inl (c1, 36, .inl (fun _ => 0))), (a23, .inl (c1, 36, .inl (fun _ => 0))), (a24, .inl (c1, 36, .inl (fun _ => 0))), (a25, .inl (c1, 36, .inl (fun _ => 0))), (a26, .inl (c1, 4, .inl (fun _ => 0))), (a27, .inl (c1, 4, .inl (fun _ => 0))), (a28, .inl (c2, 288, .inl (fun _ => 0))), (a29, .inl (c1, 288, .inl (fun _ => 0))), (a30, .inl (c2, 36, .inl (fun _ => 0))), (a31, .inl (c1, 4, .inl (fun _ => 0))), (a32, .inl (c1, 36, .inl (fun _ => 0))), (a33, .inl (c1, 36, .inl (fun _ => 0))), (a34, .inl (c1, 36, .inl (fun _ => 0))), (a35, .inl (c2, 36, .inl (fun _ => 0))), (a36, .inl (c1, 36, .inl (fun _ => 0))), (a37, .inl (c1, 10368, .inl (fun _ => 0)))] H := hP
  have hD : va_D (fun q : Nat => s.heap.size ≤ q) [(a0, .inr (8, [.ref a1, .ref a2, .ref a5, .ref a6, .ref a8, .ref a13, .ref a15, .ref a16])), (a1, .inr (1, [.int 4, .int 4, .int 16])), (a2, .inr (5, [.ref a1, .ref a3, .ref a4, .int 2])), (a3, .inl (c1, 36, .inl (fun _ => 0))), (a4, .inl (c1, 36, .inl (fun _ => 0))), (a5, .inr (2, [.ref a1, .ref a2])), (a6, .inr (4, [.ref a1, .ref a2, .ref a7])), (a7, .inl (c1, 4, .inl (fun _ => 0))), (a8, .inr (7, [.ref a1, .ref a2, .ref a9, .ref a10, .ref a11, .ref a12, .int 0])), (a9, .inl (c1, 4, .inl (fun _ => 0))), (a10, .inl (c1, 36, .inl f)), (a11, .inl (c1, 288, .inl (fun _ => 0))), (a12, .inl (c2, 288, .inl (fun _ => 0))), (a13, .inr (0, [.ref a1, .ref a14])), (a14, .inl (c2, 36, .inl (fun _ => 0))), (a15, .inr (3, [.ref a1, .ref a2])), (a16, .inr (6, [.ref a1, .ref a2, .ref a17, .ref a18, .ref a19, .ref a20, .int 0, .int 0])), (a17, .inl (c1, 36, .inl (fun _ => 0))), (a18, .inl (c2, 36, .inl (fun _ => 0))), (a19, .inl (c1, 36, .inl (fun _ => 0))), (a20, .inl (c1, 36, .inl (fun _ => 0))), (a21, .inr (9, [.int 0, .int 4, .int 4, .int 2, .ref a22, .ref a23, .ref a24, .ref a25, .ref a26, .ref a27, .int 0, .ref a28, .ref a29, .ref a30, .ref a31, .ref a32, .ref a33, .ref a34, .ref a35, .ref a36, .int 0, .ref a37])), (a22, .inl (c1, 36, .inl (fun _ => 0))), (a23, .inl (c1, 36, .inl (fun _ => 0))), (a24, .inl (c1, 36, .inl (fun _ => 0))), (a25, .inl (c1, 36, .inl (fun _ => 0))), (a26, .inl (c1, 4, .inl (fun _ => 0))), (a27, .inl (c1, 4, .inl (fun _ => 0))), (a28, .inl (c2, 288, .inl (fun _ => 0))), (a29, .inl (c1, 288, .inl (fun _ => 0))), (a30, .inl (c2, 36, .inl (fun _ => 0))), (a31, .inl (c1, 4, .inl (fun _ => 0))), (a32, .inl (c1, 36, .inl (fun _ => 0))), (a33, .inl (c1, 36, .inl (fun _ => 0))), (a34, .inl (c1, 36, .inl (fun _ => 0))), (a35, .inl (c2, 36, .inl (fun _ => 0))), (a36, .inl (c1, 36, .inl (fun _ => 0))), (a37, .inl (c1, 10368, .inl (fun _ => 0)))] := hD
  refine W.widen (k := 38) (n := 12249) (by omega) (by omega) ?_
  refine lv_astore_n (lv' := [(2, .ref a21), (1, .ref a0), (0, .ref b)]) hx hb eL_15 rfl hl (by decide) rfl (fun ls hl => ?_)
  refine lv_iconst (v := 0) hx hb eL_16 (by decide) ?_
  refine lv_istore_n (lv' := [(3, .int 0), (2, .ref a21), (1, .ref a0), (0, .ref b)]) hx hb eL_17 rfl hl (by decide) rfl (fun ls hl => ?_)
  have C : zl_At p s m meth c b L xs D c1 c2 := ⟨⟨hx, hb, hr, hlocks, hml, hown, hts, hK, hA, hE⟩, hX, hbl⟩
  have hpic := zm_pic0 (c1 := c1) (c2 := c2) (f := f) (a0 := a0) (a1 := a1) (a2 := a2) (a3 := a3) (a4 := a4) (a5 := a5) (a6 := a6) (a7 := a7) (a8 := a8) (a9 := a9) (a10 := a10) (a11 := a11) (a12 := a12) (a13 := a13) (a14 := a14) (a15 := a15) (a16 := a16) (a17 := a17) (a18 := a18) (a19 := a19) (a20 := a20) (a21 := a21) (a22 := a22) (a23 := a23) (a24 := a24) (a25 := a25) (a26 := a26) (a27 := a27) (a28 := a28) (a29 := a29) (a30 := a30) (a31 := a31) (a32 := a32) (a33 := a33) (a34 := a34) (a35 := a35) (a36 := a36) (a37 := a37)
  exact zl_loop C hL L 0 (zm_m0 f) (by omega) (by omega) (zm_m0_inv hf) _ _ ls ⟨by rw [hpic]; exact hP, by rw [hpic]; exact hD, hS⟩ (lv_sub hl [3, 2, 1, 0] rfl)
