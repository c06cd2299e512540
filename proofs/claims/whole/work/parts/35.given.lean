/-! PAINTS: the table of the class -/
def zfac : Nat → Nat
  | 0 => 1
  | n + 1 => zfac n * (n + 1)
/-- what paint p gives colour c, of k colours -/
def zpt (k p c : Nat) : Nat := (zm_rows (4 * p + (4 - k) + c)).toNatClampNeg - (4 - k)
theorem zpt_all : ∀ k : Fin 5, ∀ p : Fin 24, ∀ c : Fin 4, 1 ≤ k.val → p.val < zfac k.val → c.val < k.val → zm_rows (4 * p.val + (4 - k.val) + c.val) - nI (4 - k.val) = nI (zpt k.val p.val c.val) ∧ zpt k.val p.val c.val < k.val ∧ 4 * p.val + (4 - k.val) + c.val < 96 := by decide +kernel
theorem zfac_le {k : Nat} (h : k ≤ 4) : zfac k ≤ 24 := by
  have := (by decide : ∀ k : Fin 5, zfac k.val ≤ 24) ⟨k, by omega⟩
  exact this
theorem zfac_pos {k : Nat} (h : k ≤ 4) : 1 ≤ zfac k := by
  have := (by decide : ∀ k : Fin 5, 1 ≤ zfac k.val) ⟨k, by omega⟩
  exact this
theorem zpt_at {k p c : Nat} (h1 : 1 ≤ k) (h4 : k ≤ 4) (hp : p < zfac k) (hc : c < k) : zm_rows (4 * p + (4 - k) + c) - nI (4 - k) = nI (zpt k p c) ∧ zpt k p c < k ∧ 4 * p + (4 - k) + c < 96 := by
  have h5 := zfac_le h4
  exact zpt_all ⟨k, by omega⟩ ⟨p, by omega⟩ ⟨c, by omega⟩ h1 hp hc
theorem fkX4_33 : Cond.fieldLink RX4 33 RX4 "ROWS" "[I" ∈ zm_tb := zm_tb_in 532 (by decide +kernel) (by decide +kernel)
theorem q_given {k p c : Nat} {mem : zm_Mem} {post : zm_Post} (hk : mem 2 3 = nI k) (h1 : 1 ≤ k) (h4 : k ≤ 4) (hp : p < zfac k) (hc : c < k) (kk : post (nI (zpt k p c)) 0 mem) : zm_Call gX4_given [.ref 6, .int (nI p), .int (nI c)] mem post := by
  obtain ⟨e1, e2, e3⟩ := zpt_at h1 h4 hp hc
  refine z_entry (by decide +kernel) (Nat.le_of_ble_eq_true rfl) ?_
  show zm_Z gX4_given post 0 [(0, .ref 6), (1, .int (nI p)), (2, .int (nI c))] [] mem
  refine z_iconst dX4_given_0 (v := 4) rfl ?_
  refine z_aload_n dX4_given_1 rfl 0 rfl ?_
  refine z_getr (ci := 4) (j := 1) rfl rfl hX4 rfl (by decide) fkX4_19 dX4_given_2 ?_
  refine z_getiN (ci := 5) (j := 3) rfl rfl hX5 rfl (by decide) fkX4_23 dX4_given_5 ?_
  refine z_isub dX4_given_8 ?_
  rw [hk, show (4 : Int32) - nI k = nI (4 - k) from pk_sub (a := 4) (b := k) (by omega)]
  refine z_istore_n dX4_given_9 rfl (by decide) rfl ?_
  intro p' l e s m args below meth cc D c1 c2 ad A C H locs ls Dy hl
  obtain ⟨r, z1, z2⟩ := C.2.2.2.2.2.2.2.2.2.2
  refine va_gets C.1 C.2.1 z1 Dy.2.2 C.2.2.2.2.2.1 (C.2.2.2.2.2.2.1 _ fkX4_33) (fun _ h9 => h9) dX4_given_10 ?_
  refine lv_iload_n C.1 C.2.1 dX4_given_13 rfl (zm_lv_at hl (j := 2) rfl) ?_
  refine lv_iconst C.1 C.2.1 dX4_given_14 (v := 4) rfl ?_
  refine lv_imul C.1 C.2.1 dX4_given_15 ?_
  refine lv_iload_n C.1 C.2.1 dX4_given_16 rfl (zm_lv_at hl (j := 0) rfl) ?_
  refine lv_iadd C.1 C.2.1 dX4_given_17 ?_
  refine lv_iload_n C.1 C.2.1 dX4_given_18 rfl (zm_lv_at hl (j := 3) rfl) ?_
  refine lv_iadd C.1 C.2.1 dX4_given_19 ?_
  have ei : nI p * 4 + nI (4 - k) + nI c = nI (4 * p + (4 - k) + c) := by
    rw [show (4 : Int32) = nI 4 from rfl, pk_mul, nI_add, nI_add, Nat.mul_comm p 4]
  rw [ei]
  refine va_ti C.1 C.2.1 z2 Dy.2.2 (pk_in _ 96 (by omega)) (v := .int (zm_rows (4 * p + (4 - k) + c))) (by rw [nI_clamp (by omega)]) dX4_given_20 ?_
  have fin : zm_Z gX4_given post 21 [(3, .int (nI (4 - k))), (0, .ref 6), (1, .int (nI p)), (2, .int (nI c))] [.int (zm_rows (4 * p + (4 - k) + c))] mem := by
    refine z_iload_n dX4_given_21 rfl 0 rfl ?_
    refine z_isub dX4_given_22 ?_
    rw [e1]
    exact z_iret rfl dX4_given_23 kk
  exact fin p' l e s m args below meth cc D c1 c2 ad A C H locs ls Dy hl
