/-! the geometry of the patch: turns, cells of prints, where a move leads -/
def zt_x (t : Nat) (x y : Int) : Int := match t with
  | 1 => -y
  | 2 => -x
  | 3 => y
  | 4 => -x
  | 6 => y
  | 7 => -y
  | _ => x
def zt_y (t : Nat) (x y : Int) : Int := match t with
  | 1 => x
  | 2 => -y
  | 3 => -x
  | 5 => -y
  | 6 => x
  | 7 => -x
  | _ => y
def zt_ca (w h : Nat) (X Y : Int) : Nat := (Y % (h : Int)).toNat * w + (X % (w : Int)).toNat
def zt (w h n m c : Nat) : Nat := zt_ca w h (zt_x (m / n) ((c % w : Nat) : Int) ((c / w : Nat) : Int) + ((m % n % w : Nat) : Int)) (zt_y (m / n) ((c % w : Nat) : Int) ((c / w : Nat) : Int) + ((m % n / w : Nat) : Int))
def zt_trn (w h t : Nat) : Bool := decide (w = h) || decide (t = 0) || decide (t = 2) || decide (t = 4) || decide (t = 5)
def zt_mv (w h n m : Nat) : Bool := decide (m < 8 * n) && zt_trn w h (m / n)
def zt_isC (n : Nat) (x : Int32) : Bool := decide (0 ≤ x.toInt) && decide (x.toInt < n)
def zt_isM (w h n : Nat) (x : Int32) : Bool := decide (0 ≤ x.toInt) && zt_mv w h n x.toInt.toNat
def zG (w h n : Nat) : Prop := 1 ≤ w ∧ w ≤ 6 ∧ 1 ≤ h ∧ h ≤ 6 ∧ n = w * h ∧ 1 ≤ n ∧ n ≤ 36
def zC (w h n : Nat) (mem : zm_Mem) : Prop := mem 1 0 = nI w ∧ mem 1 1 = nI h ∧ mem 1 2 = nI n
def zM (w h : Nat) (mem : zm_Mem) : Prop := mem 21 1 = nI w ∧ mem 21 2 = nI h
theorem zG.of {w h : Nat} (h1 : 1 ≤ w) (h2 : w ≤ 6) (h3 : 1 ≤ h) (h4 : h ≤ 6) : zG w h (w * h) := ⟨h1, h2, h3, h4, rfl, Nat.mul_pos h1 h3, Nat.le_trans (Nat.mul_le_mul h2 h4) (by decide)⟩
theorem zt_x_bd {t : Nat} {x y : Int} {b : Int} (hx : -b ≤ x ∧ x ≤ b) (hy : -b ≤ y ∧ y ≤ b) : -b ≤ zt_x t x y ∧ zt_x t x y ≤ b := by
  unfold zt_x; split <;> omega
theorem zt_y_bd {t : Nat} {x y : Int} {b : Int} (hx : -b ≤ x ∧ x ≤ b) (hy : -b ≤ y ∧ y ≤ b) : -b ≤ zt_y t x y ∧ zt_y t x y ≤ b := by
  unfold zt_y; split <;> omega
theorem zt_ca_lt {w h n : Nat} (G : zG w h n) (X Y : Int) : zt_ca w h X Y < n := by
  obtain ⟨h1, h2, h3, h4, h5, h6, h7⟩ := G
  have a1 := Int.emod_nonneg X (show (w : Int) ≠ 0 by omega)
  have a2 := Int.emod_lt_of_pos X (show (0 : Int) < w by omega)
  have a3 := Int.emod_nonneg Y (show (h : Int) ≠ 0 by omega)
  have a4 := Int.emod_lt_of_pos Y (show (0 : Int) < h by omega)
  unfold zt_ca
  have b1 : (X % (w : Int)).toNat < w := by omega
  have b2 : (Y % (h : Int)).toNat + 1 ≤ h := by omega
  calc _ < (Y % (h : Int)).toNat * w + w := by omega
    _ = ((Y % (h : Int)).toNat + 1) * w := by rw [Nat.succ_mul]
    _ ≤ h * w := Nat.mul_le_mul_right w b2
    _ = n := by rw [h5, Nat.mul_comm]
theorem zt_lt {w h n : Nat} (G : zG w h n) (m c : Nat) : zt w h n m c < n := zt_ca_lt G _ _
theorem zt_row {w h n c : Nat} (G : zG w h n) (hc : c < n) : c / w < h := by
  obtain ⟨h1, h2, h3, h4, h5, h6, h7⟩ := G
  rw [Nat.div_lt_iff_lt_mul (by omega), Nat.mul_comm]
  omega
theorem zt_div {n m : Nat} (hm : m < 8 * n) : m / n < 8 := by
  rw [Nat.div_lt_iff_lt_mul (by omega)]
  omega
section ZGRID
variable {w h n : Nat} {mem : zm_Mem} {post : zm_Post}
theorem q_numbers (C : zC w h n mem) (k : post (nI (8 * n)) 0 mem) : zm_Call gX1_numbers [.ref 1] mem post := by
  refine bX1_numbers_0 _ _ ?_
  rw [C.2.2, show (8 : Int32) = nI 8 from rfl, pk_mul]
  exact k
theorem q_moveCount (G : zG w h n) (C : zC w h n mem) (k : post (nI (if w = h then 8 * n else 4 * n)) 0 mem) : zm_Call gX1_moveCount [.ref 1] mem post := by
  obtain ⟨h1, h2, h3, h4, h5, h6, h7⟩ := G
  refine bX1_moveCount_0 _ _ ?_
  rw [C.1, C.2.1, C.2.2, show (8 : Int32) = nI 8 from rfl, show (4 : Int32) = nI 4 from rfl, pk_mul, pk_mul]
  refine zn_ne w h (fun e => ?_) (fun e => ?_)
  · rw [if_neg e] at k; exact k
  · rw [if_pos e] at k; exact k
theorem q_turnOf (G : zG w h n) (C : zC w h n mem) {m : Nat} (hm : m < 8 * n) (k : post (nI (m / n)) 0 mem) : zm_Call gX1_turnOf [.ref 1, .int (nI m)] mem post := by
  obtain ⟨h1, h2, h3, h4, h5, h6, h7⟩ := G
  refine bX1_turnOf_0 _ _ _ ?_
  rw [C.2.2]
  refine pk_le 1 n (fun _ => ⟨nI_ne0 h6 (by omega), ?_⟩) (fun z => by omega)
  rw [pk_div (by omega) h6 (by omega)]
  exact k
theorem q_shiftOf (G : zG w h n) (C : zC w h n mem) {m : Nat} (hm : m < 8 * n) (k : post (nI (m % n)) 0 mem) : zm_Call gX1_shiftOf [.ref 1, .int (nI m)] mem post := by
  obtain ⟨h1, h2, h3, h4, h5, h6, h7⟩ := G
  refine bX1_shiftOf_0 _ _ _ ?_
  rw [C.2.2]
  refine pk_le 1 n (fun _ => ⟨nI_ne0 h6 (by omega), ?_⟩) (fun z => by omega)
  rw [pk_rem (by omega) h6 (by omega)]
  exact k
theorem q_columnOf (G : zG w h n) (C : zC w h n mem) {c : Nat} (hc : c < 36) (k : post (nI (c % w)) 0 mem) : zm_Call gX1_columnOf [.ref 1, .int (nI c)] mem post := by
  obtain ⟨h1, h2, h3, h4, h5, h6, h7⟩ := G
  refine bX1_columnOf_0 _ _ _ ?_
  rw [C.1]
  refine pk_le 1 w (fun _ => ⟨nI_ne0 h1 (by omega), ?_⟩) (fun z => by omega)
  rw [pk_rem (by omega) h1 (by omega)]
  exact k
theorem q_rowOf (G : zG w h n) (C : zC w h n mem) {c : Nat} (hc : c < 36) (k : post (nI (c / w)) 0 mem) : zm_Call gX1_rowOf [.ref 1, .int (nI c)] mem post := by
  obtain ⟨h1, h2, h3, h4, h5, h6, h7⟩ := G
  refine bX1_rowOf_0 _ _ _ ?_
  rw [C.1]
  refine pk_le 1 w (fun _ => ⟨nI_ne0 h1 (by omega), ?_⟩) (fun z => by omega)
  rw [pk_div (by omega) h1 (by omega)]
  exact k
theorem q_turnedX {t : Nat} (ht : t < 8) {x y : Int} (k : post (zi (zt_x t x y)) 0 mem) : zm_Call gX1_turnedX [.int (nI t), .int (zi x), .int (zi y)] mem post := by
  refine bX1_turnedX_0 _ _ _ _ _ ?_
  rw [nI_toInt (by omega), zi_neg, zi_neg]
  rcases (show t = 0 ∨ t = 1 ∨ t = 2 ∨ t = 3 ∨ t = 4 ∨ t = 5 ∨ t = 6 ∨ t = 7 by omega) with rfl | rfl | rfl | rfl | rfl | rfl | rfl | rfl <;> simpa [zt_x] using k
theorem q_turnedY {t : Nat} (ht : t < 8) {x y : Int} (k : post (zi (zt_y t x y)) 0 mem) : zm_Call gX1_turnedY [.int (nI t), .int (zi x), .int (zi y)] mem post := by
  refine bX1_turnedY_0 _ _ _ _ _ ?_
  rw [nI_toInt (by omega), zi_neg, zi_neg]
  rcases (show t = 0 ∨ t = 1 ∨ t = 2 ∨ t = 3 ∨ t = 4 ∨ t = 5 ∨ t = 6 ∨ t = 7 by omega) with rfl | rfl | rfl | rfl | rfl | rfl | rfl | rfl <;> simpa [zt_y] using k
theorem q_cellAt (G : zG w h n) (C : zC w h n mem) {X Y : Int} (hX : -1000 ≤ X ∧ X ≤ 1000) (hY : -1000 ≤ Y ∧ Y ≤ 1000) (k : post (nI (zt_ca w h X Y)) 0 mem) : zm_Call gX1_cellAt [.ref 1, .int (zi X), .int (zi Y)] mem post := by
  obtain ⟨h1, h2, h3, h4, h5, h6, h7⟩ := G
  have a1 := Int.emod_nonneg X (show (w : Int) ≠ 0 by omega)
  have a2 := Int.emod_lt_of_pos X (show (0 : Int) < w by omega)
  have a3 := Int.emod_nonneg Y (show (h : Int) ≠ 0 by omega)
  have a4 := Int.emod_lt_of_pos Y (show (0 : Int) < h by omega)
  have eX := zi_up (a := X) (d := w) (by omega)
  have eY := zi_up (a := Y) (d := h) (by omega)
  have key : zm_Z gX1_cellAt post 50 [(0, .ref 1), (3, .int (zi (Int.tmod X w)))] [.int (zi (Y % (h : Int)))] mem := by
    refine bX1_cellAt_50 _ _ _ _ ?_
    rw [C.1, ← zi_nI w, zi_mul, zi_add, zi_add, zi_add, show (0 : Int32) = zi 0 from rfl]
    have e1 : ((zt_ca w h X Y : Nat) : Int) = (Y % (h : Int)) * w + (X % (w : Int)) := by
      unfold zt_ca
      rw [Int.natCast_add, Int.natCast_mul, Int.toNat_of_nonneg a1, Int.toNat_of_nonneg a3]
    rw [← zi_nI, e1] at k
    have b1 : -6 ≤ Int.tmod X w ∧ Int.tmod X w < 6 := by
      split at eX <;> omega
    rw [zi_le (by omega) (by omega) (by omega) (by omega)]
    refine ⟨fun z => ?_, fun z => ?_⟩
    · rw [if_pos z] at eX; rw [eX]; exact k
    · rw [if_neg z] at eX; rw [eX]; exact k
  refine bX1_cellAt_0 _ _ _ _ ?_
  rw [C.1, C.2.1, zi_rem (by omega) (by omega) (by omega) (by omega), zi_rem (by omega) (by omega) (by omega) (by omega)]
  refine pk_lt w 1 (fun z => by omega) (fun _ => pk_le 1 h (fun _ => ⟨nI_ne0 h1 (by omega), nI_ne0 h3 (by omega), ?_⟩) (fun z => by omega))
  have b2 : -6 ≤ Int.tmod Y h ∧ Int.tmod Y h < 6 := by
    split at eY <;> omega
  rw [show (0 : Int32) = zi 0 from rfl, zi_le (by omega) (by omega) (by omega) (by omega), ← zi_nI h, zi_add]
  refine ⟨fun z => ?_, fun z => ?_⟩
  · rw [if_pos z] at eY; rw [eY]; exact key
  · rw [if_neg z] at eY; rw [eY]; exact key
theorem q_target (G : zG w h n) (C : zC w h n mem) {m c : Nat} (hm : m < 8 * n) (hc : c < n) (k : post (nI (zt w h n m c)) 0 mem) : zm_Call gX1_target [.ref 1, .int (nI m), .int (nI c)] mem post := by
  have G' := G
  obtain ⟨h1, h2, h3, h4, h5, h6, h7⟩ := G
  have b1 : c % w < w := Nat.mod_lt _ h1
  have b2 : c / w < h := zt_row G' hc
  have b3 : m % n < n := Nat.mod_lt _ h6
  have b4 : m % n % w < w := Nat.mod_lt _ h1
  have b5 : m % n / w < h := zt_row G' b3
  have b8 : (0 : Int) ≤ ((m % n / w : Nat) : Int) := Int.natCast_nonneg _
  have b9 : (0 : Int) ≤ ((c / w : Nat) : Int) := Int.natCast_nonneg _
  have b6 := zt_x_bd (t := m / n) (x := ((c % w : Nat) : Int)) (y := ((c / w : Nat) : Int)) (b := 6) (by omega) (by omega)
  have b7 := zt_y_bd (t := m / n) (x := ((c % w : Nat) : Int)) (y := ((c / w : Nat) : Int)) (b := 6) (by omega) (by omega)
  refine bX1_target_0 _ _ _ _ ?_
  refine q_turnOf G' C hm ?_
  refine q_shiftOf G' C hm ?_
  refine q_columnOf G' C (by omega) ?_
  refine q_rowOf G' C (by omega) ?_
  rw [← zi_nI (c % w), ← zi_nI (c / w)]
  refine q_turnedX (zt_div hm) ?_
  refine q_columnOf G' C (by omega) ?_
  refine q_turnedY (zt_div hm) ?_
  refine q_rowOf G' C (by omega) ?_
  rw [← zi_nI (m % n % w), ← zi_nI (m % n / w), zi_add, zi_add]
  exact q_cellAt G' C (by omega) (by omega) k
theorem zt_trn8 {t : Nat} (ht : t < 8) : zt_trn w h t = (decide (w = h) || !(decide (t = 1) || decide (t = 3) || decide (5 < t))) := by
  rcases (show t = 0 ∨ t = 1 ∨ t = 2 ∨ t = 3 ∨ t = 4 ∨ t = 5 ∨ t = 6 ∨ t = 7 by omega) with rfl | rfl | rfl | rfl | rfl | rfl | rfl | rfl <;> simp [zt_trn]
theorem q_hasTurn (G : zG w h n) (C : zC w h n mem) {t : Nat} (ht : t < 2 ^ 31) (k : post (zb (zt_trn w h t)) 0 mem) : zm_Call gX1_hasTurn [.ref 1, .int (nI t)] mem post := by
  obtain ⟨h1, h2, h3, h4, h5, h6, h7⟩ := G
  refine bX1_hasTurn_0 _ _ _ ?_
  rw [C.1, C.2.1]
  refine pk_eq w h (fun e => ?_) (fun e1 => pk_eq t 0 (fun e => ?_) (fun e2 => pk_eq t 2 (fun e => ?_) (fun e3 => pk_eq t 4 (fun e => ?_) (fun e4 => zn_ne t 5 (fun e => ?_) (fun e => ?_)))))
  all_goals simpa [zt_trn, zb, *] using k
theorem q_hasCell (G : zG w h n) (C : zC w h n mem) (x : Int32) (k : post (zb (zt_isC n x)) 0 mem) : zm_Call gX1_hasCell [.ref 1, .int x] mem post := by
  obtain ⟨h1, h2, h3, h4, h5, h6, h7⟩ := G
  refine bX1_hasCell_0 _ _ _ ?_
  rw [C.2.2, Int32.lt_iff_toInt_lt, Int32.le_iff_toInt_le, nI_toInt (show n < 2 ^ 31 by omega), show (0 : Int32).toInt = 0 from rfl]
  refine ⟨fun z => ?_, fun z => ⟨fun z2 => ?_, fun z2 => ?_⟩⟩
  · have e : zt_isC n x = false := by unfold zt_isC; simp; omega
    rw [e] at k; exact k
  · have e : zt_isC n x = false := by unfold zt_isC; simp; omega
    rw [e] at k; exact k
  · have e : zt_isC n x = true := by unfold zt_isC; simp; omega
    rw [e] at k; exact k
theorem zt_isC_of {x : Int32} (hn : n ≤ 36) (hx : zt_isC n x = true) : ∃ c, c < n ∧ x = nI c := by
  unfold zt_isC at hx
  simp at hx
  obtain ⟨j, hj, rfl⟩ := nI_of (x := x) (by rw [Int32.lt_iff_toInt_lt]; show ¬ x.toInt < 0; omega)
  rw [nI_toInt hj] at hx
  exact ⟨j, by omega, rfl⟩
theorem zt_isM_of {x : Int32} (hx : zt_isM w h n x = true) : ∃ m, m < 8 * n ∧ zt_trn w h (m / n) = true ∧ x = nI m := by
  unfold zt_isM zt_mv at hx
  simp at hx
  obtain ⟨j, hj, rfl⟩ := nI_of (x := x) (by rw [Int32.lt_iff_toInt_lt]; show ¬ x.toInt < 0; omega)
  rw [nI_clamp hj] at hx
  exact ⟨j, hx.2.1, hx.2.2, rfl⟩
theorem zt_isM_nI {m : Nat} (hm : m < 2 ^ 31) : zt_isM w h n (nI m) = zt_mv w h n m := by
  unfold zt_isM
  rw [nI_toInt hm]
  simp
theorem zt_isC_nI {c : Nat} (hm : c < 2 ^ 31) : zt_isC n (nI c) = decide (c < n) := by
  unfold zt_isC
  rw [nI_toInt hm]
  simp
theorem q_hasMove (G : zG w h n) (C : zC w h n mem) (x : Int32) (k : post (zb (zt_isM w h n x)) 0 mem) : zm_Call gX1_hasMove [.ref 1, .int x] mem post := by
  have G' := G
  obtain ⟨h1, h2, h3, h4, h5, h6, h7⟩ := G
  refine bX1_hasMove_0 _ _ _ ⟨fun z => ?_, fun z => q_numbers C ⟨fun z2 => ?_, fun z2 => ?_⟩⟩
  · rw [Int32.lt_iff_toInt_lt] at z
    have e : zt_isM w h n x = false := by
      unfold zt_isM; simp; intro h; exact absurd z (by show ¬ x.toInt < 0; omega)
    rw [e] at k; exact k
  · rw [Int32.le_iff_toInt_le, nI_toInt (by omega)] at z2
    have e : zt_isM w h n x = false := by
      have e0 : x.toNatClampNeg = x.toInt.toNat := rfl
      unfold zt_isM zt_mv; simp; intro h h'; omega
    rw [e] at k; exact k
  · rw [Int32.lt_iff_toInt_lt] at z
    rw [Int32.le_iff_toInt_le, nI_toInt (by omega)] at z2
    obtain ⟨j, hj, rfl⟩ := nI_of (x := x) (by rw [Int32.lt_iff_toInt_lt]; exact z)
    rw [nI_toInt hj] at z2
    have hm : j < 8 * n := by omega
    refine q_turnOf G' C hm (q_hasTurn G' C (by have := zt_div hm; omega) ?_)
    have e : zt_isM w h n (nI j) = zt_trn w h (j / n) := by
      rw [zt_isM_nI hj]; unfold zt_mv; simp [hm]
    rw [e] at k
    exact zb_eq0 _ (fun q => by rw [q] at k; exact k) (fun q => by rw [q] at k; exact k)
end ZGRID
