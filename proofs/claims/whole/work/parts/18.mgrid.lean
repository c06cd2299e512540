/-! the reference: cells, moves, where they lead -/
section ZMG
variable {w h n : Nat} {mem : zm_Mem} {post : zm_Post}
theorem r_in {v a b : Int64} (k : post (zb (decide (a.toInt ≤ v.toInt) && decide (v.toInt ≤ b.toInt))) 0 mem) : zm_Call gX9_in [.long v, .long a, .long b] mem post := by
  refine bX9_in_0 _ _ _ _ _ ?_
  have e1 : lg_cmp v a < 0 ↔ v.toInt < a.toInt := by
    unfold lg_cmp
    simp only [gt_iff_lt, Int64.lt_iff_toInt_lt, ← Int64.toInt_inj]
    split
    · exact ⟨fun z => absurd z (by decide), fun z => by omega⟩
    · split
      · exact ⟨fun z => absurd z (by decide), fun z => by omega⟩
      · exact ⟨fun _ => by omega, fun _ => by decide⟩
  have e2 : 0 < lg_cmp v b ↔ b.toInt < v.toInt := by
    unfold lg_cmp
    simp only [gt_iff_lt, Int64.lt_iff_toInt_lt, ← Int64.toInt_inj]
    split
    · exact ⟨fun _ => by omega, fun _ => by decide⟩
    · split
      · exact ⟨fun z => absurd z (by decide), fun z => by omega⟩
      · exact ⟨fun z => absurd z (by decide), fun z => by omega⟩
  rw [e1, e2]
  refine ⟨fun z => ?_, fun z => ⟨fun z2 => ?_, fun z2 => ?_⟩⟩
  · rw [show (decide (a.toInt ≤ v.toInt) && decide (v.toInt ≤ b.toInt)) = false by simp; omega] at k; exact k
  · rw [show (decide (a.toInt ≤ v.toInt) && decide (v.toInt ≤ b.toInt)) = false by simp; omega] at k; exact k
  · rw [show (decide (a.toInt ≤ v.toInt) && decide (v.toInt ≤ b.toInt)) = true by simp; omega] at k; exact k
theorem r_cells (G : zG w h n) (M : zM w h mem) (k : post (nI n) 0 mem) : zm_Call gX9_cells [.ref 21] mem post := by
  refine bX9_cells_0 _ _ ?_
  rw [M.1, M.2, pk_mul, ← G.2.2.2.2.1]
  exact k
/-- 'in' over ints: lo .. hi - 1 -/
theorem r_inI {x : Int32} {lo hi : Nat} (h1 : lo < 2 ^ 31) (h2 : hi < 2 ^ 31) {a b : Int64} (ea : a.toInt = lo) (eb : b.toInt = hi) (k : post (zb (decide ((lo : Int) ≤ x.toInt) && decide (x.toInt ≤ (hi : Int)))) 0 mem) : zm_Call gX9_in [.long (Int32.toInt64 x), .long a, .long b] mem post := by
  refine r_in ?_
  rw [ea, eb, Int32.toInt_toInt64]
  exact k
theorem zl_nI {a : Nat} (h : a < 2 ^ 31) : (Int32.toInt64 (nI a)).toInt = a := by rw [Int32.toInt_toInt64, nI_toInt h]
theorem r_noCell (G : zG w h n) (M : zM w h mem) (x : Int32) (k : post (zb (!(zt_isC n x))) 0 mem) : zm_Call gX9_noCell [.ref 21, .int x] mem post := by
  have G' := G
  obtain ⟨h1, h2, h3, h4, h5, h6, h7⟩ := G
  refine bX9_noCell_0 _ _ _ (r_cells G' M ?_)
  rw [show (1 : Int32) = nI 1 from rfl, pk_sub (by omega)]
  refine r_inI (lo := 0) (hi := n - 1) (by omega) (by omega) rfl (zl_nI (by omega)) ?_
  have e : (decide (((0 : Nat) : Int) ≤ x.toInt) && decide (x.toInt ≤ ((n - 1 : Nat) : Int))) = zt_isC n x := by
    unfold zt_isC
    have : (x.toInt ≤ ((n - 1 : Nat) : Int)) = (x.toInt < n) := by apply propext; omega
    simp only [this]
    rfl
  rw [e]
  refine zb_ne0 _ (fun q => ?_) (fun q => ?_)
  · rw [q] at k; exact k
  · rw [q] at k; exact k
theorem r_isTurn (G : zG w h n) (M : zM w h mem) {t : Nat} (ht : t < 8) (k : post (zb (zt_trn w h t)) 0 mem) : zm_Call gX9_isTurn [.ref 21, .int (nI t)] mem post := by
  obtain ⟨h1, h2, h3, h4, h5, h6, h7⟩ := G
  have key : ∀ b : Bool, post (zb (decide (w = h) || !b)) 0 mem → zm_Z gX9_isTurn post 20 [(0, .ref 21)] [.int (zb b)] mem := by
    intro b hb
    refine bX9_isTurn_20 _ _ _ ?_
    rw [M.1, M.2]
    refine zb_eq0 _ (fun q => by subst q; simpa [zb] using hb) (fun q => ?_)
    subst q
    refine zn_ne w h (fun e => ?_) (fun e => ?_)
    · simpa [zb, e] using hb
    · simpa [zb, e] using hb
  rw [zt_trn8 ht] at k
  refine bX9_isTurn_0 _ _ _ (pk_eq t 1 (fun e => ?_) (fun e1 => pk_eq t 3 (fun e => ?_) (fun e2 => pk_le t 5 (fun e => ?_) (fun e => ?_))))
  · exact key true (by simpa [e] using k)
  · exact key true (by simpa [e] using k)
  · exact key false (by simpa [e1, e2, show ¬ 5 < t by omega] using k)
  · exact key true (by simpa [e1, e2, e] using k)
theorem r_noMove (G : zG w h n) (M : zM w h mem) (x : Int32) (k : post (zb (!(zt_isM w h n x))) 0 mem) : zm_Call gX9_noMove [.ref 21, .int x] mem post := by
  have G' := G
  obtain ⟨h1, h2, h3, h4, h5, h6, h7⟩ := G
  refine bX9_noMove_0 _ _ _ (r_cells G' M ?_)
  rw [show (1 : Int32) = nI 1 from rfl, show (8 : Int32) = nI 8 from rfl, pk_mul, pk_sub (by omega)]
  refine r_inI (lo := 0) (hi := 8 * n - 1) (by omega) (by omega) rfl (zl_nI (by omega)) ?_
  refine zb_eq0 _ (fun q => ?_) (fun q => ?_)
  · have e : zt_isM w h n x = false := by
      have e0 : x.toNatClampNeg = x.toInt.toNat := rfl
      simp at q
      unfold zt_isM zt_mv
      simp
      intro h h'
      omega
    rw [e] at k; exact k
  · simp at q
    obtain ⟨j, hj, rfl⟩ := nI_of (x := x) (by rw [Int32.lt_iff_toInt_lt]; show ¬ x.toInt < 0; omega)
    rw [nI_toInt hj] at q
    have hm : j < 8 * n := by omega
    refine r_cells G' M ⟨nI_ne0 h6 (by omega), ?_⟩
    rw [pk_div (by omega) h6 (by omega)]
    refine r_isTurn G' M (zt_div hm) ?_
    have e : zt_isM w h n (nI j) = zt_trn w h (j / n) := by
      rw [zt_isM_nI hj]; unfold zt_mv; simp [hm]
    rw [e] at k
    exact zb_ne0 _ (fun q => by rw [q] at k; exact k) (fun q => by rw [q] at k; exact k)
theorem r_turnedX {t : Nat} (ht : t < 8) {x y : Int} (k : post (zi (zt_x t x y)) 0 mem) : zm_Call gX9_turnedX [.int (nI t), .int (zi x), .int (zi y)] mem post := by
  refine bX9_turnedX_0 _ _ _ _ _ ?_
  rw [nI_toInt (by omega), zi_neg, zi_neg]
  rcases (show t = 0 ∨ t = 1 ∨ t = 2 ∨ t = 3 ∨ t = 4 ∨ t = 5 ∨ t = 6 ∨ t = 7 by omega) with rfl | rfl | rfl | rfl | rfl | rfl | rfl | rfl <;> simpa [zt_x] using k
theorem r_turnedY {t : Nat} (ht : t < 8) {x y : Int} (k : post (zi (zt_y t x y)) 0 mem) : zm_Call gX9_turnedY [.int (nI t), .int (zi x), .int (zi y)] mem post := by
  refine bX9_turnedY_0 _ _ _ _ _ ?_
  rw [nI_toInt (by omega), zi_neg, zi_neg]
  rcases (show t = 0 ∨ t = 1 ∨ t = 2 ∨ t = 3 ∨ t = 4 ∨ t = 5 ∨ t = 6 ∨ t = 7 by omega) with rfl | rfl | rfl | rfl | rfl | rfl | rfl | rfl <;> simpa [zt_y] using k
theorem r_rest {d : Nat} (h0 : 1 ≤ d) (hd : d ≤ 6) {X : Int} (hX : -1000 ≤ X ∧ X ≤ 1000) (k : post (zi (X % (d : Int))) 0 mem) : zm_Call gX9_rest [.int (zi X), .int (nI d)] mem post := by
  have a1 := Int.emod_nonneg X (show (d : Int) ≠ 0 by omega)
  have a2 := Int.emod_lt_of_pos X (show (0 : Int) < d by omega)
  have eX := zi_up (a := X) (d := d) (by omega)
  refine bX9_rest_0 _ _ _ _ ⟨nI_ne0 h0 (by omega), ?_⟩
  rw [zi_rem (by omega) (by omega) (by omega) (by omega)]
  have b1 : -6 ≤ Int.tmod X d ∧ Int.tmod X d < 6 := by
    split at eX <;> omega
  rw [show (0 : Int32) = zi 0 from rfl, zi_le (by omega) (by omega) (by omega) (by omega), ← zi_nI d, zi_add]
  refine ⟨fun z => ?_, fun z => ?_⟩
  · rw [if_pos z] at eX; rw [eX]; exact k
  · rw [if_neg z] at eX; rw [eX]; exact k
theorem r_ledTo (G : zG w h n) (M : zM w h mem) {m c : Nat} (hm : m < 8 * n) (hc : c < n) (k : post (nI (zt w h n m c)) 0 mem) : zm_Call gX9_ledTo [.ref 21, .int (nI m), .int (nI c)] mem post := by
  have G' := G
  obtain ⟨h1, h2, h3, h4, h5, h6, h7⟩ := G
  have b1 : c % w < w := Nat.mod_lt _ h1
  have b2 : c / w < h := zt_row G' hc
  have b3 : m % n < n := Nat.mod_lt _ h6
  have b4 : m % n % w < w := Nat.mod_lt _ h1
  have b5 : m % n / w < h := zt_row G' b3
  have b8 : (0 : Int) ≤ ((m % n / w : Nat) : Int) := Int.natCast_nonneg _
  have b9 : (0 : Int) ≤ ((c / w : Nat) : Int) := Int.natCast_nonneg _
  have b6 := zt_x_bd (t := m / n) (x := ((c % w : Nat) : Int)) (y := ((c / w : Nat) : Int)) (b := 6) (by omega) (by omega)
  have b7 := zt_y_bd (t := m / n) (x := ((c % w : Nat) : Int)) (y := ((c / w : Nat) : Int)) (b := 6) (by omega) (by omega)
  have nz : ¬ nI w = 0 := nI_ne0 h1 (by omega)
  have nn : ¬ nI n = 0 := nI_ne0 h6 (by omega)
  refine bX9_ledTo_0 _ _ _ _ (r_cells G' M ⟨nn, r_cells G' M ⟨nn, ?_⟩⟩)
  rw [M.1, pk_rem (by omega) h1 (by omega), pk_rem (by omega) h6 (by omega), pk_div (by omega) h1 (by omega), pk_div (by omega) h6 (by omega), ← zi_nI (c % w), ← zi_nI (c / w)]
  refine ⟨nz, nz, r_turnedX (zt_div hm) ?_⟩
  try dsimp only
  rw [M.1, pk_rem (by omega) h1 (by omega), ← zi_nI (m % n % w), zi_add]
  refine ⟨nz, r_rest h1 h2 (by omega) ?_⟩
  try dsimp only
  rw [M.1, pk_rem (by omega) h1 (by omega), pk_div (by omega) h1 (by omega), ← zi_nI (c % w), ← zi_nI (c / w)]
  refine ⟨nz, nz, r_turnedY (zt_div hm) ?_⟩
  try dsimp only
  rw [M.1, M.2, pk_div (by omega) h1 (by omega), ← zi_nI (m % n / w), zi_add]
  refine ⟨nz, r_rest h3 h4 (by omega) ?_⟩
  have a1 := Int.emod_nonneg (zt_x (m / n) ((c % w : Nat) : Int) ((c / w : Nat) : Int) + ((m % n % w : Nat) : Int)) (show (w : Int) ≠ 0 by omega)
  have a3 := Int.emod_nonneg (zt_y (m / n) ((c % w : Nat) : Int) ((c / w : Nat) : Int) + ((m % n / w : Nat) : Int)) (show (h : Int) ≠ 0 by omega)
  try dsimp only
  rw [M.1, ← zi_nI w, zi_mul, zi_add]
  rw [← zi_nI] at k
  unfold zt zt_ca at k
  rw [Int.natCast_add, Int.natCast_mul, Int.toNat_of_nonneg a1, Int.toNat_of_nonneg a3] at k
  exact k
theorem zt_jt_fj : ∀ t, t < 8 → ∀ u, u < 8 → zt_x (zt_jt t u) 1 2 = zt_x u (zt_x t 1 2) (zt_y t 1 2) ∧ zt_y (zt_jt t u) 1 2 = zt_y u (zt_x t 1 2) (zt_y t 1 2) := by decide +kernel
theorem zt_12 : ∀ t, t < 8 → ∀ u, u < 8 → zt_x t 1 2 = zt_x u 1 2 → zt_y t 1 2 = zt_y u 1 2 → t = u := by decide +kernel
theorem r_turnOf {t u : Nat} (ht : t < 8) (hu : u < 8) (k : post (nI (zt_jt t u)) 0 mem) : zm_Call gX9_turnOf [.int (nI t), .int (nI u)] mem post := by
  have b1 := zt_x_bd (t := t) (x := 1) (y := 2) (b := 2) (by omega) (by omega)
  have b2 := zt_y_bd (t := t) (x := 1) (y := 2) (b := 2) (by omega) (by omega)
  have b3 := zt_x_bd (t := u) (b := 2) b1 b2
  have b4 := zt_y_bd (t := u) (b := 2) b1 b2
  have hj := zt_jt_fj t ht u hu
  have hl := zt_jt_lt t ht u hu
  refine bX9_turnOf_0 _ _ _ _ ?_
  refine r_turnedX (x := 1) (y := 2) ht ?_
  refine r_turnedY (x := 1) (y := 2) ht ?_
  refine r_turnedX hu ?_
  refine r_turnedY hu ?_
  generalize zt_jt t u = J at *
  generalize zt_x u (zt_x t 1 2) (zt_y t 1 2) = X at *
  generalize zt_y u (zt_x t 1 2) (zt_y t 1 2) = Y at *
  have loop : ∀ f i r, i + f = 8 → (J < i → r = J) → zm_Z gX9_turnOf post 36 [(4, .int (zi X)), (5, .int (zi Y)), (6, .int (nI r)), (7, .int (nI i))] [] mem := by
    intro f
    induction f with
    | zero =>
      intro i r hi hp
      refine bX9_turnOf_36 _ _ _ _ _ _ (pk_le 8 i (fun _ => ?_) (fun z => by omega))
      rw [hp (by omega)]; exact k
    | succ f ih =>
      intro i r hi hp
      have c1 := zt_x_bd (t := i) (x := 1) (y := 2) (b := 2) (by omega) (by omega)
      have c2 := zt_y_bd (t := i) (x := 1) (y := 2) (b := 2) (by omega) (by omega)
      refine bX9_turnOf_36 _ _ _ _ _ _ (pk_le 8 i (fun z => by omega) (fun _ => r_turnedX (x := 1) (y := 2) (by omega) ?_))
      try dsimp only
      rw [zi_eq (by omega) (by omega) (by omega) (by omega), nI_1]
      have ne : ¬ J = i → J < i + 1 → r = J := fun a b => hp (by omega)
      refine ⟨fun z => ih (i + 1) r (by omega) (ne (fun q => z (q ▸ hj.1))), fun z => r_turnedY (x := 1) (y := 2) (by omega) ?_⟩
      try dsimp only
      rw [zi_eq (by omega) (by omega) (by omega) (by omega)]
      refine ⟨fun z2 => ih (i + 1) r (by omega) (ne (fun q => z2 (q ▸ hj.2))), fun z2 => ih (i + 1) i (by omega) (fun _ => ?_)⟩
      exact zt_12 i (by omega) J hl (z.trans hj.1.symm) (z2.trans hj.2.symm)
  exact loop 8 0 0 rfl (fun z => by omega)
theorem r_two (G : zG w h n) (M : zM w h mem) {a b : Nat} (ha : a < 8 * n) (hb : b < 8 * n) (k : post (nI (zt_jn w h n a b)) 0 mem) : zm_Call gX9_two [.ref 21, .int (nI a), .int (nI b)] mem post := by
  have h6 := G.2.2.2.2.2.1
  have h7 := G.2.2.2.2.2.2
  have nn : ¬ nI n = 0 := nI_ne0 h6 (by omega)
  refine bX9_two_0 _ _ _ _ (r_cells G M ⟨nn, r_cells G M (r_cells G M ⟨nn, r_cells G M ⟨nn, ?_⟩⟩)⟩)
  rw [pk_rem (by omega) h6 (by omega), pk_div (by omega) h6 (by omega), pk_div (by omega) h6 (by omega)]
  refine r_turnOf (zt_div ha) (zt_div hb) (r_ledTo G M hb (Nat.mod_lt _ h6) ?_)
  rw [pk_mul, nI_add, Nat.mul_comm]
  exact k
end ZMG
