/-! Grid: moves joined, undone, again and again -/
def zt_st (w h n m k : Nat) : Bool := zq_all (fun c => zt_it w h n m k c == c) n
def zt_fo (w h n m : Nat) : Nat → Nat → Nat
  | 0, i => i
  | f + 1, i => if zt_st w h n m i then i else zt_fo w h n m f (i + 1)
/-- the order of a move -/
def zt_od (w h n m : Nat) : Nat := zt_fo w h n m 287 1
section ZGRID2
variable {w h n : Nat} {mem : zm_Mem} {post : zm_Post}
theorem zt_fj_cases (X Y : Int) (f i : Nat) : zt_fj X Y (f + 1) i = if zt_x i 1 2 = X ∧ zt_y i 1 2 = Y then i else zt_fj X Y f (i + 1) := rfl
theorem q_joinTurns {t u : Nat} (ht : t < 8) (hu : u < 8) (k : post (nI (zt_jt t u)) 0 mem) : zm_Call gX1_joinTurns [.int (nI t), .int (nI u)] mem post := by
  have b1 := zt_x_bd (t := t) (x := 1) (y := 2) (b := 2) (by omega) (by omega)
  have b2 := zt_y_bd (t := t) (x := 1) (y := 2) (b := 2) (by omega) (by omega)
  have b3 := zt_x_bd (t := u) (b := 2) b1 b2
  have b4 := zt_y_bd (t := u) (b := 2) b1 b2
  refine bX1_joinTurns_0 _ _ _ _ ?_
  refine q_turnedX (x := 1) (y := 2) ht ?_
  refine q_turnedY (x := 1) (y := 2) ht ?_
  refine q_turnedX hu ?_
  refine q_turnedY hu ?_
  unfold zt_jt at k
  generalize zt_x u (zt_x t 1 2) (zt_y t 1 2) = X at *
  generalize zt_y u (zt_x t 1 2) (zt_y t 1 2) = Y at *
  have loop : ∀ f i, i + f = 8 → post (nI (zt_fj X Y f i)) 0 mem → zm_Z gX1_joinTurns post 33 [(4, .int (zi X)), (5, .int (zi Y)), (6, .int (nI i))] [] mem := by
    intro f
    induction f with
    | zero =>
      intro i hi hp
      refine bX1_joinTurns_33 _ _ _ _ _ (pk_le 8 i (fun _ => hp) (fun z => by omega))
    | succ f ih =>
      intro i hi hp
      have c1 := zt_x_bd (t := i) (x := 1) (y := 2) (b := 2) (by omega) (by omega)
      have c2 := zt_y_bd (t := i) (x := 1) (y := 2) (b := 2) (by omega) (by omega)
      rw [zt_fj_cases] at hp
      refine bX1_joinTurns_33 _ _ _ _ _ (pk_le 8 i (fun z => by omega) (fun _ => q_turnedX (x := 1) (y := 2) (by omega) ?_))
      try dsimp only
      rw [zi_eq (by omega) (by omega) (by omega) (by omega), nI_1]
      refine ⟨fun z => ih (i + 1) (by omega) (by rw [if_neg (fun q => z q.1)] at hp; exact hp), fun z => q_turnedY (x := 1) (y := 2) (by omega) ?_⟩
      try dsimp only
      rw [zi_eq (by omega) (by omega) (by omega) (by omega)]
      refine ⟨fun z2 => ih (i + 1) (by omega) (by rw [if_neg (fun q => z2 q.2)] at hp; exact hp), fun z2 => ?_⟩
      rw [if_pos ⟨z, z2⟩] at hp
      exact hp
  exact loop 8 0 rfl k
theorem q_join (G : zG w h n) (C : zC w h n mem) {a b : Nat} (ha : a < 8 * n) (hb : b < 8 * n) (k : post (nI (zt_jn w h n a b)) 0 mem) : zm_Call gX1_join [.ref 1, .int (nI a), .int (nI b)] mem post := by
  refine bX1_join_0 _ _ _ _ ?_
  refine q_turnOf G C ha ?_
  refine q_turnOf G C hb ?_
  refine q_joinTurns (zt_div ha) (zt_div hb) ?_
  refine q_shiftOf G C ha ?_
  refine q_target G C hb (Nat.mod_lt _ G.2.2.2.2.2.1) ?_
  rw [C.2.2, pk_mul, nI_add]
  exact k
theorem q_undoingTurn {t : Nat} (ht : t < 8) (k : post (nI (zt_ut t)) 0 mem) : zm_Call gX1_undoingTurn [.int (nI t)] mem post := by
  refine bX1_undoingTurn_0 _ _ _ ?_
  rw [nI_toInt (by omega)]
  unfold zt_ut at k
  refine ⟨fun z => ?_, fun z => ?_, fun z z2 => ?_⟩
  · rw [if_pos (by omega)] at k; exact k
  · rw [if_neg (by omega), if_pos (by omega)] at k; exact k
  · rw [if_neg (by omega), if_neg (by omega)] at k; exact k
theorem q_undoing (G : zG w h n) (C : zC w h n mem) {m : Nat} (hm : m < 8 * n) (k : post (nI (zt_un w h n m)) 0 mem) : zm_Call gX1_undoing [.ref 1, .int (nI m)] mem post := by
  have G' := G
  obtain ⟨h1, h2, h3, h4, h5, h6, h7⟩ := G
  have b3 : m % n < n := Nat.mod_lt _ h6
  have b4 : m % n % w < w := Nat.mod_lt _ h1
  have b5 : m % n / w < h := zt_row G' b3
  have b8 : (0 : Int) ≤ ((m % n / w : Nat) : Int) := Int.natCast_nonneg _
  have hu := (zt_jt_ut _ (zt_div hm)).2.2
  have b6 := zt_x_bd (t := zt_ut (m / n)) (x := ((m % n % w : Nat) : Int)) (y := ((m % n / w : Nat) : Int)) (b := 6) (by omega) (by omega)
  have b7 := zt_y_bd (t := zt_ut (m / n)) (x := ((m % n % w : Nat) : Int)) (y := ((m % n / w : Nat) : Int)) (b := 6) (by omega) (by omega)
  refine bX1_undoing_0 _ _ _ ?_
  refine q_turnOf G' C hm ?_
  refine q_undoingTurn (zt_div hm) ?_
  refine q_shiftOf G' C hm ?_
  refine q_columnOf G' C (by omega) ?_
  refine q_shiftOf G' C hm ?_
  refine q_rowOf G' C (by omega) ?_
  rw [← zi_nI (m % n % w), ← zi_nI (m % n / w)]
  refine q_turnedX hu ?_
  refine q_turnedY hu ?_
  rw [zi_neg, zi_neg]
  refine q_cellAt G' C (by omega) (by omega) ?_
  rw [C.2.2, pk_mul, nI_add]
  exact k
theorem q_isStill (G : zG w h n) (C : zC w h n mem) {m : Nat} (hm : m < 8 * n) (k : post (zb (zq_all (fun c => zt w h n m c == c) n)) 0 mem) : zm_Call gX1_isStill [.ref 1, .int (nI m)] mem post := by
  have G' := G
  obtain ⟨h1, h2, h3, h4, h5, h6, h7⟩ := G
  refine bX1_isStill_0 _ _ _ ?_
  have loop : ∀ j c, c + j = n → zq_all (fun c => zt w h n m c == c) c = true → zm_Z gX1_isStill post 2 [(0, .ref 1), (1, .int (nI m)), (2, .int (nI c))] [] mem := by
    intro j
    induction j with
    | zero =>
      intro c hc hp
      refine bX1_isStill_2 _ _ _ _ ?_
      rw [C.2.2]
      refine pk_le n c (fun _ => ?_) (fun z => by omega)
      rw [show c = n by omega] at hp
      rw [hp] at k
      exact k
    | succ j ih =>
      intro c hc hp
      refine bX1_isStill_2 _ _ _ _ ?_
      rw [C.2.2]
      refine pk_le n c (fun z => by omega) (fun _ => q_target G' C hm (by omega) ?_)
      have hl := zt_lt G' m c
      refine pk_eq (zt w h n m c) c (fun e => ?_) (fun e => ?_)
      · rw [nI_1]
        exact ih (c + 1) (by omega) (by simp [zq_all, hp, e])
      · rw [zq_no (m := c) (by omega) (by simpa using e)] at k
        exact k
  exact loop n 0 (by omega) rfl
theorem q_timesTillStill (G : zG w h n) (C : zC w h n mem) {m : Nat} (hm : zt_mv w h n m = true) (k : post (nI (zt_od w h n m)) 0 mem) : zm_Call gX1_timesTillStill [.ref 1, .int (nI m)] mem post := by
  refine bX1_timesTillStill_0 _ _ _ ?_
  have loop : ∀ f i, i + 1 + f = 288 → post (nI (zt_fo w h n m f (i + 1))) 0 mem → zm_Z gX1_timesTillStill post 4 [(0, .ref 1), (1, .int (nI m)), (2, .int (nI (zt_pw w h n m i))), (3, .int (nI (i + 1)))] [] mem := by
    intro f
    induction f with
    | zero =>
      intro i hi hp
      have e : i + 1 = 288 := by omega
      refine bX1_timesTillStill_4 _ _ _ _ _ (pk_le 288 (i + 1) (fun _ => ?_) (fun z => by omega))
      rw [e] at hp
      exact hp
    | succ f ih =>
      intro i hi hp
      refine bX1_timesTillStill_4 _ _ _ _ _ (pk_le 288 (i + 1) (fun z => by omega) (fun _ => q_isStill G C (zt_mv_iff.mp (zt_pw_mv G hm i)).1 ?_))
      have e : zq_all (fun c => zt w h n (zt_pw w h n m i) c == c) n = zt_st w h n m (i + 1) := zq_all_cong (fun c _ => by rw [zt_pw_it G hm])
      rw [e]
      rw [zt_fo] at hp
      refine zb_eq0 _ (fun q => q_join G C (zt_mv_iff.mp (zt_pw_mv G hm i)).1 (zt_mv_iff.mp hm).1 ?_) (fun q => ?_)
      · rw [q] at hp
        rw [nI_1]
        exact ih (i + 1) (by omega) hp
      · rw [q] at hp
        exact hp
  exact loop 287 0 rfl k
end ZGRID2
