/-! mirrors and kinds -/
def zim (w t s : Nat) : Bool := match t with
  | 4 => s / w == 0
  | 5 => s % w == 0
  | 6 => s % w + s / w == 0 || s % w + s / w == w
  | 7 => s % w == s / w
  | _ => false
def zhm (w h n : Nat) (dy : Nat → Nat) (t : Nat) : Bool := zt_trn w h t && zq_any (fun s => zim w t s && zk w h n dy (t * n + s)) n
def zft (w h n : Nat) (dy : Nat → Nat) (t : Nat) : Bool := zt_trn w h t && zq_any (fun s => zk w h n dy (t * n + s)) n
def zrs (w h s a : Nat) : Nat := zt_ca w h (((s % w : Nat) : Int) - ((a % w : Nat) : Int)) (((s / w : Nat) : Int) - ((a / w : Nat) : Int))
def zmb (w h n : Nat) (dy : Nat → Nat) (t s : Nat) : Bool := zq_any (fun a => zim w (t ^^^ 1) a && zim w t (zrs w h s a) && zk w h n dy a) n
def zix (w t a : Nat) : Nat := if t = 6 then a * w + a else ((-(a : Int)) % (w : Int)).toNat * w + a
def zcd (w t s a : Nat) : Bool := if t = 6 then decide ((((s % w : Nat) : Int) + ((s / w : Nat) : Int) - 2 * (a : Int)) % (w : Int) = 0) else decide ((((s % w : Nat) : Int) - ((s / w : Nat) : Int) - 2 * (a : Int)) % (w : Int) = 0)
def zbs (w h n : Nat) (dy : Nat → Nat) (t s : Nat) : Bool := if t = 4 then zk w h n dy (s / w * w) else if t = 5 then zk w h n dy (s % w) else zq_any (fun a => zk w h n dy (zix w t a) && zcd w t s a) w
/-- which shifts are along the axis, and leave a mirror: by trying all -/
def zchk (w h t s a : Nat) : Bool := (zim w (t ^^^ 1) a && zim w t (zrs w h s a)) == (if t = 4 then a == s / w * w else if t = 5 then a == s % w else zix w t (a % w) == a && zcd w t s (a % w))
def zchkA (w h : Nat) : Bool := zq_all (fun t => if t < 4 then true else if zt_trn w h t then zq_all (fun s => zq_all (fun a => zchk w h t s a) (w * h)) (w * h) else true) 8
theorem zchk_1 : zq_all (fun h => zchkA 1 (h + 1)) 6 = true := by decide +kernel
theorem zchk_2 : zq_all (fun h => zchkA 2 (h + 1)) 6 = true := by decide +kernel
theorem zchk_3 : zq_all (fun h => zchkA 3 (h + 1)) 6 = true := by decide +kernel
theorem zchk_4 : zq_all (fun h => zchkA 4 (h + 1)) 6 = true := by decide +kernel
theorem zchk_5 : zq_all (fun h => zchkA 5 (h + 1)) 6 = true := by decide +kernel
theorem zchk_6 : zq_all (fun h => zchkA 6 (h + 1)) 6 = true := by decide +kernel
section ZKIND
variable {w h n k t0 : Nat} {dy mv r : Nat → Nat} {mem : zm_Mem} {post : zm_Post}
theorem zchk_ok (G : zG w h n) {t s a : Nat} (ht : 4 ≤ t) (ht8 : t < 8) (hv : zt_trn w h t = true) (hs : s < n) (ha : a < n) : (zim w (t ^^^ 1) a && zim w t (zrs w h s a)) = (if t = 4 then a == s / w * w else if t = 5 then a == s % w else zix w t (a % w) == a && zcd w t s (a % w)) := by
  obtain ⟨h1, h2, h3, h4, h5, h6, h7⟩ := G
  have all : zchkA w h = true := by
    have hh : h - 1 < 6 := by omega
    have e : h - 1 + 1 = h := by omega
    rcases (show w = 1 ∨ w = 2 ∨ w = 3 ∨ w = 4 ∨ w = 5 ∨ w = 6 by omega) with rfl | rfl | rfl | rfl | rfl | rfl
    · have := zq_all_iff.mp zchk_1 (h - 1) hh; rw [e] at this; exact this
    · have := zq_all_iff.mp zchk_2 (h - 1) hh; rw [e] at this; exact this
    · have := zq_all_iff.mp zchk_3 (h - 1) hh; rw [e] at this; exact this
    · have := zq_all_iff.mp zchk_4 (h - 1) hh; rw [e] at this; exact this
    · have := zq_all_iff.mp zchk_5 (h - 1) hh; rw [e] at this; exact this
    · have := zq_all_iff.mp zchk_6 (h - 1) hh; rw [e] at this; exact this
  have b := zq_all_iff.mp all t ht8
  rw [if_neg (by omega), if_pos hv, ← h5] at b
  have c := zq_all_iff.mp (zq_all_iff.mp b s hs) a ha
  unfold zchk at c
  exact eq_of_beq c
theorem zix_ok (G : zG w h n) {t a : Nat} (ht : 6 ≤ t) (ht8 : t < 8) (hv : zt_trn w h t = true) (ha : a < w) : zix w t a < n ∧ zix w t a % w = a := by
  have e : w = h := by
    unfold zt_trn at hv
    simp at hv
    omega
  obtain ⟨h1, h2, h3, h4, h5, h6, h7⟩ := G
  unfold zix
  have q : ∀ b, b < w → b * w + a < n ∧ (b * w + a) % w = a := fun b hb => by
    have : (b + 1) * w ≤ w * w := Nat.mul_le_mul_right w hb
    rw [Nat.succ_mul] at this
    exact ⟨by rw [h5, ← e]; omega, by rw [Nat.add_comm, Nat.add_mul_mod_self_right, Nat.mod_eq_of_lt ha]⟩
  split
  · exact q a ha
  · have a1 := Int.emod_nonneg (-(a : Int)) (show (w : Int) ≠ 0 by omega)
    have a2 := Int.emod_lt_of_pos (-(a : Int)) (show (0 : Int) < w by omega)
    exact q _ (by omega)
theorem zmb_bs (G : zG w h n) {t s : Nat} (ht : 4 ≤ t) (ht8 : t < 8) (hv : zt_trn w h t = true) (hs : s < n) : zmb w h n dy t s = zbs w h n dy t s := by
  have G' := G
  obtain ⟨h1, h2, h3, h4, h5, h6, h7⟩ := G
  have hm : zmb w h n dy t s = zq_any (fun a => (if t = 4 then a == s / w * w else if t = 5 then a == s % w else zix w t (a % w) == a && zcd w t s (a % w)) && zk w h n dy a) n := zq_any_cong (fun a ha => by rw [zchk_ok G' ht ht8 hv hs ha])
  rw [hm]
  unfold zbs
  have one : ∀ a0, a0 < n → zq_any (fun a => a == a0 && zk w h n dy a) n = zk w h n dy a0 := by
    intro a0 ha0
    cases q : zk w h n dy a0 with
    | true => exact zq_any_iff.mpr ⟨a0, ha0, by simp [q]⟩
    | false =>
      cases q2 : zq_any (fun a => a == a0 && zk w h n dy a) n with
      | false => rfl
      | true =>
        obtain ⟨a, -, e⟩ := zq_any_iff.mp q2
        simp at e
        rw [e.1, q] at e
        cases e.2
  have l1 : s / w * w < n := by
    have := Nat.div_mul_le_self s w
    omega
  have l2 : s % w < n := by
    have := Nat.mod_le s w
    omega
  by_cases e4 : t = 4
  · simp only [if_pos e4]
    exact one _ l1
  · simp only [if_neg e4]
    by_cases e5 : t = 5
    · simp only [if_pos e5]
      exact one _ l2
    · simp only [if_neg e5]
      cases q : zq_any (fun a => zk w h n dy (zix w t a) && zcd w t s a) w with
      | true =>
        obtain ⟨a, ha, e⟩ := zq_any_iff.mp q
        simp at e
        obtain ⟨i1, i2⟩ := zix_ok G' (t := t) (by omega) ht8 hv ha
        exact zq_any_iff.mpr ⟨zix w t a, i1, by simp [i2, e.1, e.2]⟩
      | false =>
        cases q2 : zq_any (fun a => (zix w t (a % w) == a && zcd w t s (a % w)) && zk w h n dy a) n with
        | false => rfl
        | true =>
          obtain ⟨a, ha, e⟩ := zq_any_iff.mp q2
          simp at e
          have := zq_any_iff.mpr (show ∃ b, b < w ∧ (fun a => zk w h n dy (zix w t a) && zcd w t s a) b = true from ⟨a % w, Nat.mod_lt _ h1, by simp [e.1.1, e.1.2, e.2]⟩)
          rw [q] at this; cases this
theorem zim_mod (G : zG w h n) (e : w = h) {s : Nat} (hs : s < n) : (s % w + s / w == 0 || s % w + s / w == w) = ((s % w + s / w) % w == 0) := by
  have hr := zt_row G hs
  have h1 := G.1
  have hm := Nat.mod_lt s h1
  rw [← e] at hr
  generalize s % w = x at *
  generalize s / w = y at *
  by_cases q : x + y < w
  · rw [Nat.mod_eq_of_lt q]
    have : (x + y == w) = false := by simp; omega
    rw [this, Bool.or_false]
  · have e2 : (x + y) % w = x + y - w := by
      rw [Nat.mod_eq_sub_mod (by omega), Nat.mod_eq_of_lt (by omega)]
    rw [e2]
    have : (x + y == 0) = false := by simp; omega
    rw [this, Bool.false_or]
    by_cases q2 : x + y = w
    · simp [q2]
    · have q3 : ¬ x + y - w = 0 := by omega
      rw [show (x + y == w) = false from beq_false_of_ne q2, show (x + y - w == 0) = false from beq_false_of_ne q3]
theorem q_isMirror (G : zG w h n) (C : zC w h n mem) {t s : Nat} (ht : t < 8) (hs : s < n) (kk : post (zb (zim w t s)) 0 mem) : zm_Call gX2_isMirror [.ref 5, .int (nI t), .int (nI s)] mem post := by
  have G' := G
  obtain ⟨h1, h2, h3, h4, h5, h6, h7⟩ := G
  have l1 := Nat.mod_lt s h1
  have l2 := zt_row G' hs
  refine bX2_isMirror_0 _ _ _ _ (q_columnOf G' C (by omega) (q_rowOf G' C (by omega) ?_))
  rw [nI_toInt (by omega), nI_add, C.1]
  refine ⟨fun z => ?_, fun z => ?_, fun z => ?_, fun z => ?_, fun z => ?_⟩
  · have : zim w t s = false := by
      rcases (show t = 0 ∨ t = 1 ∨ t = 2 ∨ t = 3 by omega) with rfl | rfl | rfl | rfl <;> rfl
    rw [this] at kk; exact kk
  · have : t = 4 := by omega
    subst this
    refine zn_ne (s / w) 0 (fun e => ?_) (fun e => ?_)
    · rw [show zim w 4 s = false by show (s / w == 0) = false; simpa using e] at kk; exact kk
    · rw [show zim w 4 s = true by show (s / w == 0) = true; simpa using e] at kk; exact kk
  · have : t = 5 := by omega
    subst this
    refine zn_ne (s % w) 0 (fun e => ?_) (fun e => ?_)
    · rw [show zim w 5 s = false by show (s % w == 0) = false; simpa using e] at kk; exact kk
    · rw [show zim w 5 s = true by show (s % w == 0) = true; simpa using e] at kk; exact kk
  · have : t = 6 := by omega
    subst this
    have e6 : zim w 6 s = (s % w + s / w == 0 || s % w + s / w == w) := rfl
    refine pk_eq (s % w + s / w) 0 (fun e => ?_) (fun e => zn_ne (s % w + s / w) w (fun e2 => ?_) (fun e2 => ?_))
    · rw [e6, show (s % w + s / w == 0) = true by simpa using e, Bool.true_or] at kk; exact kk
    · rw [e6, show (s % w + s / w == 0) = false by simpa using e, show (s % w + s / w == w) = false by simpa using e2] at kk; exact kk
    · rw [e6, show (s % w + s / w == w) = true by simpa using e2, Bool.or_true] at kk; exact kk
  · have : t = 7 := by omega
    subst this
    refine zn_ne (s % w) (s / w) (fun e => ?_) (fun e => ?_)
    · rw [show zim w 7 s = false by show (s % w == s / w) = false; simpa using e] at kk; exact kk
    · rw [show zim w 7 s = true by show (s % w == s / w) = true; simpa using e] at kk; exact kk
theorem zxor1 : ∀ t, t < 8 → nI t ^^^ 1 = nI (t ^^^ 1) ∧ t ^^^ 1 < 8 := by decide +kernel
theorem q_isAlong (G : zG w h n) (C : zC w h n mem) {t s : Nat} (ht : t < 8) (hs : s < n) (kk : post (zb (zim w (t ^^^ 1) s)) 0 mem) : zm_Call gX2_isAlong [.ref 5, .int (nI t), .int (nI s)] mem post := by
  refine bX2_isAlong_0 _ _ _ _ ?_
  rw [(zxor1 t ht).1]
  exact q_isMirror G C (zxor1 t ht).2 hs ⟨zb_01 _, kk⟩
theorem q_hasMirror (G : zG w h n) (C : zC w h n mem) (P : zPd n dy mem) {t : Nat} (ht : t < 8) (kk : post (zb (zhm w h n dy t)) 0 mem) : zm_Call gX2_hasMirror [.ref 5, .int (nI t)] mem post := by
  have h7 := G.2.2.2.2.2.2
  refine bX2_hasMirror_0 _ _ _ (q_hasTurn G C (by omega) (zb_ne0 _ (fun e => ?_) (fun e => ?_)))
  · unfold zhm at kk
    rw [e, Bool.true_and] at kk
    have loop : ∀ f s, s + f = n → zq_any (fun s => zim w t s && zk w h n dy (t * n + s)) s = false → zm_Z gX2_hasMirror post 15 [(0, .ref 5), (1, .int (nI t)), (2, .int (nI s))] [] mem := by
      intro f
      induction f with
      | zero =>
        intro s hs hp
        refine bX2_hasMirror_15 _ _ _ _ ?_
        rw [C.2.2]
        refine pk_le n s (fun _ => ?_) (fun z => by omega)
        rw [show s = n by omega] at hp
        rw [hp] at kk; exact kk
      | succ f ih =>
        intro s hs hp
        have nx : (zim w t s && zk w h n dy (t * n + s)) = false → zm_Z gX2_hasMirror post 15 [(0, .ref 5), (1, .int (nI t)), (2, .int (nI s + 1))] [] mem := fun q => by
          rw [nI_1]; exact ih (s + 1) (by omega) (by rw [zq_any, hp, q]; rfl)
        refine bX2_hasMirror_15 _ _ _ _ ?_
        rw [C.2.2]
        refine pk_le n s (fun z => by omega) (fun _ => q_isMirror G C ht (by omega) (zb_eq0 _ (fun q => nx (by rw [q]; rfl)) (fun q => ?_)))
        rw [C.2.2, pk_mul, nI_add]
        refine q_isKeptBy G C P (zt_blk_lt ht (by omega)) (zb_eq0 _ (fun q2 => nx (by rw [q2, Bool.and_false])) (fun q2 => ?_))
        rw [zq_yes (m := s) (by omega) (by rw [q, q2]; rfl)] at kk
        exact kk
    exact loop n 0 (by omega) rfl
  · unfold zhm at kk
    rw [e] at kk; exact kk
theorem q_isMirrorBehindShift (G : zG w h n) (C : zC w h n mem) (P : zPd n dy mem) {t s : Nat} (ht : t < 8) (hs : s < n) (kk : post (zb (zmb w h n dy t s)) 0 mem) : zm_Call gX2_isMirrorBehindShift [.ref 5, .int (nI t), .int (nI s)] mem post := by
  have G' := G
  obtain ⟨h1, h2, h3, h4, h5, h6, h7⟩ := G
  have l1 := Nat.mod_lt s h1
  have l2 := zt_row G' hs
  have l3 : (0 : Int) ≤ ((s / w : Nat) : Int) := Int.natCast_nonneg _
  refine bX2_isMirrorBehindShift_0 _ _ _ _ (q_columnOf G' C (by omega) (q_rowOf G' C (by omega) ?_))
  have loop : ∀ f a, a + f = n → zq_any (fun a => zim w (t ^^^ 1) a && zim w t (zrs w h s a) && zk w h n dy a) a = false → zm_Z gX2_isMirrorBehindShift post 22 [(0, .ref 5), (1, .int (nI t)), (3, .int (nI (s % w))), (4, .int (nI (s / w))), (5, .int (nI a))] [] mem := by
    intro f
    induction f with
    | zero =>
      intro a ha hp
      refine bX2_isMirrorBehindShift_22 _ _ _ _ _ _ ?_
      rw [C.2.2]
      refine pk_le n a (fun _ => ?_) (fun z => by omega)
      rw [show a = n by omega] at hp
      unfold zmb at kk
      rw [hp] at kk; exact kk
    | succ f ih =>
      intro a ha hp
      have m1 := Nat.mod_lt a h1
      have m2 := zt_row G' (c := a) (by omega)
      have m3 : (0 : Int) ≤ ((a / w : Nat) : Int) := Int.natCast_nonneg _
      have nx : (zim w (t ^^^ 1) a && zim w t (zrs w h s a) && zk w h n dy a) = false → zm_Z gX2_isMirrorBehindShift post 22 [(0, .ref 5), (1, .int (nI t)), (3, .int (nI (s % w))), (4, .int (nI (s / w))), (5, .int (nI a + 1))] [] mem := fun q => by
        rw [nI_1]; exact ih (a + 1) (by omega) (by rw [zq_any, hp, q]; rfl)
      refine bX2_isMirrorBehindShift_22 _ _ _ _ _ _ ?_
      rw [C.2.2]
      refine pk_le n a (fun z => by omega) (fun _ => q_columnOf G' C (by omega) (q_rowOf G' C (by omega) ?_))
      rw [← zi_nI (s % w), ← zi_nI (a % w), ← zi_nI (s / w), ← zi_nI (a / w), zi_sub, zi_sub]
      rw [← zi_nI (s % w), ← zi_nI (s / w)] at nx
      refine q_cellAt G' C (by omega) (by omega) (q_isAlong G' C ht (by omega) (zb_eq0 _ (fun q => nx (by rw [q]; rfl)) (fun q => q_isMirror G' C ht (zt_ca_lt G' _ _) (zb_eq0 _ (fun q2 => nx ?_) (fun q2 => q_isKeptBy G' C P (by omega) (zb_eq0 _ (fun q3 => nx (by rw [q3, Bool.and_false])) (fun q3 => ?_)))))))
      · have q4 : zim w t (zrs w h s a) = false := q2
        rw [q4, Bool.and_false, Bool.false_and]
      · have q4 : zim w t (zrs w h s a) = true := q2
        unfold zmb at kk
        rw [zq_yes (m := a) (by omega) (by rw [q, q4, q3]; rfl)] at kk
        exact kk
  exact loop n 0 (by omega) rfl
def zab (w h n : Nat) (dy : Nat → Nat) (m : Nat) : Bool := !(zt_mv w h n m && zk w h n dy m) || zbs w h n dy (m / n) (m % n)
theorem q_allMirrors (G : zG w h n) (C : zC w h n mem) (P : zPd n dy mem) (kk : post (zb (zq_all (fun i => zab w h n dy (4 * n + i)) (4 * n))) 0 mem) : zm_Call gX2_allMirrorsBehindShifts [.ref 5] mem post := by
  have h6 := G.2.2.2.2.2.1
  have h7 := G.2.2.2.2.2.2
  refine bX2_allMirrorsBehindShifts_0 _ _ ?_
  rw [C.2.2, show (4 : Int32) = nI 4 from rfl, pk_mul]
  have loop : ∀ f i, i + f = 4 * n → zq_all (fun i => zab w h n dy (4 * n + i)) i = true → zm_Z gX2_allMirrorsBehindShifts post 10 [(0, .ref 5), (1, .int (nI (4 * n + i)))] [] mem := by
    intro f
    induction f with
    | zero =>
      intro i hi hp
      refine bX2_allMirrorsBehindShifts_10 _ _ _ (q_numbers C (pk_le (8 * n) (4 * n + i) (fun _ => ?_) (fun z => by omega)))
      rw [show i = 4 * n by omega] at hp
      rw [hp] at kk; exact kk
    | succ f ih =>
      intro i hi hp
      have ht : 4 ≤ (4 * n + i) / n := by
        rw [Nat.le_div_iff_mul_le h6]; omega
      have ht8 := zt_div (n := n) (m := 4 * n + i) (by omega)
      have nx : zab w h n dy (4 * n + i) = true → zm_Z gX2_allMirrorsBehindShifts post 10 [(0, .ref 5), (1, .int (nI (4 * n + i) + 1))] [] mem := fun q => by
        rw [nI_1]; exact ih (i + 1) (by omega) (by rw [zq_all, hp, q]; rfl)
      refine bX2_allMirrorsBehindShifts_10 _ _ _ (q_numbers C (pk_le (8 * n) (4 * n + i) (fun z => by omega) (fun _ => q_hasMove G C _ ?_)))
      rw [zt_isM_nI (by omega)]
      refine zb_eq0 _ (fun q => nx (by simp [zab, q])) (fun q => q_isKeptBy G C P (by omega) (zb_eq0 _ (fun q2 => nx (by simp [zab, q2])) (fun q2 => q_turnOf G C (by omega) (q_shiftOf G C (by omega) (q_isMirrorBehindShift G C P ht8 (Nat.mod_lt _ h6) ?_)))))
      rw [zmb_bs G ht ht8 (zt_mv_iff.mp q).2 (Nat.mod_lt _ h6)]
      refine zb_ne0 _ (fun q3 => nx (by unfold zab; rw [q3, Bool.or_true])) (fun q3 => ?_)
      rw [zq_no (m := i) (by omega) (by unfold zab; rw [q, q2, q3]; rfl)] at kk
      exact kk
  exact loop (4 * n) 0 (by omega) rfl
end ZKIND
