/-! kinds: the class's number, the reference's -/
def zat (w h n : Nat) (dy : Nat → Nat) (t : Nat) : Bool := zq_all (fun s => !(zt_trn w h t && zk w h n dy (t * n + s)) || zbs w h n dy t s) n
def zkn (q hf : Bool) (F Mi : Nat) (b : Bool) : Nat := if F = 0 then (if q then 9 else if hf then 1 else 0) else if q then (if Mi = 4 then 10 else 11) else if hf then (if Mi = 2 then (if b then 5 else 8) else if Mi = 1 then 6 else 7) else (if Mi = 1 then (if b then 2 else 4) else 3)
theorem zq_allblocks (p : Nat → Bool) (n : Nat) : ∀ T, zq_all p (T * n) = zq_all (fun t => zq_all (fun s => p (t * n + s)) n) T
  | 0 => by rw [Nat.zero_mul]; rfl
  | T + 1 => by
    rw [Nat.succ_mul, zq_all, ← zq_allblocks p n T]
    have split : ∀ m, zq_all p (T * n + m) = (zq_all p (T * n) && zq_all (fun s => p (T * n + s)) m) := by
      intro m
      induction m with
      | zero => rw [Nat.add_zero, show zq_all (fun s => p (T * n + s)) 0 = true from rfl, Bool.and_true]
      | succ m ih =>
        show (zq_all p (T * n + m) && p (T * n + m)) = _
        rw [ih, zq_all, Bool.and_assoc]
    exact split n
section ZKIND2
variable {w h n k t0 : Nat} {dy mv r : Nat → Nat} {mem : zm_Mem} {post : zm_Post}
theorem zab_at : zq_all (fun i => zab w h n dy (4 * n + i)) (4 * n) = zq_all (fun i => zat w h n dy (4 + i)) 4 := by
  rw [zq_allblocks]
  refine zq_all_cong (fun t ht => zq_all_cong (fun s hs => ?_))
  unfold zab
  have e : 4 * n + (t * n + s) = (4 + t) * n + s := by rw [Nat.add_mul]; omega
  rw [e, (zt_blk hs).1, (zt_blk hs).2, zt_blk_mv (by omega) hs]
theorem zft_kt (t : Nat) : zft w h n dy t = decide (0 < zkt w h n dy t) := by
  unfold zft zkt
  cases e : zt_trn w h t with
  | false => rfl
  | true =>
    rw [Bool.true_and, if_pos rfl]
    cases q : zq_any (fun s => zk w h n dy (t * n + s)) n with
    | true => exact (decide_eq_true (zq_ct_pos.mpr (zq_any_iff.mp q))).symm
    | false =>
      refine (decide_eq_false (fun z => ?_)).symm
      rw [zq_any_iff.mpr (zq_ct_pos.mp z)] at q; cases q
theorem zhm_ft {t : Nat} (e : zhm w h n dy t = true) : zft w h n dy t = true := by
  unfold zhm at e
  unfold zft
  rw [Bool.and_eq_true] at e ⊢
  refine ⟨e.1, ?_⟩
  obtain ⟨s, hs, q⟩ := zq_any_iff.mp e.2
  simp at q
  exact zq_any_iff.mpr ⟨s, hs, q.2⟩
/-- two that keep it, one behind the other -/
theorem zk_jn (G : zG w h n) {a b : Nat} (ha : zt_mv w h n a = true) (hb : zt_mv w h n b = true) (k1 : zk w h n dy a = true) (k2 : zk w h n dy b = true) : zk w h n dy (zt_jn w h n a b) = true := zq_all_iff.mpr (fun c hc => by
  rw [zt_comp G (zt_mv_iff.mp ha).1 hb]
  have e1 := zq_all_iff.mp k1 c hc
  have e2 := zq_all_iff.mp k2 _ (zt_lt G a c)
  simp at e1 e2 ⊢
  rw [e2, e1])
theorem zk_un (G : zG w h n) {a : Nat} (ha : zt_mv w h n a = true) (k1 : zk w h n dy a = true) : zk w h n dy (zt_un w h n a) = true := zq_all_iff.mpr (fun c hc => by
  have e1 := zq_all_iff.mp k1 _ (zt_lt G (zt_un w h n a) c)
  rw [(zt_back G ha hc).2] at e1
  simp at e1 ⊢
  exact e1.symm)
theorem zft_of (G : zG w h n) {m : Nat} (hm : zt_mv w h n m = true) (hk : zk w h n dy m = true) : zft w h n dy (m / n) = true := by
  unfold zft
  rw [(zt_mv_iff.mp hm).2, Bool.true_and]
  refine zq_any_iff.mpr ⟨m % n, Nat.mod_lt _ G.2.2.2.2.2.1, ?_⟩
  rw [show m / n * n + m % n = m by rw [Nat.mul_comm]; exact Nat.div_add_mod m n]
  exact hk
theorem zft_ex {t : Nat} (ht : t < 8) (e : zft w h n dy t = true) : ∃ m, zt_mv w h n m = true ∧ zk w h n dy m = true ∧ m / n = t := by
  unfold zft at e
  rw [Bool.and_eq_true] at e
  obtain ⟨s, hs, q⟩ := zq_any_iff.mp e.2
  exact ⟨t * n + s, by rw [zt_blk_mv ht hs]; exact e.1, q, (zt_blk hs).1⟩
theorem zjt_mir : ∀ a, a < 4 → ∀ b, b < 4 → a ≠ b → zt_jt (4 + a) (4 + b) = 1 ∨ zt_jt (4 + a) (4 + b) = 2 ∨ zt_jt (4 + a) (4 + b) = 3 := by decide +kernel
theorem zmir_one (G : zG w h n) (h1 : zft w h n dy 1 = false) (h2 : zft w h n dy 2 = false) {a b : Nat} (ha : a < 4) (hb : b < 4) (ea : zft w h n dy (4 + a) = true) (eb : zft w h n dy (4 + b) = true) : a = b := by
  refine Classical.byContradiction (fun ne => ?_)
  obtain ⟨m, m1, m2, m3⟩ := zft_ex (by omega) ea
  obtain ⟨m', n1, n2, n3⟩ := zft_ex (by omega) eb
  have k3 := zk_jn G m1 n1 m2 n2
  have v3 := zt_jn_mv G m1 n1
  have t3 := (zt_jn_div G m m').1
  rw [m3, n3] at t3
  have f3 := zft_of G v3 k3
  rw [t3] at f3
  rcases zjt_mir a ha b hb ne with q | q | q
  · rw [q, h1] at f3; cases f3
  · rw [q, h2] at f3; cases f3
  · have k4 := zk_jn G v3 v3 k3 k3
    have v4 := zt_jn_mv G v3 v3
    have t4 := (zt_jn_div G (zt_jn w h n m m') (zt_jn w h n m m')).1
    rw [t3, q, show zt_jt 3 3 = 2 by decide] at t4
    have f4 := zft_of G v4 k4
    rw [t4, h2] at f4; cases f4
theorem zmir_le (G : zG w h n) (h1 : zft w h n dy 1 = false) (h2 : zft w h n dy 2 = false) : zq_ct (fun i => zhm w h n dy (4 + i)) 4 ≤ 1 := by
  have one : ∀ a b, a < 4 → b < 4 → zhm w h n dy (4 + a) = true → zhm w h n dy (4 + b) = true → a = b := fun a b ha hb ea eb => zmir_one G h1 h2 ha hb (zhm_ft ea) (zhm_ft eb)
  have key : ∀ p : Nat → Bool, (∀ a b, a < 4 → b < 4 → p a = true → p b = true → a = b) → zq_ct p 4 ≤ 1 := by
    intro p one
    have o01 := one 0 1 (by decide) (by decide)
    have o02 := one 0 2 (by decide) (by decide)
    have o03 := one 0 3 (by decide) (by decide)
    have o12 := one 1 2 (by decide) (by decide)
    have o13 := one 1 3 (by decide) (by decide)
    have o23 := one 2 3 (by decide) (by decide)
    simp only [zq_ct]
    clear one
    generalize p 0 = b0 at *
    generalize p 1 = b1 at *
    generalize p 2 = b2 at *
    generalize p 3 = b3 at *
    cases b0 <;> cases b1 <;> cases b2 <;> cases b3 <;> simp_all
  exact key _ one
theorem q_number (G : zG w h n) (C : zC w h n mem) (P : zPd n dy mem) (kk : post (nI (zkn (zft w h n dy 1) (zft w h n dy 2) (zq_ct (fun i => zft w h n dy (4 + i)) 4) (zq_ct (fun i => zhm w h n dy (4 + i)) 4) (zq_all (fun i => zat w h n dy (4 + i)) 4))) 0 mem) : zm_Call gX2_number [.ref 5] mem post := by
  have h7 := G.2.2.2.2.2.2
  have kl : ∀ t, zkt w h n dy t < 2 ^ 31 := fun t => by have := zkt_le (w := w) (h := h) (n := n) (dy := dy) t; omega
  have fitc : ∀ (Q : zm_Post), Q (nI (zq_ct (fun i => zft w h n dy (4 + i)) 4)) 0 mem → zm_Call gX2_fitCount [.ref 5] mem Q := by
    intro Q hQ
    refine bX2_fitCount_0 _ _ ?_
    have loop : ∀ f i, i + f = 4 → zm_Z gX2_fitCount Q 4 [(0, .ref 5), (1, .int (nI (zq_ct (fun i => zft w h n dy (4 + i)) i))), (2, .int (nI (4 + i)))] [] mem := by
      intro f
      induction f with
      | zero =>
        intro i hi
        refine bX2_fitCount_4 _ _ _ _ (pk_le 8 (4 + i) (fun _ => ?_) (fun z => by omega))
        rw [show i = 4 by omega]; exact hQ
      | succ f ih =>
        intro i hi
        have nx := ih (i + 1) (by omega)
        rw [zq_ct] at nx
        refine bX2_fitCount_4 _ _ _ _ (pk_le 8 (4 + i) (fun z => by omega) (fun _ => q_keepersOf G C P (by omega) ?_))
        rw [nI_1, nI_1]
        refine pk_le (zkt w h n dy (4 + i)) 0 (fun e => ?_) (fun e => ?_) rfl rfl (kl _)
        · rw [zft_kt, if_neg (by simp; omega)] at nx; exact nx
        · rw [zft_kt, if_pos (by simpa using e)] at nx; exact nx
    exact loop 4 0 rfl
  have mirc : ∀ (Q : zm_Post), Q (nI (zq_ct (fun i => zhm w h n dy (4 + i)) 4)) 0 mem → zm_Call gX2_mirroredCount [.ref 5] mem Q := by
    intro Q hQ
    refine bX2_mirroredCount_0 _ _ ?_
    have loop : ∀ f i, i + f = 4 → zm_Z gX2_mirroredCount Q 4 [(0, .ref 5), (1, .int (nI (zq_ct (fun i => zhm w h n dy (4 + i)) i))), (2, .int (nI (4 + i)))] [] mem := by
      intro f
      induction f with
      | zero =>
        intro i hi
        refine bX2_mirroredCount_4 _ _ _ _ (pk_le 8 (4 + i) (fun _ => ?_) (fun z => by omega))
        rw [show i = 4 by omega]; exact hQ
      | succ f ih =>
        intro i hi
        have nx := ih (i + 1) (by omega)
        rw [zq_ct] at nx
        refine bX2_mirroredCount_4 _ _ _ _ (pk_le 8 (4 + i) (fun z => by omega) (fun _ => q_hasMirror G C P (by omega) ?_))
        rw [nI_1, nI_1]
        refine zb_eq0 _ (fun e => ?_) (fun e => ?_)
        · rw [if_neg (by simp [e])] at nx; exact nx
        · rw [if_pos e] at nx; exact nx
    exact loop 4 0 rfl
  have hF4 := zq_ct_le (fun i => zft w h n dy (4 + i)) 4
  have hM4 := zq_ct_le (fun i => zhm w h n dy (4 + i)) 4
  have one := zmir_le (dy := dy) G
  generalize hFe : zq_ct (fun i => zft w h n dy (4 + i)) 4 = F at *
  generalize hMe : zq_ct (fun i => zhm w h n dy (4 + i)) 4 = Mi at *
  have key98 : ∀ hf p : Bool, p = (decide (0 < Mi) && zq_all (fun i => zat w h n dy (4 + i)) 4) → hf = zft w h n dy 2 → F ≠ 0 → zft w h n dy 1 = false → zm_Z gX2_number post 98 [(2, .int (zb hf)), (3, .int (nI Mi))] [.int (zb p)] mem := by
    intro hf p hp hh hF hq
    rw [hq, ← hh] at kk
    unfold zkn at kk
    rw [if_neg hF, if_neg (by decide)] at kk
    refine bX2_number_98 _ _ _ _ _ (zb_eq0 _ (fun e => bX2_kindWithoutTurns_0 _ _ _ _ (zn_ne Mi 0 (fun e2 => ?_) (fun e2 => ?_))) (fun e => bX2_kindWithHalf_0 _ _ _ _ (zn_ne Mi 2 (fun e2 => zn_ne Mi 1 (fun e3 => ?_) (fun e3 => ?_)) (fun e2 => ?_))))
    · have m1 := one hq (by rw [← hh]; exact e)
      rw [e, if_neg (by decide), if_pos (by omega)] at kk
      rw [show decide (0 < Mi) = true by simp; omega, Bool.true_and] at hp
      rw [hp]
      refine zb_eq0 _ (fun q => ?_) (fun q => ?_)
      · rw [q] at kk; exact kk
      · rw [q] at kk; exact kk
    · rw [e, if_neg (by decide), if_neg (by omega)] at kk; exact kk
    · rw [e, if_pos rfl, if_neg e2, if_neg e3] at kk; exact kk
    · rw [e, if_pos rfl, if_neg e2, if_pos e3] at kk; exact kk
    · rw [e, if_pos rfl, if_pos e2] at kk
      rw [show decide (0 < Mi) = true by simp; omega, Bool.true_and] at hp
      rw [hp]
      refine zb_eq0 _ (fun q => ?_) (fun q => ?_)
      · rw [q] at kk; exact kk
      · rw [q] at kk; exact kk
  have key33 : ∀ q hf : Bool, q = zft w h n dy 1 → hf = zft w h n dy 2 → zm_Z gX2_number post 33 [(0, .ref 5), (1, .int (zb q))] [.int (zb hf)] mem := by
    intro q hf hq hh
    refine bX2_number_33 _ _ _ _ (fitc _ (zn_ne F 0 (fun e => mirc _ (zb_eq0 _ (fun e2 => ?_) (fun e2 => ?_))) (fun e => zb_eq0 _ (fun e2 => zb_eq0 _ (fun e3 => ?_) (fun e3 => ?_)) (fun e2 => ?_))))
    · refine pk_le Mi 0 (fun e3 => key98 hf false ?_ hh e (by rw [← hq]; exact e2)) (fun e3 => q_allMirrors G C P ?_)
      · rw [show decide (0 < Mi) = false by simp; omega]; rfl
      · rw [zab_at]
        refine zb_eq0 _ (fun e4 => key98 hf false ?_ hh e (by rw [← hq]; exact e2)) (fun e4 => key98 hf true ?_ hh e (by rw [← hq]; exact e2))
        · rw [e4, Bool.and_false]
        · rw [e4, show decide (0 < Mi) = true by simpa using e3]; rfl
    · rw [← hq, e2] at kk
      unfold zkn at kk
      rw [if_neg e, if_pos rfl] at kk
      refine zn_ne Mi 4 (fun e3 => ?_) (fun e3 => ?_)
      · rw [if_neg e3] at kk; exact kk
      · rw [if_pos e3] at kk; exact kk
    · rw [← hq, ← hh, e2, e3] at kk
      unfold zkn at kk
      rw [if_pos e] at kk; exact kk
    · rw [← hq, ← hh, e2, e3] at kk
      unfold zkn at kk
      rw [if_pos e] at kk; exact kk
    · rw [← hq, e2] at kk
      unfold zkn at kk
      rw [if_pos e] at kk; exact kk
  have key16 : ∀ q : Bool, q = zft w h n dy 1 → zm_Z gX2_number post 16 [(0, .ref 5)] [.int (zb q)] mem := by
    intro q hq
    refine bX2_number_16 _ _ _ (q_keepersOf (t := 2) G C P (by decide) (pk_le (zkt w h n dy 2) 0 (fun e => key33 q false hq ?_) (fun e => key33 q true hq ?_) rfl rfl (kl _)))
    · rw [zft_kt]; simp; omega
    · rw [zft_kt]; simpa using e
  refine bX2_number_0 _ _ (q_keepersOf (t := 1) G C P (by decide) (pk_le (zkt w h n dy 1) 0 (fun e => key16 false ?_) (fun e => key16 true ?_) rfl rfl (kl _)))
  · rw [zft_kt]; simp; omega
  · rw [zft_kt]; simpa using e
/-! the reference -/
theorem r_isMirror (G : zG w h n) (M : zM w h mem) {m : Nat} (hm : zt_mv w h n m = true) (kk : post (zb (zim w (m / n) (m % n))) 0 mem) : zm_Call gX9_isMirror [.ref 21, .int (nI m)] mem post := by
  have G' := G
  obtain ⟨h1, h2, h3, h4, h5, h6, h7⟩ := G
  obtain ⟨hml, hmt⟩ := zt_mv_iff.mp hm
  have nz : ¬ nI w = 0 := nI_ne0 h1 (by omega)
  have nn : ¬ nI n = 0 := nI_ne0 h6 (by omega)
  have t8 := zt_div hml
  have s1 := Nat.mod_lt m h6
  have l1 := Nat.mod_lt (m % n) h1
  have l2 := zt_row G' s1
  refine bX9_isMirror_0 _ _ _ (r_cells G' M ⟨nn, r_cells G' M ⟨nn, ?_⟩⟩)
  rw [M.1]
  refine ⟨nz, r_cells G' M ⟨nn, ?_⟩⟩
  rw [M.1, pk_rem (by omega) h6 (by omega), pk_rem (by omega) h1 (by omega), pk_div (by omega) h1 (by omega), pk_div (by omega) h6 (by omega), nI_add, pk_rem (by omega) h1 (by omega)]
  refine ⟨nz, zn_ne (m / n) 4 (fun e4 => zn_ne (m / n) 5 (fun e5 => zn_ne (m / n) 6 (fun e6 => zn_ne (m / n) 7 (fun e7 => ?_) (fun e7 => zn_ne (m % n % w) (m % n / w) (fun e => ?_) (fun e => ?_))) (fun e6 => ⟨nz, zn_ne ((m % n % w + m % n / w) % w) 0 (fun e => ?_) (fun e => ?_) rfl rfl (by have := Nat.mod_lt (m % n % w + m % n / w) h1; omega)⟩)) (fun e5 => zn_ne (m % n % w) 0 (fun e => ?_) (fun e => ?_))) (fun e4 => zn_ne (m % n / w) 0 (fun e => ?_) (fun e => ?_))⟩
  · have : ∀ t : Nat, t < 8 → t ≠ 4 → t ≠ 5 → t ≠ 6 → t ≠ 7 → zim w t (m % n) = false := fun t a1 a2 a3 a4 a5 => by
      rcases (show t = 0 ∨ t = 1 ∨ t = 2 ∨ t = 3 by omega) with rfl | rfl | rfl | rfl <;> rfl
    rw [this _ t8 e4 e5 e6 e7] at kk; exact kk
  · rw [e7, show zim w 7 (m % n) = false from beq_false_of_ne e] at kk; exact kk
  · rw [e7, show zim w 7 (m % n) = true from beq_iff_eq.mpr e] at kk; exact kk
  · have ew : w = h := by rw [e6] at hmt; unfold zt_trn at hmt; simp at hmt; exact hmt
    rw [e6, show zim w 6 (m % n) = false from (zim_mod G' ew s1).trans (beq_false_of_ne e)] at kk; exact kk
  · have ew : w = h := by rw [e6] at hmt; unfold zt_trn at hmt; simp at hmt; exact hmt
    rw [e6, show zim w 6 (m % n) = true from (zim_mod G' ew s1).trans (beq_iff_eq.mpr e)] at kk; exact kk
  · rw [e5, show zim w 5 (m % n) = false from beq_false_of_ne e] at kk; exact kk
  · rw [e5, show zim w 5 (m % n) = true from beq_iff_eq.mpr e] at kk; exact kk
  · rw [e4, show zim w 4 (m % n) = false from beq_false_of_ne e] at kk; exact kk
  · rw [e4, show zim w 4 (m % n) = true from beq_iff_eq.mpr e] at kk; exact kk
theorem r_isMirrored (G : zG w h n) (M : zM w h mem) (P : zPm n dy mem) {t : Nat} (ht : t < 8) (kk : post (zb (zhm w h n dy t)) 0 mem) : zm_Call gX9_isMirrored [.ref 21, .int (nI t)] mem post := by
  have h7 := G.2.2.2.2.2.2
  refine bX9_isMirrored_0 _ _ _ ?_
  have loop : ∀ f s, s + f = n → zm_Z gX9_isMirrored post 4 [(0, .ref 21), (1, .int (nI t)), (2, .int (zb (zt_trn w h t && zq_any (fun s => zim w t s && zk w h n dy (t * n + s)) s))), (3, .int (nI s))] [] mem := by
    intro f
    induction f with
    | zero =>
      intro s hs
      refine bX9_isMirrored_4 _ _ _ _ _ (r_cells G M (pk_le n s (fun _ => ⟨zb_01 _, ?_⟩) (fun z => by omega)))
      rw [show s = n by omega]; exact kk
    | succ f ih =>
      intro s hs
      have nx := ih (s + 1) (by omega)
      refine bX9_isMirrored_4 _ _ _ _ _ (r_cells G M (pk_le n s (fun z => by omega) (fun _ => r_isTurn G M ht (zb_eq0 _ (fun e => ⟨zb_01 _, ?_⟩) (fun e => r_cells G M (zb_ne0 _ (fun q => ?_) (fun q => ?_)))))))
      · unfold zhm at kk
        rw [e] at kk ⊢; exact kk
      · refine bX9_isMirrored_52 _ _ _ _ ?_
        rw [e, Bool.true_and] at q
        rw [e, Bool.true_and, zq_any, q, Bool.true_or] at nx
        rw [nI_1]; exact nx
      · rw [e, Bool.true_and] at q
        rw [e, Bool.true_and, zq_any, q, Bool.false_or] at nx
        rw [pk_mul, nI_add, nI_1, Nat.mul_comm n t]
        have hmv : zt_mv w h n (t * n + s) = true := by rw [zt_blk_mv ht (by omega)]; exact e
        refine r_isMirror G M hmv ?_
        rw [(zt_blk (n := n) (t := t) (s := s) (by omega)).1, (zt_blk (n := n) (t := t) (s := s) (by omega)).2]
        refine zb_eq0 _ (fun q2 => ?_) (fun q2 => r_keepsIt G M P (zt_blk_lt ht (by omega)) (zb_eq0 _ (fun q3 => ?_) (fun q3 => bX9_isMirrored_52 _ _ _ _ ?_)))
        · rw [q2] at nx; exact nx
        · rw [q3, Bool.and_false] at nx; exact nx
        · rw [q2, q3] at nx; rw [nI_1]; exact nx
  have := loop n 0 (by omega)
  rw [show zq_any (fun s => zim w t s && zk w h n dy (t * n + s)) 0 = false from rfl, Bool.and_false] at this
  exact this
theorem r_fits (G : zG w h n) (M : zM w h mem) (P : zPm n dy mem) {t : Nat} (ht : t < 8) (kk : post (zb (zft w h n dy t)) 0 mem) : zm_Call gX9_fits [.ref 21, .int (nI t)] mem post := by
  have h7 := G.2.2.2.2.2.2
  refine bX9_fits_0 _ _ _ ?_
  have loop : ∀ f s, s + f = n → zm_Z gX9_fits post 4 [(0, .ref 21), (1, .int (nI t)), (2, .int (zb (zt_trn w h t && zq_any (fun s => zk w h n dy (t * n + s)) s))), (3, .int (nI s))] [] mem := by
    intro f
    induction f with
    | zero =>
      intro s hs
      refine bX9_fits_4 _ _ _ _ _ (r_cells G M (pk_le n s (fun _ => ⟨zb_01 _, ?_⟩) (fun z => by omega)))
      rw [show s = n by omega]; exact kk
    | succ f ih =>
      intro s hs
      have nx := ih (s + 1) (by omega)
      refine bX9_fits_4 _ _ _ _ _ (r_cells G M (pk_le n s (fun z => by omega) (fun _ => r_isTurn G M ht (zb_eq0 _ (fun e => ⟨zb_01 _, ?_⟩) (fun e => zb_ne0 _ (fun q => ?_) (fun q => r_cells G M ?_))))))
      · unfold zft at kk
        rw [e] at kk ⊢; exact kk
      · refine bX9_fits_39 _ _ _ _ ?_
        rw [e, Bool.true_and] at q
        rw [e, Bool.true_and, zq_any, q, Bool.true_or] at nx
        rw [nI_1]; exact nx
      · rw [e, Bool.true_and] at q
        rw [e, Bool.true_and, zq_any, q, Bool.false_or] at nx
        rw [pk_mul, nI_add, nI_1, Nat.mul_comm n t]
        refine r_keepsIt G M P (zt_blk_lt ht (by omega)) (zb_eq0 _ (fun q3 => ?_) (fun q3 => bX9_fits_39 _ _ _ _ ?_))
        · rw [q3] at nx; exact nx
        · rw [q3] at nx; rw [nI_1]; exact nx
  have := loop n 0 (by omega)
  rw [show zq_any (fun s => zk w h n dy (t * n + s)) 0 = false from rfl, Bool.and_false] at this
  exact this
theorem r_isBehindShift (G : zG w h n) (M : zM w h mem) (hS : ∀ s, s < n → mem 30 s = zb (zk w h n dy s)) {m : Nat} (hm : zt_mv w h n m = true) (h4t : 4 ≤ m / n) (kk : post (zb (zbs w h n dy (m / n) (m % n))) 0 mem) : zm_Call gX9_isBehindShift [.ref 21, .int (nI m)] mem post := by
  have G' := G
  obtain ⟨h1, h2, h3, h4, h5, h6, h7⟩ := G
  obtain ⟨hml, hmt⟩ := zt_mv_iff.mp hm
  have nz : ¬ nI w = 0 := nI_ne0 h1 (by omega)
  have nn : ¬ nI n = 0 := nI_ne0 h6 (by omega)
  have t8 := zt_div hml
  have s1 := Nat.mod_lt m h6
  have l1 := Nat.mod_lt (m % n) h1
  have l2 := zt_row G' s1
  have l3 : m % n / w * w < n := by have := Nat.div_mul_le_self (m % n) w; omega
  have l4 : m % n % w < n := by have := Nat.mod_le (m % n) w; omega
  have l5 : (0 : Int) ≤ ((m % n / w : Nat) : Int) := Int.natCast_nonneg _
  refine bX9_isBehindShift_0 _ _ _ (r_cells G' M ⟨nn, r_cells G' M ⟨nn, ?_⟩⟩)
  rw [M.1]
  refine ⟨nz, r_cells G' M ⟨nn, ?_⟩⟩
  rw [M.1, pk_rem (by omega) h6 (by omega), pk_rem (by omega) h1 (by omega), pk_div (by omega) h1 (by omega), pk_div (by omega) h6 (by omega), pk_mul, nI_clamp (by omega), nI_clamp (by omega), hS _ l3, hS _ l4]
  unfold zbs at kk
  refine ⟨nz, zn_ne (m / n) 4 (fun e4 => zn_ne (m / n) 5 (fun e5 => ?_) (fun e5 => ⟨pk_in (m % n % w) 36 (by omega), zb_01 _, ?_⟩)) (fun e4 => ⟨pk_in (m % n / w * w) 36 (by omega), zb_01 _, ?_⟩)⟩
  · rw [if_neg e4, if_neg e5] at kk
    generalize ht : m / n = t at *
    have loop : ∀ f a, a + f = w → zm_Z gX9_isBehindShift post 68 [(0, .ref 21), (2, .int (nI t)), (3, .int (nI (m % n % w))), (4, .int (nI (m % n / w))), (5, .int (zb (zq_any (fun a => zk w h n dy (zix w t a) && zcd w t (m % n) a) a))), (6, .int (nI a))] [] mem := by
      intro f
      induction f with
      | zero =>
        intro a ha
        refine bX9_isBehindShift_68 _ _ _ _ _ _ _ ?_
        rw [M.1]
        refine pk_le w a (fun _ => ⟨zb_01 _, ?_⟩) (fun z => by omega)
        rw [show a = w by omega]; exact kk
      | succ f ih =>
        intro a ha
        have nx := ih (a + 1) (by omega)
        obtain ⟨i1, i2⟩ := zix_ok G' (t := t) (a := a) (by omega) t8 hmt (by omega)
        rw [zq_any] at nx
        have k143 : ∀ V : Int, (-1000 ≤ V ∧ V ≤ 1000) → decide (V % (w : Int) = 0) = zcd w t (m % n) a → zm_Z gX9_isBehindShift post 143 [(0, .ref 21), (2, .int (nI t)), (3, .int (nI (m % n % w))), (4, .int (nI (m % n / w))), (5, .int (zb (zq_any (fun a => zk w h n dy (zix w t a) && zcd w t (m % n) a) a))), (6, .int (nI a)), (7, .int (nI (zix w t a)))] [.int (zi V)] mem := by
          intro V hV hc
          have a1 := Int.emod_nonneg V (show (w : Int) ≠ 0 by omega)
          have a2 := Int.emod_lt_of_pos V (show (0 : Int) < w by omega)
          refine bX9_isBehindShift_143 _ _ _ _ _ _ _ _ _ (zb_ne0 _ (fun q => bX9_isBehindShift_172 _ _ _ _ _ _ ?_) (fun q => ⟨pk_in (zix w t a) 36 (by omega), ?_⟩))
          · rw [q, Bool.true_or] at nx; rw [nI_1]; exact nx
          · rw [q, Bool.false_or] at nx
            rw [nI_clamp (by omega), hS _ i1, nI_1, M.1]
            refine zb_eq0 _ (fun q2 => ?_) (fun q2 => r_rest h1 h2 hV ?_)
            · rw [q2] at nx; exact nx
            · rw [q2, Bool.true_and, ← hc] at nx
              rw [show (0 : Int32) = zi 0 from rfl, zi_eq (by omega) (by omega) (by omega) (by omega)]
              refine ⟨fun z => ?_, fun z => bX9_isBehindShift_172 _ _ _ _ _ _ ?_⟩
              · rw [decide_eq_false z] at nx; exact nx
              · rw [decide_eq_true z] at nx; rw [nI_1]; exact nx
        have k114 : zm_Z gX9_isBehindShift post 114 [(0, .ref 21), (2, .int (nI t)), (3, .int (nI (m % n % w))), (4, .int (nI (m % n / w))), (5, .int (zb (zq_any (fun a => zk w h n dy (zix w t a) && zcd w t (m % n) a) a))), (6, .int (nI a))] [.int (nI (zix w t a))] mem := by
          refine bX9_isBehindShift_114 _ _ _ _ _ _ _ _ (zn_ne t 6 (fun e6 => ?_) (fun e6 => ?_))
          · have := k143 (((m % n % w : Nat) : Int) - ((m % n / w : Nat) : Int) - 2 * (a : Int)) (by omega) (by unfold zcd; rw [if_neg e6])
            rw [← zi_sub, ← zi_sub, ← zi_mul, zi_nI, zi_nI, zi_nI] at this
            exact this
          · have := k143 (((m % n % w : Nat) : Int) + ((m % n / w : Nat) : Int) - 2 * (a : Int)) (by omega) (by unfold zcd; rw [if_pos e6])
            rw [← zi_sub, ← zi_add, ← zi_mul, zi_nI, zi_nI, zi_nI] at this
            exact this
        refine bX9_isBehindShift_68 _ _ _ _ _ _ _ ?_
        rw [M.1]
        refine pk_le w a (fun z => by omega) (fun _ => zn_ne t 6 (fun e6 => ?_) (fun e6 => ?_))
        · have a1 := Int.emod_nonneg (-(a : Int)) (show (w : Int) ≠ 0 by omega)
          have e7 : nI (zix w t a) = zi ((-(a : Int)) % (w : Int)) * nI w + nI a := by
            unfold zix
            rw [if_neg e6, ← zi_nI, ← zi_nI w, ← zi_nI a, zi_mul, zi_add, Int.natCast_add, Int.natCast_mul, Int.toNat_of_nonneg a1]
          rw [e7] at k114
          have e8 : -(nI a) = zi (-(a : Int)) := by rw [← zi_nI a, zi_neg]
          rw [e8]
          refine r_rest h1 h2 (by omega) ?_
          try dsimp only
          rw [M.1]
          exact k114
        · have e7 : nI (zix w t a) = nI a * nI w + nI a := by
            unfold zix
            rw [if_pos e6, pk_mul, nI_add]
          rw [e7] at k114
          exact k114
    exact loop w 0 (by omega)
  · rw [if_neg e4, if_pos e5] at kk; exact kk
  · rw [if_pos e4] at kk; exact kk
theorem r_allBehind (G : zG w h n) (M : zM w h mem) (P : zPm n dy mem) (hS : ∀ s, s < n → mem 30 s = zb (zk w h n dy s)) {t : Nat} (h4 : 4 ≤ t) (ht : t < 8) (kk : post (zb (zat w h n dy t)) 0 mem) : zm_Call gX9_allBehind [.ref 21, .int (nI t)] mem post := by
  have h7 := G.2.2.2.2.2.2
  refine bX9_allBehind_0 _ _ _ ?_
  have loop : ∀ f s, s + f = n → zm_Z gX9_allBehind post 4 [(0, .ref 21), (1, .int (nI t)), (2, .int (zb (zq_all (fun s => !(zt_trn w h t && zk w h n dy (t * n + s)) || zbs w h n dy t s) s))), (3, .int (nI s))] [] mem := by
    intro f
    induction f with
    | zero =>
      intro s hs
      refine bX9_allBehind_4 _ _ _ _ _ (r_cells G M (pk_le n s (fun _ => ⟨zb_01 _, ?_⟩) (fun z => by omega)))
      rw [show s = n by omega]; exact kk
    | succ f ih =>
      intro s hs
      have nx := ih (s + 1) (by omega)
      rw [zq_all] at nx
      refine bX9_allBehind_4 _ _ _ _ _ (r_cells G M (pk_le n s (fun z => by omega) (fun _ => r_isTurn G M ht (zb_eq0 _ (fun e => ⟨zb_01 _, ?_⟩) (fun e => r_cells G M (zb_eq0 _ (fun q => ?_) (fun q => ?_)))))))
      · have all : ∀ m, zq_all (fun s => !(zt_trn w h t && zk w h n dy (t * n + s)) || zbs w h n dy t s) m = true := fun m => zq_all_iff.mpr (fun i _ => by rw [e]; rfl)
        unfold zat at kk
        rw [all] at kk ⊢
        exact kk
      · rw [q, Bool.false_and] at nx
        rw [nI_1]; exact nx
      · rw [q, Bool.true_and, e, Bool.true_and] at nx
        rw [pk_mul, nI_add, nI_1, Nat.mul_comm n t]
        have hmv : zt_mv w h n (t * n + s) = true := by rw [zt_blk_mv ht (by omega)]; exact e
        have b1 := (zt_blk (n := n) (t := t) (s := s) (by omega)).1
        have b2 := (zt_blk (n := n) (t := t) (s := s) (by omega)).2
        refine r_keepsIt G M P (zt_blk_lt ht (by omega)) (zb_eq0 _ (fun q3 => bX9_allBehind_52 _ _ _ _ ?_) (fun q3 => r_isBehindShift G M hS hmv (by rw [b1]; exact h4) ?_))
        · rw [q3] at nx; rw [nI_1]; exact nx
        · rw [q3, Bool.not_true, Bool.false_or] at nx
          rw [b1, b2]
          refine zb_eq0 _ (fun q4 => ?_) (fun q4 => bX9_allBehind_52 _ _ _ _ ?_)
          · rw [q4] at nx; exact nx
          · rw [q4] at nx; rw [nI_1]; exact nx
  exact loop n 0 (by omega)
theorem r_kind (G : zG w h n) (M : zM w h mem) (P : zPm n dy mem) (hS : ∀ s, s < n → mem 30 s = zb (zk w h n dy s)) (kk : post (nI (zkn (zft w h n dy 1) (zft w h n dy 2) (zq_ct (fun i => zft w h n dy (4 + i)) 4) (zq_ct (fun i => zhm w h n dy (4 + i)) 4) (zq_all (fun i => zat w h n dy (4 + i)) 4))) 0 mem) : ∀ f i, i + f = 4 → zm_Z gX9_kind post 33 [(0, .ref 21), (1, .int (zb (zft w h n dy 1))), (2, .int (zb (zft w h n dy 2))), (3, .int (nI (zq_ct (fun i => zft w h n dy (4 + i)) i))), (4, .int (nI (zq_ct (fun i => zhm w h n dy (4 + i)) i))), (5, .int (zb (zq_all (fun i => zat w h n dy (4 + i)) i))), (6, .int (nI (4 + i)))] [] mem := by
  intro f
  induction f with
  | zero =>
    intro i hi
    have e : i = 4 := by omega
    subst e
    have hF4 := zq_ct_le (fun i => zft w h n dy (4 + i)) 4
    have hM4 := zq_ct_le (fun i => zhm w h n dy (4 + i)) 4
    generalize zq_ct (fun i => zft w h n dy (4 + i)) 4 = F at *
    generalize zq_ct (fun i => zhm w h n dy (4 + i)) 4 = Mi at *
    unfold zkn at kk
    refine bX9_kind_33 _ _ _ _ _ _ _ _ (pk_le 8 8 (fun _ => zn_ne F 0 (fun e1 => zb_eq0 _ (fun e2 => zb_eq0 _ (fun e3 => zn_ne Mi 1 (fun e4 => ?_) (fun e4 => zb_eq0 _ (fun e5 => ?_) (fun e5 => ?_))) (fun e3 => zn_ne Mi 2 (fun e4 => zn_ne Mi 1 (fun e5 => ?_) (fun e5 => ?_)) (fun e4 => zb_eq0 _ (fun e5 => ?_) (fun e5 => ?_)))) (fun e2 => zn_ne Mi 4 (fun e4 => ?_) (fun e4 => ?_))) (fun e1 => zb_eq0 _ (fun e2 => zb_eq0 _ (fun e3 => ?_) (fun e3 => ?_)) (fun e2 => ?_))) (fun z => by omega))
    · rw [if_neg e1, e2, if_neg (by decide), e3, if_neg (by decide), if_neg e4] at kk; exact kk
    · rw [if_neg e1, e2, if_neg (by decide), e3, if_neg (by decide), if_pos e4, e5] at kk; exact kk
    · rw [if_neg e1, e2, if_neg (by decide), e3, if_neg (by decide), if_pos e4, e5] at kk; exact kk
    · rw [if_neg e1, e2, if_neg (by decide), e3, if_pos rfl, if_neg e4, if_neg e5] at kk; exact kk
    · rw [if_neg e1, e2, if_neg (by decide), e3, if_pos rfl, if_neg e4, if_pos e5] at kk; exact kk
    · rw [if_neg e1, e2, if_neg (by decide), e3, if_pos rfl, if_pos e4, e5] at kk; exact kk
    · rw [if_neg e1, e2, if_neg (by decide), e3, if_pos rfl, if_pos e4, e5] at kk; exact kk
    · rw [if_neg e1, e2, if_pos rfl, if_neg e4] at kk; exact kk
    · rw [if_neg e1, e2, if_pos rfl, if_pos e4] at kk; exact kk
    · rw [if_pos e1, e2, if_neg (by decide), e3] at kk; exact kk
    · rw [if_pos e1, e2, if_neg (by decide), e3] at kk; exact kk
    · rw [if_pos e1, e2] at kk; exact kk
  | succ f ih =>
    intro i hi
    have nx := ih (i + 1) (by omega)
    rw [zq_ct, zq_ct, zq_all] at nx
    have zat0 : zft w h n dy (4 + i) = false → zat w h n dy (4 + i) = true := fun q => by
      unfold zft at q
      unfold zat
      refine zq_all_iff.mpr (fun s hs => ?_)
      cases e : zt_trn w h (4 + i) with
      | false => rfl
      | true =>
        rw [e, Bool.true_and] at q
        have : zk w h n dy ((4 + i) * n + s) = false := by
          cases q2 : zk w h n dy ((4 + i) * n + s) with
          | false => rfl
          | true => rw [zq_yes (p := fun s => zk w h n dy ((4 + i) * n + s)) hs q2] at q; cases q
        rw [this]; rfl
    have k77 : ∀ s0 : Nat, s0 = (if zhm w h n dy (4 + i) = true then 1 else 0) → zm_Z gX9_kind post 77 [(0, .ref 21), (1, .int (zb (zft w h n dy 1))), (2, .int (zb (zft w h n dy 2))), (3, .int (nI (zq_ct (fun i => zft w h n dy (4 + i)) i + if zft w h n dy (4 + i) = true then 1 else 0))), (5, .int (zb (zq_all (fun i => zat w h n dy (4 + i)) i))), (6, .int (nI (4 + i))), (7, .int (zb (zft w h n dy (4 + i))))] [.int (nI s0), .int (nI (zq_ct (fun i => zhm w h n dy (4 + i)) i))] mem := by
      intro s0 hs0
      rw [← hs0] at nx
      have fin : zat w h n dy (4 + i) = true → zq_all (fun i => zat w h n dy (4 + i)) i = true → zm_Z gX9_kind post 99 [(0, .ref 21), (1, .int (zb (zft w h n dy 1))), (2, .int (zb (zft w h n dy 2))), (3, .int (nI (zq_ct (fun i => zft w h n dy (4 + i)) i + if zft w h n dy (4 + i) = true then 1 else 0))), (4, .int (nI (zq_ct (fun i => zhm w h n dy (4 + i)) i) + nI s0)), (6, .int (nI (4 + i)))] [] mem := by
        intro q1 q2
        refine bX9_kind_99 _ _ _ _ _ _ _ ?_
        rw [nI_1, nI_add]
        rw [q1, q2] at nx
        exact nx
      refine bX9_kind_77 _ _ _ _ _ _ _ _ _ _ (zb_eq0 _ (fun q => ?_) (fun q => zb_eq0 _ (fun q2 => fin (zat0 q2) q) (fun q2 => r_allBehind G M P hS (by omega) (by omega) (zb_eq0 _ (fun q3 => ?_) (fun q3 => fin q3 q)))))
      · rw [q] at nx; rw [nI_1, nI_add]; exact nx
      · rw [q3, Bool.and_false] at nx; rw [nI_1, nI_add]; exact nx
    have k59 : ∀ s0 : Nat, s0 = (if zft w h n dy (4 + i) = true then 1 else 0) → zm_Z gX9_kind post 59 [(0, .ref 21), (1, .int (zb (zft w h n dy 1))), (2, .int (zb (zft w h n dy 2))), (4, .int (nI (zq_ct (fun i => zhm w h n dy (4 + i)) i))), (5, .int (zb (zq_all (fun i => zat w h n dy (4 + i)) i))), (6, .int (nI (4 + i))), (7, .int (zb (zft w h n dy (4 + i))))] [.int (nI s0), .int (nI (zq_ct (fun i => zft w h n dy (4 + i)) i))] mem := by
      intro s0 hs0
      refine bX9_kind_59 _ _ _ _ _ _ _ _ _ _ (r_isMirrored G M P (by omega) ?_)
      rw [nI_add, hs0]
      refine zb_eq0 _ (fun q => k77 0 (by rw [if_neg (by simp [q])])) (fun q => k77 1 (by rw [if_pos q]))
    refine bX9_kind_33 _ _ _ _ _ _ _ _ (pk_le 8 (4 + i) (fun z => by omega) (fun _ => r_fits G M P (by omega) (zb_eq0 _ (fun q => k59 0 (by rw [if_neg (by simp [q])])) (fun q => k59 1 (by rw [if_pos q])))))
theorem st_kind (J : zJ w h n k dy t0 mv r mem) : zm_Call gX8_kind [.ref 0] mem (zR gX9_kind [.ref 21]) := by
  refine bX8_kind_0 _ _ (q_number J.G J.C J.pd (bX9_kind_0 _ _ (r_layShifts J.G J.th.M J.th.pm (fun u F hS => ?_))))
  have J2 := J.th.keep F
  refine r_fits (t := 1) J2.G J2.M J2.pm (by decide) (r_fits (t := 2) J2.G J2.M J2.pm (by decide) ?_)
  exact r_kind J2.G J2.M J2.pm hS ⟨rfl, rfl, J2.inv⟩ 4 0 rfl
theorem st_mirrored (J : zJ w h n k dy t0 mv r mem) (x : Int32) : zm_Call gX8_mirrored [.ref 0, .int x] mem (zR gX9_mirrored [.ref 21, .int x]) := by
  have bad : ¬ (4 ≤ x.toInt ∧ x.toInt ≤ 7) → zR gX9_mirrored [.ref 21, .int x] (-2) 0 mem := by
    intro z
    refine bX9_mirrored_0 _ _ _ (r_inI (lo := 4) (hi := 7) (by decide) (by decide) rfl rfl ?_)
    rw [show (decide (((4 : Nat) : Int) ≤ x.toInt) && decide (x.toInt ≤ ((7 : Nat) : Int))) = false by simp; omega]
    exact ⟨fun z => absurd rfl z, fun _ => ⟨rfl, rfl, J.th.inv⟩⟩
  refine bX8_mirrored_0 _ _ _ ⟨fun z => bad ?_, fun z => ⟨fun z2 => ?_, fun z2 => bad ?_⟩⟩
  · rw [Int32.lt_iff_toInt_lt, show (4 : Int32).toInt = 4 from rfl] at z; omega
  · rw [Int32.lt_iff_toInt_lt, show (4 : Int32).toInt = 4 from rfl] at z
    rw [Int32.lt_iff_toInt_lt, show (8 : Int32).toInt = 8 from rfl] at z2
    obtain ⟨t, t1, t2, t3, rfl⟩ := zmid (x := x) (lo := 4) (hi := 7) (by omega) (by omega)
    refine q_hasMirror J.G J.C J.pd (by omega) (q_oneIf (bX9_mirrored_0 _ _ _ (r_inI (lo := 4) (hi := 7) (by decide) (by decide) rfl rfl ?_)))
    rw [nI_toInt t3, show (decide (((4 : Nat) : Int) ≤ (t : Int)) && decide ((t : Int) ≤ ((7 : Nat) : Int))) = true by simp; omega]
    refine ⟨fun _ => r_isMirrored J.G J.th.M J.th.pm (by omega) (zb_eq0 _ (fun e => ?_) (fun e => ?_)), fun z => absurd z (by decide)⟩
    · rw [e]; exact ⟨rfl, rfl, J.th.inv⟩
    · rw [e]; exact ⟨rfl, rfl, J.th.inv⟩
  · rw [Int32.lt_iff_toInt_lt, show (8 : Int32).toInt = 8 from rfl] at z2; omega
theorem st_mirror (J : zJ w h n k dy t0 mv r mem) (x : Int32) : zm_Call gX8_mirror [.ref 0, .int x] mem (zR gX9_mirror [.ref 21, .int x]) := by
  have h6 := J.h6
  have h7 := J.h7
  refine bX8_mirror_0 _ _ _ (q_hasMove J.G J.C x (zb_ne0 _ (fun e => ?_) (fun e => ?_)))
  · obtain ⟨m, hm, ht, rfl⟩ := zt_isM_of e
    have hm2 := zt_mv_iff.mpr ⟨hm, ht⟩
    have t8 := zt_div hm
    refine q_turnOf J.G J.C hm (pk_le 4 (m / n) (fun z => q_turnOf J.G J.C hm (q_shiftOf J.G J.C hm (q_isMirror J.G J.C t8 (Nat.mod_lt _ h6) (q_oneIf (bX9_mirror_0 _ _ _ (r_noMove J.G J.th.M _ ?_)))))) (fun z => bX9_mirror_0 _ _ _ (r_noMove J.G J.th.M _ ?_)))
    · rw [e]
      refine ⟨fun _ => r_cells J.G J.th.M ⟨nI_ne0 h6 (by omega), ?_⟩, fun z => absurd rfl z⟩
      rw [pk_div (by omega) h6 (by omega)]
      refine pk_le 4 (m / n) (fun _ => r_isMirror J.G J.th.M hm2 (zb_eq0 _ (fun e2 => ?_) (fun e2 => ?_))) (fun z2 => by omega)
      · rw [e2]; exact ⟨rfl, rfl, J.th.inv⟩
      · rw [e2]; exact ⟨rfl, rfl, J.th.inv⟩
    · rw [e]
      refine ⟨fun _ => r_cells J.G J.th.M ⟨nI_ne0 h6 (by omega), ?_⟩, fun z => absurd rfl z⟩
      rw [pk_div (by omega) h6 (by omega)]
      exact pk_le 4 (m / n) (fun z2 => by omega) (fun _ => ⟨rfl, rfl, J.th.inv⟩)
  · refine bX9_mirror_0 _ _ _ (r_noMove J.G J.th.M x ?_)
    rw [e]
    exact ⟨fun z => absurd z (by decide), fun _ => ⟨rfl, rfl, J.th.inv⟩⟩
end ZKIND2
