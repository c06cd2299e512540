/-! moves that keep the patch -/
def zk (w h n : Nat) (dy : Nat → Nat) (m : Nat) : Bool := zq_all (fun c => dy (zt w h n m c) == dy c) n
def zkt (w h n : Nat) (dy : Nat → Nat) (t : Nat) : Nat := if zt_trn w h t then zq_ct (fun s => zk w h n dy (t * n + s)) n else 0
def zkm (w h n : Nat) (dy : Nat → Nat) (m : Nat) : Bool := zt_mv w h n m && zk w h n dy m
/-- the i-th that is so, from m on, a of them being behind -/
def zkf (p : Nat → Bool) (i : Int) : Nat → Nat → Nat → Int32
  | 0, _, _ => -9
  | f + 1, m, a => if p m then (if (a : Int) = i then nI m else zkf p i f (m + 1) (a + 1)) else zkf p i f (m + 1) a
def zPd (n : Nat) (dy : Nat → Nat) (mem : zm_Mem) : Prop := ∀ c, c < n → mem 3 c = nI (dy c) ∧ dy c < 10
def zPm (n : Nat) (dy : Nat → Nat) (mem : zm_Mem) : Prop := ∀ c, c < n → mem 22 c = nI (dy c) ∧ dy c < 10
theorem zq_ct_split (p : Nat → Bool) (m : Nat) : ∀ n, zq_ct p (m + n) = zq_ct p m + zq_ct (fun k => p (m + k)) n
  | 0 => rfl
  | n + 1 => by
    have h := zq_ct_split p m n
    show zq_ct p (m + n) + (if p (m + n) then 1 else 0) = zq_ct p m + (zq_ct (fun k => p (m + k)) n + (if p (m + n) then 1 else 0))
    rw [h]
    omega
theorem zq_ct_zero {p : Nat → Bool} : ∀ {n : Nat}, (∀ k, k < n → p k = false) → zq_ct p n = 0
  | 0, _ => rfl
  | n + 1, h => by rw [zq_ct, zq_ct_zero (fun k hk => h k (by omega)), h n (by omega)]; rfl
/-- sums of numbers -/
def zq_sm (f : Nat → Nat) : Nat → Nat
  | 0 => 0
  | n + 1 => zq_sm f n + f n
theorem zq_blocks (p : Nat → Bool) (n : Nat) : ∀ T, zq_ct p (T * n) = zq_sm (fun t => zq_ct (fun s => p (t * n + s)) n) T
  | 0 => by rw [Nat.zero_mul]; rfl
  | T + 1 => by
    rw [Nat.succ_mul, zq_ct_split, zq_blocks p n T]
    rfl
theorem zq_sm_cong {f g : Nat → Nat} : ∀ {n : Nat}, (∀ k, k < n → f k = g k) → zq_sm f n = zq_sm g n
  | 0, _ => rfl
  | n + 1, h => by rw [zq_sm, zq_sm, zq_sm_cong (fun k hk => h k (by omega)), h n (by omega)]
theorem zq_sm_one {f : Nat → Nat} {i : Nat} : ∀ {n : Nat}, i < n → (∀ k, k < n → k ≠ i → f k = 0) → zq_sm f n = f i
  | 0, h, _ => absurd h (Nat.not_lt_zero _)
  | n + 1, h, h2 => by
    rw [zq_sm]
    by_cases e : i = n
    · have : zq_sm f n = 0 := by
        have z : zq_sm f n = zq_sm (fun _ => 0) n := zq_sm_cong (fun k hk => h2 k (by omega) (by omega))
        rw [z]
        clear z h2 h e
        induction n with
        | zero => rfl
        | succ n ih => rw [zq_sm, ih]
      rw [this, e, Nat.zero_add]
    · rw [zq_sm_one (by omega) (fun k hk hne => h2 k (by omega) hne), h2 n (by omega) (by omega), Nat.add_zero]
section ZKEEP
variable {w h n : Nat} {dy : Nat → Nat} {mem : zm_Mem} {post : zm_Post}
theorem zkf_none {p : Nat → Bool} {i : Int} : ∀ f m a : Nat, (i < (a : Int) ∨ (a : Int) + zq_ct (fun s => p (m + s)) f ≤ i) → zkf p i f m a = -9
  | 0, _, _, _ => rfl
  | f + 1, m, a, hi => by
    have e := zq_ct_split (fun s => p (m + s)) 1 f
    have e2 : zq_ct (fun k => p (m + (1 + k))) f = zq_ct (fun k => p (m + 1 + k)) f := zq_ct_cong (fun k _ => by rw [Nat.add_assoc])
    rw [Nat.add_comm 1 f, e2] at e
    have e3 : zq_ct (fun s => p (m + s)) 1 = if p m then 1 else 0 := by simp [zq_ct]
    rw [e3] at e
    rw [zkf]
    split
    · rename_i hp
      rw [if_pos hp] at e
      rw [if_neg (by omega)]
      exact zkf_none f (m + 1) (a + 1) (by omega)
    · rename_i hp
      rw [if_neg hp] at e
      exact zkf_none f (m + 1) a (by omega)
theorem zt_blk {t s : Nat} (hs : s < n) : (t * n + s) / n = t ∧ (t * n + s) % n = s := by
  constructor
  · rw [Nat.add_comm, Nat.add_mul_div_right _ _ (by omega), Nat.div_eq_of_lt hs, Nat.zero_add]
  · rw [Nat.add_comm, Nat.add_mul_mod_self_right, Nat.mod_eq_of_lt hs]
theorem zt_blk_lt {t s : Nat} (ht : t < 8) (hs : s < n) : t * n + s < 8 * n := by
  have : (t + 1) * n ≤ 8 * n := Nat.mul_le_mul_right n ht
  rw [Nat.succ_mul] at this
  omega
theorem zt_blk_mv {t s : Nat} (ht : t < 8) (hs : s < n) : zt_mv w h n (t * n + s) = zt_trn w h t := by
  unfold zt_mv
  rw [(zt_blk hs).1]
  simp [zt_blk_lt ht hs]
/-- all that keep it, by turns -/
theorem zka_sum : zq_ct (zkm w h n dy) (8 * n) = zq_sm (zkt w h n dy) 8 := by
  rw [zq_blocks]
  apply zq_sm_cong
  intro t ht
  unfold zkt
  by_cases e : zt_trn w h t = true
  · rw [if_pos e]
    apply zq_ct_cong
    intro s hs
    simp [zkm, zt_blk_mv ht hs, e]
  · rw [if_neg e]
    apply zq_ct_zero
    intro s hs
    simp [zkm, zt_blk_mv ht hs, e]
theorem zkt_ct {t : Nat} (ht : t < 8) : zq_ct (fun m => zkm w h n dy m && decide (m / n = t)) (8 * n) = zkt w h n dy t := by
  rw [zq_blocks, zq_sm_one (i := t) (by omega)]
  · unfold zkt
    by_cases e : zt_trn w h t = true
    · rw [if_pos e]
      apply zq_ct_cong
      intro s hs
      simp [zkm, zt_blk_mv ht hs, e, (zt_blk hs).1]
    · rw [if_neg e]
      apply zq_ct_zero
      intro s hs
      simp [zkm, zt_blk_mv ht hs, e]
  · intro u hu hne
    apply zq_ct_zero
    intro s hs
    simp [(zt_blk hs).1, hne]
theorem q_isKeptBy (G : zG w h n) (C : zC w h n mem) (P : zPd n dy mem) {m : Nat} (hm : m < 8 * n) (k : post (zb (zk w h n dy m)) 0 mem) : zm_Call gX5_isKeptBy [.ref 2, .int (nI m)] mem post := by
  have h7 := G.2.2.2.2.2.2
  refine bX5_isKeptBy_0 _ _ _ ?_
  have loop : ∀ j c, c + j = n → zq_all (fun c => dy (zt w h n m c) == dy c) c = true → zm_Z gX5_isKeptBy post 2 [(0, .ref 2), (1, .int (nI m)), (2, .int (nI c))] [] mem := by
    intro j
    induction j with
    | zero =>
      intro c hc hp
      refine bX5_isKeptBy_2 _ _ _ _ ?_
      rw [C.2.2]
      refine pk_le n c (fun _ => ?_) (fun z => by omega)
      rw [show c = n by omega] at hp
      unfold zk at k
      rw [hp] at k
      exact k
    | succ j ih =>
      intro c hc hp
      have hl := zt_lt G m c
      have p1 := P _ hl
      have p2 := P c (by omega)
      refine bX5_isKeptBy_2 _ _ _ _ ?_
      rw [C.2.2]
      refine pk_le n c (fun z => by omega) (fun _ => q_target G C hm (by omega) ⟨pk_in (zt w h n m c) 36 (by omega), pk_in c 36 (by omega), ?_⟩)
      rw [nI_clamp (by omega), nI_clamp (by omega), p1.1, p2.1, nI_1]
      refine pk_eq (dy (zt w h n m c)) (dy c) (fun e => ?_) (fun e => ?_)
      · exact ih (c + 1) (by omega) (by simp [zq_all, hp, e])
      · unfold zk at k
        rw [zq_no (m := c) (by omega) (by simpa using e)] at k
        exact k
  exact loop n 0 (by omega) rfl
theorem q_keepersOf (G : zG w h n) (C : zC w h n mem) (P : zPd n dy mem) {t : Nat} (ht : t < 8) (k : post (nI (zkt w h n dy t)) 0 mem) : zm_Call gX5_keepersOf [.ref 2, .int (nI t)] mem post := by
  have h7 := G.2.2.2.2.2.2
  refine bX5_keepersOf_0 _ _ _ (q_hasTurn G C (by omega) (zb_ne0 _ (fun e => ?_) (fun e => ?_)))
  · unfold zkt at k
    rw [if_pos e] at k
    rw [C.2.2, pk_mul]
    have loop : ∀ j s, s + j = n → zm_Z gX5_keepersOf post 28 [(0, .ref 2), (2, .int (nI (zq_ct (fun s => zk w h n dy (t * n + s)) s))), (3, .int (nI (t * n))), (4, .int (nI s))] [] mem := by
      intro j
      induction j with
      | zero =>
        intro s hs
        refine bX5_keepersOf_28 _ _ _ _ _ ?_
        rw [C.2.2]
        refine pk_le n s (fun _ => ?_) (fun z => by omega)
        rw [show s = n by omega]
        exact k
      | succ j ih =>
        intro s hs
        refine bX5_keepersOf_28 _ _ _ _ _ ?_
        rw [C.2.2, nI_add, nI_1, nI_1]
        refine pk_le n s (fun z => by omega) (fun _ => q_isKeptBy G C P (zt_blk_lt ht (by omega)) (zb_eq0 _ (fun e => ?_) (fun e => ?_)))
        · have := ih (s + 1) (by omega)
          rw [zq_ct, if_neg (by simp [e]), Nat.add_zero] at this
          exact this
        · have := ih (s + 1) (by omega)
          rw [zq_ct, if_pos e] at this
          exact this
    exact loop n 0 (by omega)
  · unfold zkt at k
    rw [if_neg (by simp [e])] at k
    exact k
theorem zkt_le (t : Nat) : zkt w h n dy t ≤ n := by
  unfold zkt
  split
  · exact zq_ct_le _ _
  · omega
theorem q_keepersOfAll (G : zG w h n) (C : zC w h n mem) (P : zPd n dy mem) (k : post (nI (zq_ct (zkm w h n dy) (8 * n))) 0 mem) : zm_Call gX5_keepersOfAll [.ref 2] mem post := by
  rw [zka_sum] at k
  refine bX5_keepersOfAll_0 _ _ ?_
  have loop : ∀ j t, t + j = 8 → zm_Z gX5_keepersOfAll post 4 [(0, .ref 2), (1, .int (nI (zq_sm (zkt w h n dy) t))), (2, .int (nI t))] [] mem := by
    intro j
    induction j with
    | zero =>
      intro t ht
      refine bX5_keepersOfAll_4 _ _ _ _ (pk_le 8 t (fun _ => ?_) (fun z => by omega))
      rw [show t = 8 by omega]
      exact k
    | succ j ih =>
      intro t ht
      refine bX5_keepersOfAll_4 _ _ _ _ (pk_le 8 t (fun z => by omega) (fun _ => q_keepersOf G C P (by omega) ?_))
      try dsimp only
      rw [nI_1, nI_add]
      exact ih (t + 1) (by omega)
  exact loop 8 0 rfl
theorem q_keeperLoop (G : zG w h n) (C : zC w h n mem) (P : zPd n dy mem) (i : Int32) : ∀ f m a, m + f = 8 * n → a ≤ m → post (zkf (zkm w h n dy) i.toInt f m a) 0 mem → zm_Z gX5_keeperNumber post 22 [(0, .ref 2), (1, .int i), (2, .int (nI a)), (3, .int (nI m))] [] mem := by
  have h7 := G.2.2.2.2.2.2
  intro f
  induction f with
  | zero =>
    intro m a hm ha k
    refine bX5_keeperNumber_22 _ _ _ _ _ (q_numbers C (pk_le (8 * n) m (fun _ => k) (fun z => by omega)))
  | succ f ih =>
    intro m a hm ha k
    rw [zkf] at k
    refine bX5_keeperNumber_22 _ _ _ _ _ (q_numbers C (pk_le (8 * n) m (fun z => by omega) (fun _ => q_hasMove G C _ ?_)))
    try dsimp only
    rw [zt_isM_nI (by omega), nI_1, nI_1]
    refine zb_eq0 _ (fun e => ih (m + 1) a (by omega) (by omega) ?_) (fun e => q_isKeptBy G C P (by omega) (zb_eq0 _ (fun e2 => ih (m + 1) a (by omega) (by omega) ?_) (fun e2 => ?_)))
    · rw [if_neg (by simp [zkm, e])] at k; exact k
    · rw [if_neg (by simp [zkm, e2])] at k; exact k
    · rw [if_pos (by simp [zkm, e, e2])] at k
      rw [← Int32.toInt_inj, nI_toInt (by omega)]
      refine ⟨fun z => ih (m + 1) (a + 1) (by omega) (by omega) (by rw [if_neg z] at k; exact k), fun z => by rw [if_pos z] at k; exact k⟩
theorem zq_ct_sub {p q : Nat → Bool} : ∀ {n : Nat}, (∀ k, k < n → p k = true → q k = true) → zq_ct p n ≤ zq_ct q n
  | 0, _ => Nat.le_refl _
  | n + 1, h => by
    have h1 := zq_ct_sub (p := p) (q := q) (n := n) (fun k hk => h k (by omega))
    have h2 := h n (by omega)
    rw [zq_ct, zq_ct]
    by_cases e : p n = true
    · rw [if_pos e, if_pos (h2 e)]; omega
    · rw [if_neg e]; omega
def zmc (w h n : Nat) : Nat := if w = h then 8 * n else 4 * n
theorem zmc_ct (w h n : Nat) : zq_ct (zt_mv w h n) (8 * n) = zmc w h n := by
  rw [zq_blocks]
  have e : ∀ t, t < 8 → zq_ct (fun s => zt_mv w h n (t * n + s)) n = if zt_trn w h t then n else 0 := by
    intro t ht
    by_cases e : zt_trn w h t = true
    · rw [if_pos e]
      have : zq_ct (fun s => zt_mv w h n (t * n + s)) n = zq_ct (fun _ => true) n := zq_ct_cong (fun s hs => by rw [zt_blk_mv ht hs, e])
      rw [this]
      clear this
      induction n with
      | zero => rfl
      | succ n ih => rw [zq_ct, ih]; rfl
    · rw [if_neg e]
      exact zq_ct_zero (fun s hs => by rw [zt_blk_mv ht hs]; simpa using e)
  rw [zq_sm_cong e]
  unfold zmc
  by_cases q : w = h
  · rw [if_pos q]
    simp [zq_sm, zt_trn, q]
    omega
  · rw [if_neg q]
    simp [zq_sm, zt_trn, q]
    omega
theorem zka_le : zq_ct (zkm w h n dy) (8 * n) ≤ zmc w h n := by
  rw [← zmc_ct]
  exact zq_ct_sub (fun m _ e => by simp [zkm] at e; exact e.1)
theorem q_keeperNumber (G : zG w h n) (C : zC w h n mem) (P : zPd n dy mem) (i : Int32) (k : post (zkf (zkm w h n dy) i.toInt (8 * n) 0 0) 0 mem) : zm_Call gX5_keeperNumber [.ref 2, .int i] mem post := by
  have h7 := G.2.2.2.2.2.2
  have hc : zmc w h n < 2 ^ 31 := by unfold zmc; split <;> omega
  have kl := zka_le (w := w) (h := h) (n := n) (dy := dy)
  have e0 : zq_ct (fun s => zkm w h n dy (0 + s)) (8 * n) = zq_ct (zkm w h n dy) (8 * n) := zq_ct_cong (fun s _ => by rw [Nat.zero_add])
  refine bX5_keeperNumber_0 _ _ _ ⟨fun z => ?_, fun z => q_moveCount G C ⟨fun z2 => q_keeperLoop G C P i (8 * n) 0 0 (by omega) (by omega) k, fun z2 => ?_⟩⟩
  · rw [Int32.lt_iff_toInt_lt, show (0 : Int32).toInt = 0 from rfl] at z
    rw [zkf_none _ _ _ (Or.inl (by omega))] at k
    exact k
  · rw [Int32.lt_iff_toInt_lt] at z2
    have e : (nI (if w = h then 8 * n else 4 * n)).toInt = zmc w h n := nI_toInt hc
    rw [e] at z2
    rw [zkf_none _ _ _ (Or.inr (by rw [e0]; omega))] at k
    exact k
/-! the reference -/
theorem r_keepsIt (G : zG w h n) (M : zM w h mem) (P : zPm n dy mem) {m : Nat} (hm : m < 8 * n) (k : post (zb (zk w h n dy m)) 0 mem) : zm_Call gX9_keepsIt [.ref 21, .int (nI m)] mem post := by
  have h7 := G.2.2.2.2.2.2
  refine bX9_keepsIt_0 _ _ _ ?_
  have loop : ∀ j c, c + j = n → zm_Z gX9_keepsIt post 4 [(0, .ref 21), (1, .int (nI m)), (2, .int (zb (zq_all (fun c => dy (zt w h n m c) == dy c) c))), (3, .int (nI c))] [] mem := by
    intro j
    induction j with
    | zero =>
      intro c hc
      refine bX9_keepsIt_4 _ _ _ _ _ (r_cells G M (pk_le n c (fun _ => ⟨zb_01 _, ?_⟩) (fun z => by omega)))
      rw [show c = n by omega]
      exact k
    | succ j ih =>
      intro c hc
      have hl := zt_lt G m c
      have p1 := P _ hl
      have p2 := P c (by omega)
      have nx := ih (c + 1) (by omega)
      rw [zq_all] at nx
      refine bX9_keepsIt_4 _ _ _ _ _ (r_cells G M (pk_le n c (fun z => by omega) (fun _ => zb_eq0 _ (fun e => ?_) (fun e => ⟨pk_in c 36 (by omega), r_ledTo G M hm (by omega) ⟨pk_in (zt w h n m c) 36 (by omega), ?_⟩⟩))))
      · rw [nI_1]
        rw [e] at nx
        exact nx
      · rw [nI_clamp (by omega), nI_clamp (by omega), p1.1, p2.1, nI_1]
        rw [e, Bool.true_and] at nx
        refine zn_ne (dy c) (dy (zt w h n m c)) (fun e2 => ?_) (fun e2 => ?_)
        · rw [show (dy (zt w h n m c) == dy c) = false by simpa using Ne.symm e2] at nx
          exact nx
        · rw [show (dy (zt w h n m c) == dy c) = true by simp [e2]] at nx
          exact nx
  exact loop n 0 (by omega)
theorem r_keeperLoop (G : zG w h n) (M : zM w h mem) (P : zPm n dy mem) (i : Int32) : ∀ f m a, m + f = 8 * n → a ≤ m → post (zkf (zkm w h n dy) i.toInt f m a) 0 mem → zm_Z gX9_keeper post 9 [(0, .ref 21), (1, .int i), (2, .int (nI a)), (3, .int (nI m))] [] mem := by
  have h7 := G.2.2.2.2.2.2
  intro f
  induction f with
  | zero =>
    intro m a hm ha k
    refine bX9_keeper_9 _ _ _ _ _ (r_cells G M ?_)
    rw [show (8 : Int32) = nI 8 from rfl, pk_mul]
    exact pk_le (8 * n) m (fun _ => k) (fun z => by omega)
  | succ f ih =>
    intro m a hm ha k
    rw [zkf] at k
    refine bX9_keeper_9 _ _ _ _ _ (r_cells G M ?_)
    rw [show (8 : Int32) = nI 8 from rfl, pk_mul]
    refine pk_le (8 * n) m (fun z => by omega) (fun _ => r_noMove G M _ ?_)
    try dsimp only
    rw [zt_isM_nI (by omega), nI_1, nI_1]
    refine zb_ne0 _ (fun e => ih (m + 1) a (by omega) (by omega) ?_) (fun e => r_keepsIt G M P (by omega) (zb_eq0 _ (fun e2 => ih (m + 1) a (by omega) (by omega) ?_) (fun e2 => ?_)))
    · rw [if_neg (by simp at e; simp [zkm, e])] at k; exact k
    · rw [if_neg (by simp [zkm, e2])] at k; exact k
    · simp at e
      rw [if_pos (by simp [zkm, e, e2])] at k
      rw [← Int32.toInt_inj, nI_toInt (by omega)]
      refine ⟨fun z => ih (m + 1) (a + 1) (by omega) (by omega) (by rw [if_neg z] at k; exact k), fun z => by rw [if_pos z] at k; exact k⟩
theorem r_keptLoop (G : zG w h n) (M : zM w h mem) (P : zPm n dy mem) {t : Nat} (ht : t ≤ 8) (k : post (nI (zq_ct (fun m => zkm w h n dy m && (decide (t = 8) || decide (m / n = t))) (8 * n))) 0 mem) : ∀ f m, m + f = 8 * n → zm_Z gX9_kept post 24 [(0, .ref 21), (1, .int (nI t)), (2, .int (nI (zq_ct (fun m => zkm w h n dy m && (decide (t = 8) || decide (m / n = t))) m))), (3, .int (nI m))] [] mem := by
  have h6 := G.2.2.2.2.2.1
  have h7 := G.2.2.2.2.2.2
  intro f
  induction f with
  | zero =>
    intro m hm
    refine bX9_kept_24 _ _ _ _ _ (r_cells G M ?_)
    rw [show (8 : Int32) = nI 8 from rfl, pk_mul]
    refine pk_le (8 * n) m (fun _ => ?_) (fun z => by omega)
    rw [show m = 8 * n by omega]
    exact k
  | succ f ih =>
    intro m hm
    have nx := ih (m + 1) (by omega)
    rw [zq_ct] at nx
    have no : (zkm w h n dy m && (decide (t = 8) || decide (m / n = t))) = false → zm_Z gX9_kept post 72 [(0, .ref 21), (1, .int (nI t)), (3, .int (nI m))] [.int (nI (zq_ct (fun m => zkm w h n dy m && (decide (t = 8) || decide (m / n = t))) m))] mem := by
      intro e
      refine bX9_kept_72 _ _ _ _ _ ?_
      rw [show (0 : Int32) = nI 0 from rfl, nI_add, nI_1]
      rw [if_neg (by simp [e])] at nx
      exact nx
    have yes : zt_mv w h n m = true → (decide (t = 8) || decide (m / n = t)) = true → zm_Z gX9_kept post 60 [(0, .ref 21), (1, .int (nI t)), (3, .int (nI m))] [.int (nI (zq_ct (fun m => zkm w h n dy m && (decide (t = 8) || decide (m / n = t))) m))] mem := by
      intro e1 e2
      refine bX9_kept_60 _ _ _ _ _ (r_keepsIt G M P (by omega) (zb_eq0 _ (fun e => no (by simp [zkm, e])) (fun e => ?_)))
      rw [nI_1, nI_1]
      rw [if_pos (by rw [e2]; simp [zkm, e1, e])] at nx
      exact nx
    refine bX9_kept_24 _ _ _ _ _ (r_cells G M ?_)
    rw [show (8 : Int32) = nI 8 from rfl, pk_mul]
    refine pk_le (8 * n) m (fun z => by omega) (fun _ => r_noMove G M _ ?_)
    try dsimp only
    rw [zt_isM_nI (by omega)]
    refine zb_ne0 _ (fun e => no (by simp at e; simp [zkm, e])) (fun e => pk_eq t 8 (fun e2 => yes (by simpa using e) (by simp [e2])) (fun e2 => r_cells G M ⟨nI_ne0 h6 (by omega), ?_⟩))
    rw [pk_div (by omega) h6 (by omega)]
    have := zt_div (n := n) (m := m) (by omega)
    exact zn_ne (m / n) t (fun e3 => no (by simp [e2, e3])) (fun e3 => yes (by simpa using e) (by simp [e3]))
end ZKEEP
