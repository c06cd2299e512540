/-! colours of cells: told, counted, moved -/
def zal (k : Nat) (x : Int32) : Bool := zt_isC k x || decide (x = 9)
def zmask (dy : Nat → Nat) : Nat → Nat
  | 0 => 0
  | c + 1 => if dy c = 9 then zmask dy c else zmask dy c ||| 2 ^ dy c
def zpc (a : Nat) : Nat := a % 2 + a / 2 % 2 + a / 4 % 2 + a / 8
def zdig (N i : Nat) : Nat := N / 10 ^ i % 10
def zfig (k m N : Nat) : Bool := zq_all (fun i => decide (zdig N i < k) || decide (zdig N i = 9)) m && decide (N / 10 ^ m = 0)
def zdys (dy : Nat → Nat) (c m N : Nat) : Nat → Nat := fun d => if c ≤ d ∧ d < c + m then zdig N (c + m - 1 - d) else dy d
def zcol (k : Nat) (dy : Nat → Nat) : Nat → Nat := fun c => if dy c < k ∨ dy c = 9 then dy c else 0
def zgo (w h n : Nat) (dy : Nat → Nat) (m : Nat) : Nat → Nat := fun d => dy (zt w h n (zt_un w h n m) d)
def zdye (dy : Nat → Nat) (c v : Nat) : Nat → Nat := fun d => if d = c then v else dy d
section ZDYE
variable {w h n k : Nat} {dy : Nat → Nat} {mem : zm_Mem} {post : zm_Post}
theorem zmask_or : ∀ a, a < 16 → ∀ d, d < 4 → (nI a ||| ((1 : Int32) <<< (nI d &&& 31)) = nI (a ||| 2 ^ d) ∧ a ||| 2 ^ d < 16) := by decide +kernel
theorem zmask_lt (hk : k ≤ 4) (hd : ∀ c, c < n → dy c < k ∨ dy c = 9) : ∀ c, c ≤ n → zmask dy c < 16
  | 0, _ => by show 0 < 16; decide
  | c + 1, hc => by
    have ih := zmask_lt hk hd c (by omega)
    rw [zmask]
    split
    · exact ih
    · rcases hd c (by omega) with q | q
      · exact (zmask_or _ ih _ (by omega)).2
      · contradiction
theorem q_isHue (hk : mem 2 3 = nI k) (hk4 : k ≤ 4) (x : Int32) (kk : post (zb (zt_isC k x)) 0 mem) : zm_Call gX5_isHue [.ref 2, .int x] mem post := by
  refine bX5_isHue_0 _ _ _ ?_
  rw [hk, Int32.lt_iff_toInt_lt, Int32.le_iff_toInt_le, nI_toInt (show k < 2 ^ 31 by omega), show (0 : Int32).toInt = 0 from rfl]
  refine ⟨fun z => ?_, fun z => ⟨fun z2 => ?_, fun z2 => ?_⟩⟩
  · rw [show zt_isC k x = false by unfold zt_isC; simp; omega] at kk; exact kk
  · rw [show zt_isC k x = false by unfold zt_isC; simp; omega] at kk; exact kk
  · rw [show zt_isC k x = true by unfold zt_isC; simp; omega] at kk; exact kk
theorem q_allows (hk : mem 2 3 = nI k) (hk4 : k ≤ 4) (x : Int32) (kk : post (zb (zal k x)) 0 mem) : zm_Call gX5_allows [.ref 2, .int x] mem post := by
  refine bX5_allows_0 _ _ _ (q_isHue hk hk4 x (zb_ne0 _ (fun e => ?_) (fun e => ⟨fun z => ?_, fun z => ?_⟩)))
  · rw [show zal k x = true by simp [zal, e]] at kk; exact kk
  · rw [show zal k x = false by simp [zal, e, z]] at kk; exact kk
  · rw [show zal k x = true by simp [zal, z]] at kk; exact kk
theorem zal_nI {d : Nat} (hd : d < 10) : zal k (nI d) = (decide (d < k) || decide (d = 9)) := by
  unfold zal
  have e : nI d = 9 ↔ d = 9 := nI_eq (a := d) (b := 9) (by omega) (by decide)
  rw [zt_isC_nI (by omega)]
  simp only [e]
theorem q_clear (kk : ∀ u, zF [3] mem u → (∀ c, c < 36 → u 3 c = 0) → post 0 0 u) : zm_Call gX5_clear [.ref 2] mem post := by
  refine bX5_clear_0 _ _ ?_
  have loop : ∀ j c u, c + j = 36 → zF [3] mem u → (∀ d, d < c → u 3 d = 0) → zm_Z gX5_clear post 2 [(0, .ref 2), (1, .int (nI c))] [] u := by
    intro j
    induction j with
    | zero =>
      intro c u hc F hu
      exact bX5_clear_2 _ _ _ (pk_le 36 c (fun _ => kk u F (fun d hd => hu d (by omega))) (fun z => by omega))
    | succ j ih =>
      intro c u hc F hu
      refine bX5_clear_2 _ _ _ (pk_le 36 c (fun z => by omega) (fun _ => ⟨pk_in c 36 (by omega), ?_⟩))
      rw [nI_clamp (by omega), nI_1]
      refine ih (c + 1) _ (by omega) (F.st (by decide)) (fun d hd => ?_)
      by_cases e : d = c
      · rw [e, zs_self]
      · rw [zs_slot e]; exact hu d (by omega)
  exact loop 36 0 mem rfl zF.rf (fun d hd => by omega)
theorem q_allowHues (G : zG w h n) (C : zC w h n mem) (hk : 1 ≤ k) (hk4 : k ≤ 4) (P : zPd n dy mem) (kk : ∀ u, zF [2, 3] mem u → u 2 3 = nI k → (∀ c, c < n → u 3 c = nI (zcol k dy c)) → post 0 0 u) : zm_Call gX5_allowHues [.ref 2, .int (nI k)] mem post := by
  have h7 := G.2.2.2.2.2.2
  refine bX5_allowHues_0 _ _ _ ?_
  have loop : ∀ j c u, c + j = n → zF [2, 3] mem u → u 2 3 = nI k → (∀ d, d < n → u 3 d = nI (if d < c then zcol k dy d else dy d)) → zm_Z gX5_allowHues post 7 [(0, .ref 2), (2, .int (nI c))] [] u := by
    intro j
    induction j with
    | zero =>
      intro c u hc F hu hd
      refine bX5_allowHues_7 _ _ _ ?_
      rw [show u 1 2 = nI n by rw [F 1 (by decide)]; exact C.2.2]
      exact pk_le n c (fun _ => kk u F hu (fun d hd' => by rw [hd d hd', if_pos (by omega)])) (fun z => by omega)
    | succ j ih =>
      intro c u hc F hu hd
      have hdc := hd c (by omega)
      rw [if_neg (by omega)] at hdc
      have hd10 := (P c (by omega)).2
      refine bX5_allowHues_7 _ _ _ ?_
      rw [show u 1 2 = nI n by rw [F 1 (by decide)]; exact C.2.2]
      refine pk_le n c (fun z => by omega) (fun _ => ⟨pk_in c 36 (by omega), ?_⟩)
      rw [nI_clamp (by omega), hdc, nI_1]
      refine q_allows hu hk4 _ ?_
      rw [zal_nI hd10]
      refine zb_ne0 _ (fun e => ih (c + 1) u (by omega) F hu (fun d hdn => ?_)) (fun e => ⟨pk_in c 36 (by omega), ih (c + 1) _ (by omega) (F.st (by decide)) (by rw [zs_cell (by decide)]; exact hu) (fun d hdn => ?_)⟩)
      · by_cases q : d = c
        · rw [q, hdc, if_pos (by omega)]
          simp at e
          rw [zcol, if_pos e]
        · rw [hd d hdn]
          by_cases q2 : d < c
          · rw [if_pos q2, if_pos (by omega)]
          · rw [if_neg q2, if_neg (by omega)]
      · by_cases q : d = c
        · rw [q, zs_self, if_pos (by omega)]
          simp at e
          rw [zcol, if_neg (by omega)]
          rfl
        · rw [zs_slot q, hd d hdn]
          by_cases q2 : d < c
          · rw [if_pos q2, if_pos (by omega)]
          · rw [if_neg q2, if_neg (by omega)]
  refine loop n 0 _ (by omega) (zF.rf.st (by decide)) (zs_self _ _ _ _) (fun d hd => ?_)
  rw [zs_cell (by decide), if_neg (by omega)]
  exact (P d hd).1
theorem zdig_step (N i : Nat) : N / 10 ^ i / 10 = N / 10 ^ (i + 1) := by rw [Nat.div_div_eq_div_mul, ← Nat.pow_succ]
theorem zfig_lt (N i : Nat) (hN : N < 2 ^ 31) : N / 10 ^ i < 2 ^ 31 := Nat.lt_of_le_of_lt (Nat.div_le_self _ _) hN
theorem q_allowsFigures (hk : mem 2 3 = nI k) (hk4 : k ≤ 4) {m N : Nat} (hm : m ≤ 9) (hN : N < 2 ^ 31) (kk : post (zb (zfig k m N)) 0 mem) : zm_Call gX5_allowsFigures [.ref 2, .int (nI m), .int (nI N)] mem post := by
  refine bX5_allowsFigures_0 _ _ _ _ (pk_le 0 N (fun _ => ?_) (fun z => by omega))
  have loop : ∀ j i, i + j = m → zq_all (fun i => decide (zdig N i < k) || decide (zdig N i = 9)) i = true → zm_Z gX5_allowsFigures post 11 [(0, .ref 2), (1, .int (nI m)), (3, .int (nI (N / 10 ^ i))), (4, .int (nI i))] [] mem := by
    intro j
    induction j with
    | zero =>
      intro i hi hp
      have hl := zfig_lt N i hN
      refine bX5_allowsFigures_11 _ _ _ _ _ (pk_le m i (fun _ => ?_) (fun z => by omega))
      have e : i = m := by omega
      subst e
      unfold zfig at kk
      rw [hp, Bool.true_and] at kk
      refine zn_ne (N / 10 ^ i) 0 (fun e => ?_) (fun e => ?_)
      · rw [show decide (N / 10 ^ i = 0) = false by simpa using e] at kk; exact kk
      · rw [show decide (N / 10 ^ i = 0) = true by simpa using e] at kk; exact kk
    | succ j ih =>
      intro i hi hp
      have hl := zfig_lt N i hN
      refine bX5_allowsFigures_11 _ _ _ _ _ (pk_le m i (fun z => by omega) (fun _ => ?_))
      rw [show (10 : Int32) = nI 10 from rfl, pk_rem hl (by decide) (by decide), pk_div hl (by decide) (by decide), nI_1, zdig_step]
      have hd : zdig N i < 10 := Nat.mod_lt _ (by decide)
      refine q_allows hk hk4 _ ?_
      rw [show N / 10 ^ i % 10 = zdig N i from rfl, zal_nI hd]
      refine zb_ne0 _ (fun e => ih (i + 1) (by omega) (by rw [zq_all, hp, e]; rfl)) (fun e => ?_)
      unfold zfig at kk
      rw [zq_no (m := i) (by omega) e] at kk
      exact kk
  have := loop m 0 (by omega) rfl
  rw [Nat.pow_zero, Nat.div_one] at this
  exact this
theorem zdys_at {c m N d : Nat} (h1 : c ≤ d) (h2 : d < c + m) : zdys dy c m N d = zdig N (c + m - 1 - d) := if_pos ⟨h1, h2⟩
/-- class: figures from the last cell on -/
theorem q_dyeFigures (G : zG w h n) {c m N : Nat} (hc : c + m ≤ n) (hm : 1 ≤ m) (hN : N < 2 ^ 31) (P : zPd n dy mem) (kk : ∀ u, zF [3] mem u → (∀ d, d < n → u 3 d = nI (zdys dy c m N d)) → post (nI (zq_ct (fun j => !(dy (c + j) == zdys dy c m N (c + j))) m)) 0 u) : zm_Call gX5_dyeFigures [.ref 2, .int (nI c), .int (nI m), .int (nI N)] mem post := by
  have h7 := G.2.2.2.2.2.2
  refine bX5_dyeFigures_0 _ _ _ _ _ ?_
  rw [nI_add, show (1 : Int32) = nI 1 from rfl, pk_sub (by omega)]
  have loop : ∀ j u T, j ≤ m → zF [3] mem u → (∀ d, d < n → u 3 d = nI (if d < c + j then dy d else zdys dy c m N d)) → T + zq_ct (fun j => !(dy (c + j) == zdys dy c m N (c + j))) j = zq_ct (fun j => !(dy (c + j) == zdys dy c m N (c + j))) m → zm_Z gX5_dyeFigures post 13 [(0, .ref 2), (1, .int (nI c)), (4, .int (nI T)), (5, .int (nI (N / 10 ^ (m - j)))), (6, .int (nI (c + j) + (-1)))] [] u := by
    intro j
    induction j with
    | zero =>
      intro u T hj F hd hT
      refine bX5_dyeFigures_13 _ _ _ _ _ _ ?_
      rw [Nat.add_zero, show (-1 : Int32) = -(nI 1) from rfl]
      refine ⟨fun _ => ?_, fun z => absurd ?_ z⟩
      · rw [show T = zq_ct (fun j => !(dy (c + j) == zdys dy c m N (c + j))) m from hT]
        refine kk u F (fun d hd' => ?_)
        rw [hd d hd']
        split
        · rename_i q
          rw [zdys, if_neg (by omega)]
        · rfl
      · rw [Int32.lt_iff_toInt_lt, nI_toInt (by omega), ← zi_nI c, ← zi_nI 1, zi_neg, zi_add, zi_toInt (by omega) (by omega)]
        omega
    | succ j ih =>
      intro u T hj F hd hT
      have hcj := hd (c + j) (by omega)
      rw [if_pos (by omega)] at hcj
      have hd10 := (P (c + j) (by omega)).2
      have hl := zfig_lt N (m - (j + 1)) hN
      have ez : zdys dy c m N (c + j) = N / 10 ^ (m - (j + 1)) % 10 := by
        rw [zdys_at (by omega) (by omega), show c + m - 1 - (c + j) = m - (j + 1) by omega]
        rfl
      have key : ∀ T', T' + zq_ct (fun j => !(dy (c + j) == zdys dy c m N (c + j))) j = zq_ct (fun j => !(dy (c + j) == zdys dy c m N (c + j))) m → zm_Z gX5_dyeFigures post 37 [(0, .ref 2), (1, .int (nI c)), (4, .int (nI T')), (5, .int (nI (N / 10 ^ (m - (j + 1))))), (6, .int (nI (c + j)))] [] u := by
        intro T' hT'
        refine bX5_dyeFigures_37 _ _ _ _ _ _ ⟨pk_in (c + j) 36 (by omega), ?_⟩
        rw [show (10 : Int32) = nI 10 from rfl, pk_rem hl (by decide) (by decide), pk_div hl (by decide) (by decide), zdig_step, show m - (j + 1) + 1 = m - j by omega, nI_clamp (by omega)]
        refine ih _ T' (by omega) (F.st (by decide)) (fun d hdn => ?_) hT'
        by_cases q : d = c + j
        · rw [q, zs_self, if_neg (by omega), ez]
        · rw [zs_slot q, hd d hdn]
          by_cases q2 : d < c + j
          · rw [if_pos (by omega), if_pos q2]
          · rw [if_neg (by omega), if_neg q2]
      rw [zq_ct] at hT
      rw [show c + (j + 1) = c + j + 1 by omega, pk_m1]
      refine bX5_dyeFigures_13 _ _ _ _ _ _ (pk_lt (c + j) c (fun z => by omega) (fun _ => ⟨pk_in (c + j) 36 (by omega), ?_⟩))
      rw [show (10 : Int32) = nI 10 from rfl, pk_rem hl (by decide) (by decide), nI_clamp (by omega), hcj, nI_1]
      have hr : N / 10 ^ (m - (j + 1)) % 10 < 10 := Nat.mod_lt _ (by decide)
      refine pk_eq (dy (c + j)) (N / 10 ^ (m - (j + 1)) % 10) (fun e => ?_) (fun e => ?_)
      · rw [if_neg (by simp [ez, e])] at hT
        exact key T hT
      · rw [if_pos (by simp [ez, e])] at hT
        exact key (T + 1) (by omega)
  have := loop m mem 0 (Nat.le_refl m) zF.rf (fun d hd => by
    rw [(P d hd).1]
    split
    · rfl
    · rw [zdys, if_neg (by omega)]) (by omega)
  rw [Nat.sub_self, Nat.pow_zero, Nat.div_one] at this
  rw [show nI (c + m) + (-1) = nI (c + m - 1) by rw [show c + m = (c + m - 1) + 1 by omega, pk_m1]; rfl] at this
  exact this
theorem q_hiddenCount (G : zG w h n) (C : zC w h n mem) (P : zPd n dy mem) (kk : post (nI (zq_ct (fun c => dy c == 9) n)) 0 mem) : zm_Call gX5_hiddenCount [.ref 2] mem post := by
  have h7 := G.2.2.2.2.2.2
  refine bX5_hiddenCount_0 _ _ ?_
  have loop : ∀ j c, c + j = n → zm_Z gX5_hiddenCount post 4 [(0, .ref 2), (1, .int (nI (zq_ct (fun c => dy c == 9) c))), (2, .int (nI c))] [] mem := by
    intro j
    induction j with
    | zero =>
      intro c hc
      refine bX5_hiddenCount_4 _ _ _ _ ?_
      rw [C.2.2]
      refine pk_le n c (fun _ => ?_) (fun z => by omega)
      rw [show c = n by omega]; exact kk
    | succ j ih =>
      intro c hc
      have p2 := P c (by omega)
      have nx := ih (c + 1) (by omega)
      rw [zq_ct] at nx
      refine bX5_hiddenCount_4 _ _ _ _ ?_
      rw [C.2.2]
      refine pk_le n c (fun z => by omega) (fun _ => ⟨pk_in c 36 (by omega), ?_⟩)
      rw [nI_clamp (by omega), p2.1, nI_1, nI_1]
      refine zn_ne (dy c) 9 (fun e => ?_) (fun e => ?_)
      · rw [if_neg (by simpa using e)] at nx; exact nx
      · rw [if_pos (by simpa using e)] at nx; exact nx
  exact loop n 0 (by omega)
theorem q_bitCount {a : Nat} (ha : a < 16) (kk : post (nI (zpc a)) 0 mem) : zm_Call gJ6_bitCount_0f7a4 [.int (nI a)] mem post := by
  refine bJ6_bitCount_0f7a4_0 _ _ _ ?_
  rcases (show a = 0 ∨ a = 1 ∨ a = 2 ∨ a = 3 ∨ a = 4 ∨ a = 5 ∨ a = 6 ∨ a = 7 ∨ a = 8 ∨ a = 9 ∨ a = 10 ∨ a = 11 ∨ a = 12 ∨ a = 13 ∨ a = 14 ∨ a = 15 by omega) with rfl | rfl | rfl | rfl | rfl | rfl | rfl | rfl | rfl | rfl | rfl | rfl | rfl | rfl | rfl | rfl <;> exact kk
theorem q_usedHues (G : zG w h n) (C : zC w h n mem) (hk4 : k ≤ 4) (hd : ∀ c, c < n → dy c < k ∨ dy c = 9) (P : zPd n dy mem) (kk : post (nI (zpc (zmask dy n))) 0 mem) : zm_Call gX5_usedHues [.ref 2] mem post := by
  have h7 := G.2.2.2.2.2.2
  refine bX5_usedHues_0 _ _ ?_
  have loop : ∀ j c, c + j = n → zm_Z gX5_usedHues post 4 [(0, .ref 2), (1, .int (nI (zmask dy c))), (2, .int (nI c))] [] mem := by
    intro j
    induction j with
    | zero =>
      intro c hc
      refine bX5_usedHues_4 _ _ _ _ ?_
      rw [C.2.2]
      refine pk_le n c (fun _ => q_bitCount (zmask_lt hk4 hd c (by omega)) ?_) (fun z => by omega)
      rw [show c = n by omega]; exact kk
    | succ j ih =>
      intro c hc
      have p2 := P c (by omega)
      have nx := ih (c + 1) (by omega)
      rw [zmask] at nx
      refine bX5_usedHues_4 _ _ _ _ ?_
      rw [C.2.2]
      refine pk_le n c (fun z => by omega) (fun _ => ⟨pk_in c 36 (by omega), ?_⟩)
      rw [nI_clamp (by omega), p2.1, nI_1]
      refine pk_eq (dy c) 9 (fun e => ?_) (fun e => ⟨pk_in c 36 (by omega), ?_⟩)
      · rw [if_pos e] at nx; exact nx
      · rw [if_neg e] at nx
        rw [(zmask_or _ (zmask_lt hk4 hd c (by omega)) (dy c) (by have := hd c (by omega); omega)).1]
        exact nx
  exact loop n 0 (by omega)
theorem q_moveBy (G : zG w h n) (C : zC w h n mem) (P : zPd n dy mem) {m : Nat} (hm : zt_mv w h n m = true) (kk : ∀ u, zF [3, 4] mem u → (∀ d, d < n → u 3 d = nI (zgo w h n dy m d)) → post (nI (zq_ct (fun c => !(zgo w h n dy m c == dy c)) n)) 0 u) : zm_Call gX5_moveBy [.ref 2, .int (nI m)] mem post := by
  have h7 := G.2.2.2.2.2.2
  have hml := (zt_mv_iff.mp hm).1
  have hum := zt_un_mv G hm
  refine bX5_moveBy_0 _ _ _ ?_
  have loop3 : ∀ j c u, c + j = n → zF [3, 4] mem u → (∀ d, d < n → u 3 d = nI (zgo w h n dy m d)) → (∀ d, d < n → u 4 d = nI (dy d)) → zm_Z gX5_moveBy post 74 [(0, .ref 2), (2, .int (nI (zq_ct (fun c => !(zgo w h n dy m c == dy c)) c))), (3, .int (nI c))] [] u := by
    intro j
    induction j with
    | zero =>
      intro c u hc F h3 h4
      refine bX5_moveBy_74 _ _ _ _ ?_
      rw [show u 1 2 = nI n by rw [F 1 (by decide)]; exact C.2.2]
      refine pk_le n c (fun _ => ?_) (fun z => by omega)
      rw [show c = n by omega]; exact kk u F h3
    | succ j ih =>
      intro c u hc F h3 h4
      have nx := ih (c + 1) u (by omega) F h3 h4
      rw [zq_ct] at nx
      have b1 := (P c (by omega)).2
      have b2 := (P _ (zt_lt G (zt_un w h n m) c)).2
      refine bX5_moveBy_74 _ _ _ _ ?_
      rw [show u 1 2 = nI n by rw [F 1 (by decide)]; exact C.2.2]
      refine pk_le n c (fun z => by omega) (fun _ => ⟨pk_in c 36 (by omega), pk_in c 36 (by omega), ?_⟩)
      rw [nI_clamp (by omega), h3 c (by omega), h4 c (by omega), nI_1, nI_1]
      refine pk_eq (zgo w h n dy m c) (dy c) (fun e => ?_) (fun e => ?_) rfl rfl (by unfold zgo; omega)
      · rw [if_neg (by simp [e])] at nx; exact nx
      · rw [if_pos (by simpa using e)] at nx; exact nx
  have loop2 : ∀ j c u, c + j = n → zF [3, 4] mem u → (∀ d, d < n → zt w h n (zt_un w h n m) d < c → u 3 d = nI (zgo w h n dy m d)) → (∀ d, d < n → u 4 d = nI (dy d)) → zm_Z gX5_moveBy post 33 [(0, .ref 2), (1, .int (nI m)), (2, .int (nI c))] [] u := by
    intro j
    induction j with
    | zero =>
      intro c u hc F h3 h4
      refine bX5_moveBy_33 _ _ _ _ ?_
      rw [show u 1 2 = nI n by rw [F 1 (by decide)]; exact C.2.2]
      refine pk_le n c (fun _ => ?_) (fun z => by omega)
      exact loop3 n 0 u (by omega) F (fun d hd => h3 d hd (by rw [show c = n by omega]; exact zt_lt G _ _)) h4
    | succ j ih =>
      intro c u hc F h3 h4
      have hl := zt_lt G m c
      refine bX5_moveBy_33 _ _ _ _ ?_
      rw [show u 1 2 = nI n by rw [F 1 (by decide)]; exact C.2.2]
      refine pk_le n c (fun z => by omega) (fun _ => q_target G (by unfold zC; rw [F 1 (by decide)]; exact C) hml (by omega) ⟨pk_in c 36 (by omega), pk_in (zt w h n m c) 36 (by omega), ?_⟩)
      rw [nI_clamp (by omega), nI_clamp (by omega), h4 c (by omega), nI_1]
      refine ih (c + 1) _ (by omega) (F.st (by decide)) (fun d hd hlt => ?_) (fun d hd => by rw [zs_cell (by decide)]; exact h4 d hd)
      by_cases q : d = zt w h n m c
      · rw [q, zs_self, zgo, (zt_back G hm (by omega)).1]
      · rw [zs_slot q]
        refine h3 d hd ?_
        have : zt w h n (zt_un w h n m) d ≠ c := fun e => q (by rw [← e]; exact (zt_back G hm hd).2.symm)
        omega
  have loop1 : ∀ j c u, c + j = n → zF [3, 4] mem u → (∀ d, d < n → u 3 d = nI (dy d)) → (∀ d, d < c → u 4 d = nI (dy d)) → zm_Z gX5_moveBy post 2 [(0, .ref 2), (1, .int (nI m)), (2, .int (nI c))] [] u := by
    intro j
    induction j with
    | zero =>
      intro c u hc F h3 h4
      refine bX5_moveBy_2 _ _ _ _ ?_
      rw [show u 1 2 = nI n by rw [F 1 (by decide)]; exact C.2.2]
      refine pk_le n c (fun _ => ?_) (fun z => by omega)
      exact loop2 n 0 u (by omega) F (fun d hd hlt => by omega) (fun d hd => h4 d (by omega))
    | succ j ih =>
      intro c u hc F h3 h4
      refine bX5_moveBy_2 _ _ _ _ ?_
      rw [show u 1 2 = nI n by rw [F 1 (by decide)]; exact C.2.2]
      refine pk_le n c (fun z => by omega) (fun _ => ⟨pk_in c 36 (by omega), pk_in c 36 (by omega), ?_⟩)
      rw [nI_clamp (by omega), h3 c (by omega), nI_1]
      refine ih (c + 1) _ (by omega) (F.st (by decide)) (fun d hd => by rw [zs_cell (by decide)]; exact h3 d hd) (fun d hd => ?_)
      by_cases q : d = c
      · rw [q, zs_self]
      · rw [zs_slot q]; exact h4 d (by omega)
  exact loop1 n 0 mem (by omega) zF.rf (fun d hd => (P d hd).1) (fun d hd => by omega)
end ZDYE
