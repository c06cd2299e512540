/-! one call of each: the same answers, the same state behind -/
def zJ (w h n k : Nat) (dy : Nat → Nat) (t : Nat) (mv r : Nat → Nat) (mem : zm_Mem) : Prop := zA w h n k dy t mv r ∧ zCS w h n k dy t mv r mem ∧ zMS w h n k dy t mv mem
def zInv (mem : zm_Mem) : Prop := ∃ (w h n k : Nat) (dy : Nat → Nat) (t : Nat) (mv r : Nat → Nat), zJ w h n k dy t mv r mem
def zR (g : zm_Sig) (as : List Value) : zm_Post := fun x l u => zm_Call g as u (fun x' l' u' => x = x' ∧ l = l' ∧ zInv u')
section ZST1
variable {w h n k t : Nat} {dy mv r : Nat → Nat} {mem : zm_Mem}
theorem zJ.inv (J : zJ w h n k dy t mv r mem) : zInv mem := ⟨_, _, _, _, _, _, _, _, J⟩
theorem zJ.th (J : zJ w h n k dy t mv r mem) : zJ w h n k dy t mv r (zm_st mem 21 0 0) := ⟨J.1, J.2.1.keep (L := [21]) (zF.rf.st (by decide)), J.2.2.st0 (Or.inl rfl)⟩
theorem zJ.keep {L : List Nat} {u : zm_Mem} (J : zJ w h n k dy t mv r mem) (F : zF L mem u) (hL : 1 ∉ L ∧ 2 ∉ L ∧ 3 ∉ L ∧ 8 ∉ L ∧ 9 ∉ L ∧ 10 ∉ L := by decide) (hM : 21 ∉ L ∧ 22 ∉ L ∧ 27 ∉ L := by decide) : zJ w h n k dy t mv r u := ⟨J.1, J.2.1.keep F hL, J.2.2.keep F hM⟩
theorem zJ.G (J : zJ w h n k dy t mv r mem) : zG w h n := J.1.1
theorem zJ.C (J : zJ w h n k dy t mv r mem) : zC w h n mem := J.2.1.1
theorem zJ.M (J : zJ w h n k dy t mv r mem) : zM w h mem := J.2.2.1
theorem zJ.pd (J : zJ w h n k dy t mv r mem) : zPd n dy mem := J.2.1.pd J.1
theorem zJ.pm (J : zJ w h n k dy t mv r mem) : zPm n dy mem := J.2.2.pm J.1
theorem zJ.h6 (J : zJ w h n k dy t mv r mem) : 1 ≤ n := J.1.1.2.2.2.2.2.1
theorem zJ.h7 (J : zJ w h n k dy t mv r mem) : n ≤ 36 := J.1.1.2.2.2.2.2.2
/-- other colours of cells -/
theorem zJ.dye {dy' : Nat → Nat} {u : zm_Mem} {L : List Nat} (J : zJ w h n k dy t mv r mem) (F : zF L mem u) (hd : ∀ c, c < n → dy' c < k ∨ dy' c = 9) (h3 : ∀ c, c < n → u 3 c = nI (dy' c)) (h22 : ∀ c, c < n → u 22 c = nI (dy' c)) (h21 : ∀ j, j ≠ 0 → u 21 j = mem 21 j) (hL : 1 ∉ L ∧ 2 ∉ L ∧ 8 ∉ L ∧ 9 ∉ L ∧ 10 ∉ L ∧ 27 ∉ L := by decide) : zJ w h n k dy' t mv r u := by
  obtain ⟨a1, a2, a4, a5, a6, a7⟩ := hL
  obtain ⟨A, S, S2⟩ := J
  refine ⟨⟨A.1, A.2.1, A.2.2.1, hd, A.2.2.2.2⟩, ?_, ?_⟩
  · unfold zCS zC at *
    rw [F 1 a1, F 2 a2, F 8 a4, F 9 a5, F 10 a6]
    exact ⟨S.1, S.2.1, h3, S.2.2.2⟩
  · unfold zMS zM at *
    rw [F 27 a7, h21 1 (by decide), h21 2 (by decide), h21 3 (by decide), h21 10 (by decide)]
    exact ⟨S2.1, S2.2.1, h22, S2.2.2.2⟩
theorem st_at (J : zJ w h n k dy t mv r mem) (x : Int32) : zm_Call gX8_at [.ref 0, .int x] mem (zR gX9_at [.ref 21, .int x]) := by
  have h7 := J.h7
  refine bX8_at_0 _ _ _ (q_hasCell J.G J.C x (zb_eq0 _ (fun e => ?_) (fun e => ?_)))
  · refine bX9_at_0 _ _ _ (r_noCell J.G J.th.M x ?_)
    rw [e]
    exact ⟨fun z => absurd z (by decide), fun _ => ⟨rfl, rfl, J.th.inv⟩⟩
  · obtain ⟨c, hc, rfl⟩ := zt_isC_of h7 e
    refine ⟨pk_in c 36 (by omega), bX9_at_0 _ _ _ (r_noCell J.G J.th.M _ ?_)⟩
    rw [e]
    refine ⟨fun _ => ⟨pk_in c 36 (by omega), ?_, rfl, J.th.inv⟩, fun z => absurd rfl z⟩
    rw [nI_clamp (by omega), (J.pd c hc).1, (J.th.pm c hc).1]
theorem st_moves (J : zJ w h n k dy t mv r mem) : zm_Call gX8_moves [.ref 0] mem (zR gX9_moves [.ref 21]) := by
  have h7 := J.h7
  obtain ⟨a1, a2, a3, a4, -, -, -⟩ := J.G
  refine bX8_moves_0 _ _ (q_moveCount J.G J.C (bX9_moves_0 _ _ ?_))
  rw [J.th.M.1, J.th.M.2]
  refine zn_ne w h (fun e => r_cells J.G J.th.M ?_) (fun e => r_cells J.G J.th.M ?_)
  · rw [if_neg e, show (4 : Int32) = nI 4 from rfl, pk_mul]; exact ⟨rfl, rfl, J.th.inv⟩
  · rw [if_pos e, show (8 : Int32) = nI 8 from rfl, pk_mul]; exact ⟨rfl, rfl, J.th.inv⟩
theorem st_lead (J : zJ w h n k dy t mv r mem) (x y : Int32) : zm_Call gX8_lead [.ref 0, .int x, .int y] mem (zR gX9_lead [.ref 21, .int x, .int y]) := by
  have h7 := J.h7
  refine bX8_lead_0 _ _ _ _ (q_hasMove J.G J.C x (zb_eq0 _ (fun e => ?_) (fun e => q_hasCell J.G J.C y (zb_eq0 _ (fun e2 => ?_) (fun e2 => ?_)))))
  · refine bX9_lead_0 _ _ _ _ (r_noMove J.G J.th.M x ?_)
    rw [e]
    exact ⟨fun _ => ⟨rfl, rfl, J.th.inv⟩, fun z => absurd z (by decide)⟩
  · refine bX9_lead_0 _ _ _ _ (r_noMove J.G J.th.M x ?_)
    rw [e]
    refine ⟨fun z => absurd rfl z, fun _ => r_noCell J.G J.th.M y ?_⟩
    rw [e2]
    exact ⟨fun z => absurd z (by decide), fun _ => ⟨rfl, rfl, J.th.inv⟩⟩
  · obtain ⟨m, hm, -, rfl⟩ := zt_isM_of e
    obtain ⟨c, hc, rfl⟩ := zt_isC_of h7 e2
    refine q_target J.G J.C hm hc (bX9_lead_0 _ _ _ _ (r_noMove J.G J.th.M _ ?_))
    rw [e]
    refine ⟨fun z => absurd rfl z, fun _ => r_noCell J.G J.th.M _ ?_⟩
    rw [e2]
    exact ⟨fun _ => r_ledTo J.G J.th.M hm hc ⟨rfl, rfl, J.th.inv⟩, fun z => absurd rfl z⟩
theorem st_behind (J : zJ w h n k dy t mv r mem) (x y : Int32) : zm_Call gX8_behind [.ref 0, .int x, .int y] mem (zR gX9_behind [.ref 21, .int x, .int y]) := by
  have h7 := J.h7
  refine bX8_behind_0 _ _ _ _ (q_hasMove J.G J.C x (zb_eq0 _ (fun e => ?_) (fun e => q_hasMove J.G J.C y (zb_eq0 _ (fun e2 => ?_) (fun e2 => ?_)))))
  · refine bX9_behind_0 _ _ _ _ (r_noMove J.G J.th.M x ?_)
    rw [e]
    exact ⟨fun _ => ⟨rfl, rfl, J.th.inv⟩, fun z => absurd z (by decide)⟩
  · refine bX9_behind_0 _ _ _ _ (r_noMove J.G J.th.M x ?_)
    rw [e]
    refine ⟨fun z => absurd rfl z, fun _ => r_noMove J.G J.th.M y ?_⟩
    rw [e2]
    exact ⟨fun z => absurd z (by decide), fun _ => ⟨rfl, rfl, J.th.inv⟩⟩
  · obtain ⟨m, hm, -, rfl⟩ := zt_isM_of e
    obtain ⟨c, hc, -, rfl⟩ := zt_isM_of e2
    refine q_join J.G J.C hm hc (bX9_behind_0 _ _ _ _ (r_noMove J.G J.th.M _ ?_))
    rw [e]
    refine ⟨fun z => absurd rfl z, fun _ => r_noMove J.G J.th.M _ ?_⟩
    rw [e2]
    exact ⟨fun _ => r_two J.G J.th.M hm hc ⟨rfl, rfl, J.th.inv⟩, fun z => absurd rfl z⟩
theorem r_back {post : zm_Post} (G : zG w h n) (M : zM w h mem) {m : Nat} (hm : zt_mv w h n m = true) (kk : post (nI (zt_un w h n m)) 0 mem) : ∀ f i, i + f = zt_un w h n m → zm_Z gX9_back post 17 [(0, .ref 21), (1, .int (nI m)), (2, .int (nI i))] [] mem := by
  have h7 := G.2.2.2.2.2.2
  have h1 := zt_mv_iff.mp hm
  have hu := zt_un_mv G hm
  have h2 := zt_mv_iff.mp hu
  intro f
  induction f with
  | zero =>
    intro i hi
    have e : i = zt_un w h n m := by omega
    refine bX9_back_17 _ _ _ _ (r_noMove G M _ ?_)
    rw [zt_isM_nI (by omega), e, hu]
    refine ⟨fun z => absurd rfl z, fun _ => r_two G M h1.1 h2.1 ?_⟩
    rw [zt_jn_un G h1.1]
    exact ⟨fun _ => kk, fun z => absurd rfl z⟩
  | succ f ih =>
    intro i hi
    have nx := ih (i + 1) (by omega)
    refine bX9_back_17 _ _ _ _ (r_noMove G M _ ?_)
    rw [zt_isM_nI (by omega), nI_1]
    refine ⟨fun _ => nx, fun z => r_two G M h1.1 (by omega) ?_⟩
    refine ⟨fun z2 => ?_, fun _ => nx⟩
    have hj := zt_jn_div G m i
    have hl : zt_jn w h n m i < 8 * n := zt_of_div G hj.1 (zt_jt_lt _ (zt_div h1.1) _ (zt_div (by omega)))
    have e0 := (nI_eq (a := zt_jn w h n m i) (b := 0) (by omega) (by decide)).mp z2
    have := zt_un_one G h1.1 (k := i) (by omega) e0
    omega
theorem st_back (J : zJ w h n k dy t mv r mem) (x : Int32) : zm_Call gX8_back [.ref 0, .int x] mem (zR gX9_back [.ref 21, .int x]) := by
  refine bX8_back_0 _ _ _ (q_hasMove J.G J.C x (zb_eq0 _ (fun e => ?_) (fun e => ?_)))
  · refine bX9_back_0 _ _ _ (r_noMove J.G J.th.M x ?_)
    rw [e]
    exact ⟨fun z => absurd z (by decide), fun _ => ⟨rfl, rfl, J.th.inv⟩⟩
  · obtain ⟨m, hm, ht, rfl⟩ := zt_isM_of e
    refine q_undoing J.G J.C hm (bX9_back_0 _ _ _ (r_noMove J.G J.th.M _ ?_))
    rw [e]
    exact ⟨fun _ => r_back J.G J.th.M (zt_mv_iff.mpr ⟨hm, ht⟩) ⟨rfl, rfl, J.th.inv⟩ (zt_un w h n m) 0 (by omega), fun z => absurd rfl z⟩
theorem r_order {post : zm_Post} (G : zG w h n) (M : zM w h mem) {m : Nat} (hm : zt_mv w h n m = true) (kk : ∀ u, zF [23] mem u → post (nI (zt_od w h n m)) 0 u) : zm_Z gX9_order post 17 [(0, .ref 21), (1, .int (nI m)), (2, .int (nI 0))] [] mem := by
  have h6 := G.2.2.2.2.2.1
  have h7 := G.2.2.2.2.2.2
  have hml := (zt_mv_iff.mp hm).1
  have MM : ∀ u, zF [23] mem u → zM w h u := fun u F => by unfold zM; rw [F 21 (by decide)]; exact M
  have h240 : zt_st w h n m 240 = true := zq_all_iff.mpr (fun c hc => by simp [zt_240 G hm hc])
  have inner : ∀ (i : Nat), (∀ u, zF [23] mem u → (∀ d, d < n → u 23 d = nI (zt_it w h n m (i + 1) d)) → zm_Z gX9_order post 42 [(0, .ref 21), (1, .int (nI m)), (2, .int (nI (i + 1))), (3, .int (zb (zt_st w h n m (i + 1))))] [] u) →
      ∀ j c u, c + j = n → zF [23] mem u → (∀ d, d < n → u 23 d = nI (if d < c then zt_it w h n m (i + 1) d else zt_it w h n m i d)) → zm_Z gX9_order post 51 [(0, .ref 21), (1, .int (nI m)), (2, .int (nI i)), (3, .int (zb (zq_all (fun d => zt_it w h n m (i + 1) d == d) c))), (4, .int (nI c))] [] u := by
    intro i K j
    induction j with
    | zero =>
      intro c u hc F hd
      refine bX9_order_51 _ _ _ _ _ _ (r_cells G (MM u F) (pk_le n c (fun _ => ?_) (fun z => by omega)))
      have e : c = n := by omega
      rw [nI_1, e]
      exact K u F (fun d hdn => by rw [hd d hdn, if_pos (by omega)])
    | succ j ih =>
      intro c u hc F hd
      have hdc := hd c (by omega)
      rw [if_neg (by omega)] at hdc
      have hlt := zt_it_lt G m (c := c) (by omega) i
      have hlt2 := zt_it_lt G m (c := c) (by omega) (i + 1)
      have es : zt w h n m (zt_it w h n m i c) = zt_it w h n m (i + 1) c := rfl
      have nx := ih (c + 1) (zm_st u 23 c (nI (zt_it w h n m (i + 1) c))) (by omega) (F.st (by decide)) (fun d hdn => by
        by_cases q : d = c
        · rw [q, zs_self, if_pos (by omega)]
        · rw [zs_slot q, hd d hdn]
          by_cases q2 : d < c
          · rw [if_pos q2, if_pos (by omega)]
          · rw [if_neg q2, if_neg (by omega)])
      rw [zq_all] at nx
      refine bX9_order_51 _ _ _ _ _ _ (r_cells G (MM u F) (pk_le n c (fun z => by omega) (fun _ => ⟨pk_in c 36 (by omega), ?_⟩)))
      rw [nI_clamp (by omega), hdc]
      refine r_ledTo G (MM u F) hml hlt ⟨pk_in c 36 (by omega), ?_⟩
      rw [es, zs_self, nI_1]
      refine zb_eq0 _ (fun e => ?_) (fun e => ⟨pk_in c 36 (by omega), zn_ne (zt_it w h n m (i + 1) c) c (fun e2 => ?_) (fun e2 => ?_)⟩)
      · rw [e] at nx; exact nx
      · rw [e, Bool.true_and, show (zt_it w h n m (i + 1) c == c) = false by simpa using e2] at nx; exact nx
      · rw [e, Bool.true_and, show (zt_it w h n m (i + 1) c == c) = true by simpa using e2] at nx; exact nx
  have outer : ∀ f i u b, i + f = 240 → zF [23] mem u → (∀ d, d < n → u 23 d = nI (zt_it w h n m i d)) → (b = true → zt_od w h n m = i) → (b = false → i < 240 ∧ zt_od w h n m = zt_fo w h n m (287 - i) (i + 1)) → zm_Z gX9_order post 42 [(0, .ref 21), (1, .int (nI m)), (2, .int (nI i)), (3, .int (zb b))] [] u := by
    intro f
    induction f with
    | zero =>
      intro i u b hi F hd h1 h2
      refine bX9_order_42 _ _ _ _ _ (zb_ne0 _ (fun e => ?_) (fun e => ?_))
      · rw [← h1 e]; exact kk u F
      · have := (h2 e).1; omega
    | succ f ih =>
      intro i u b hi F hd h1 h2
      refine bX9_order_42 _ _ _ _ _ (zb_ne0 _ (fun e => ?_) (fun e => ?_))
      · rw [← h1 e]; exact kk u F
      · obtain ⟨q1, q2⟩ := h2 e
        rw [show 287 - i = (286 - i) + 1 by omega, zt_fo] at q2
        refine inner i (fun v Fv hv => ih (i + 1) v _ (by omega) Fv hv (fun e2 => ?_) (fun e2 => ?_)) n 0 u (by omega) F (fun d hdn => by rw [hd d hdn, if_neg (by omega)])
        · rw [e2] at q2; exact q2
        · rw [e2] at q2
          refine ⟨?_, by rw [show 287 - (i + 1) = 286 - i by omega]; exact q2⟩
          have : i + 1 ≠ 240 := fun z => by rw [z, h240] at e2; cases e2
          omega
  have first : ∀ j c u, c + j = n → zF [23] mem u → (∀ d, d < c → u 23 d = nI d) → zm_Z gX9_order post 17 [(0, .ref 21), (1, .int (nI m)), (2, .int (nI c))] [] u := by
    intro j
    induction j with
    | zero =>
      intro c u hc F hd
      refine bX9_order_17 _ _ _ _ (r_cells G (MM u F) (pk_le n c (fun _ => ?_) (fun z => by omega)))
      exact outer 240 0 u false rfl F (fun d hdn => hd d (by omega)) (fun z => by cases z) (fun _ => ⟨by decide, rfl⟩)
    | succ j ih =>
      intro c u hc F hd
      refine bX9_order_17 _ _ _ _ (r_cells G (MM u F) (pk_le n c (fun z => by omega) (fun _ => ⟨pk_in c 36 (by omega), ?_⟩)))
      rw [nI_clamp (by omega), nI_1]
      refine ih (c + 1) _ (by omega) (F.st (by decide)) (fun d hdn => ?_)
      by_cases q : d = c
      · rw [q, zs_self]
      · rw [zs_slot q]; exact hd d (by omega)
  exact first n 0 mem (by omega) zF.rf (fun d hd => by omega)
theorem st_order (J : zJ w h n k dy t mv r mem) (x : Int32) : zm_Call gX8_order [.ref 0, .int x] mem (zR gX9_order [.ref 21, .int x]) := by
  refine bX8_order_0 _ _ _ (q_hasMove J.G J.C x (zb_eq0 _ (fun e => ?_) (fun e => ?_)))
  · refine bX9_order_0 _ _ _ (r_noMove J.G J.th.M x ?_)
    rw [e]
    exact ⟨fun z => absurd z (by decide), fun _ => ⟨rfl, rfl, J.th.inv⟩⟩
  · obtain ⟨m, hm, ht, rfl⟩ := zt_isM_of e
    have hm2 := zt_mv_iff.mpr ⟨hm, ht⟩
    refine q_timesTillStill J.G J.C hm2 (bX9_order_0 _ _ _ (r_noMove J.G J.th.M _ ?_))
    rw [e]
    exact ⟨fun _ => r_order J.G J.th.M hm2 (fun u F => ⟨rfl, rfl, (J.th.keep F).inv⟩), fun z => absurd rfl z⟩
theorem q_oneIf {b : Bool} {post : zm_Post} (kk : post (zb b) 0 mem) : zm_Call gX8_oneIf [.int (zb b)] mem post := by
  refine bX8_oneIf_0 _ _ _ (zb_eq0 _ (fun e => ?_) (fun e => ?_))
  · rw [e] at kk; exact kk
  · rw [e] at kk; exact kk
theorem st_keeps (J : zJ w h n k dy t mv r mem) (x : Int32) : zm_Call gX8_keeps [.ref 0, .int x] mem (zR gX9_keeps [.ref 21, .int x]) := by
  refine bX8_keeps_0 _ _ _ (q_hasMove J.G J.C x (zb_eq0 _ (fun e => ?_) (fun e => ?_)))
  · refine bX9_keeps_0 _ _ _ (r_noMove J.G J.th.M x ?_)
    rw [e]
    exact ⟨fun z => absurd z (by decide), fun _ => ⟨rfl, rfl, J.th.inv⟩⟩
  · obtain ⟨m, hm, ht, rfl⟩ := zt_isM_of e
    refine q_isKeptBy J.G J.C J.pd hm (q_oneIf (bX9_keeps_0 _ _ _ (r_noMove J.G J.th.M _ ?_)))
    rw [e]
    refine ⟨fun _ => r_keepsIt J.G J.th.M J.th.pm hm (zb_eq0 _ (fun e2 => ?_) (fun e2 => ?_)), fun z => absurd rfl z⟩
    · rw [e2]; exact ⟨rfl, rfl, J.th.inv⟩
    · rw [e2]; exact ⟨rfl, rfl, J.th.inv⟩
theorem zx_in {x : Int32} {b : Nat} (h0 : ¬ x < 0) (h1 : x.toInt ≤ b) : ∃ m, m ≤ b ∧ m < 2 ^ 31 ∧ x = nI m := by
  obtain ⟨j, hj, rfl⟩ := nI_of h0
  rw [nI_toInt hj] at h1
  exact ⟨j, by omega, hj, rfl⟩
theorem st_kept (J : zJ w h n k dy t mv r mem) (x : Int32) : zm_Call gX8_kept [.ref 0, .int x] mem (zR gX9_kept [.ref 21, .int x]) := by
  have bad : ¬ (0 ≤ x.toInt ∧ x.toInt ≤ 8) → zR gX9_kept [.ref 21, .int x] (-2) 0 mem := by
    intro z
    refine bX9_kept_0 _ _ _ (r_inI (lo := 0) (hi := 8) (by decide) (by decide) rfl rfl ?_)
    rw [show (decide (((0 : Nat) : Int) ≤ x.toInt) && decide (x.toInt ≤ ((8 : Nat) : Int))) = false by simp; omega]
    exact ⟨fun z => absurd rfl z, fun _ => ⟨rfl, rfl, J.th.inv⟩⟩
  refine bX8_kept_0 _ _ _ ⟨fun z => bad ?_, fun z => ⟨fun z2 => ?_, fun z2 => bad ?_⟩⟩
  · rw [Int32.lt_iff_toInt_lt, show (0 : Int32).toInt = 0 from rfl] at z; omega
  · rw [Int32.le_iff_toInt_le, show (8 : Int32).toInt = 8 from rfl] at z2
    obtain ⟨m, hm, -, rfl⟩ := zx_in (b := 8) z z2
    have good : zR gX9_kept [.ref 21, .int (nI m)] (nI (zq_ct (fun q => zkm w h n dy q && (decide (m = 8) || decide (q / n = m))) (8 * n))) 0 mem := by
      refine bX9_kept_0 _ _ _ (r_inI (lo := 0) (hi := 8) (by decide) (by decide) rfl rfl ?_)
      rw [nI_toInt (by omega), show (decide (((0 : Nat) : Int) ≤ (m : Int)) && decide ((m : Int) ≤ ((8 : Nat) : Int))) = true by simp; omega]
      exact ⟨fun _ => r_keptLoop J.G J.th.M J.th.pm hm ⟨rfl, rfl, J.th.inv⟩ (8 * n) 0 (by omega), fun z => absurd z (by decide)⟩
    refine zn_ne m 8 (fun e => q_keepersOf J.G J.C J.pd (by omega) ?_) (fun e => q_keepersOfAll J.G J.C J.pd ?_)
    · rw [← zkt_ct (by omega)]
      rw [show zq_ct (fun q => zkm w h n dy q && (decide (m = 8) || decide (q / n = m))) (8 * n) = zq_ct (fun q => zkm w h n dy q && decide (q / n = m)) (8 * n) from zq_ct_cong (fun q _ => by simp [e])] at good
      exact good
    · rw [show zq_ct (fun q => zkm w h n dy q && (decide (m = 8) || decide (q / n = m))) (8 * n) = zq_ct (zkm w h n dy) (8 * n) from zq_ct_cong (fun q _ => by simp [e])] at good
      exact good
  · rw [Int32.le_iff_toInt_le, show (8 : Int32).toInt = 8 from rfl] at z2; omega
theorem st_keeper (J : zJ w h n k dy t mv r mem) (x : Int32) : zm_Call gX8_keeper [.ref 0, .int x] mem (zR gX9_keeper [.ref 21, .int x]) := by
  refine bX8_keeper_0 _ _ _ (q_keeperNumber J.G J.C J.pd x (bX9_keeper_0 _ _ _ ?_))
  exact r_keeperLoop J.G J.th.M J.th.pm x (8 * n) 0 0 (by omega) (by omega) ⟨rfl, rfl, J.th.inv⟩
theorem zk_0 (G : zG w h n) : zk w h n dy 0 = true := zq_all_iff.mpr (fun c hc => by rw [zt_0 G hc]; simp)
theorem zkt_0 (G : zG w h n) : 1 ≤ zkt w h n dy 0 := by
  unfold zkt
  rw [if_pos (by simp [zt_trn])]
  exact zq_ct_pos.mpr ⟨0, G.2.2.2.2.2.1, by simpa using zk_0 G⟩
theorem r_layShifts {post : zm_Post} (G : zG w h n) (M : zM w h mem) (P : zPm n dy mem) (kk : ∀ u, zF [30] mem u → (∀ s, s < n → u 30 s = zb (zk w h n dy s)) → post (nI (zkt w h n dy 0)) 0 u) : zm_Call gX9_layShifts [.ref 21] mem post := by
  have h7 := G.2.2.2.2.2.2
  refine bX9_layShifts_0 _ _ ?_
  have e0 : zkt w h n dy 0 = zq_ct (fun s => zk w h n dy s) n := by
    unfold zkt
    rw [if_pos (by simp [zt_trn])]
    exact zq_ct_cong (fun s _ => by rw [Nat.zero_mul, Nat.zero_add])
  rw [e0] at kk
  have loop : ∀ j c u, c + j = n → zF [30] mem u → (∀ s, s < c → u 30 s = zb (zk w h n dy s)) → zm_Z gX9_layShifts post 4 [(0, .ref 21), (1, .int (nI (zq_ct (fun s => zk w h n dy s) c))), (2, .int (nI c))] [] u := by
    intro j
    induction j with
    | zero =>
      intro c u hc F hd
      have M2 : zM w h u := by unfold zM; rw [F 21 (by decide)]; exact M
      refine bX9_layShifts_4 _ _ _ _ (r_cells G M2 (pk_le n c (fun _ => ?_) (fun z => by omega)))
      have e : c = n := by omega
      subst e
      exact kk u F hd
    | succ j ih =>
      intro c u hc F hd
      have M2 : zM w h u := by unfold zM; rw [F 21 (by decide)]; exact M
      have P2 : zPm n dy u := by unfold zPm; rw [F 22 (by decide)]; exact P
      have nx := ih (c + 1) (zm_st u 30 c (zb (zk w h n dy c))) (by omega) (F.st (by decide)) (fun d hdn => by
        by_cases q : d = c
        · rw [q, zs_self]
        · rw [zs_slot q]; exact hd d (by omega))
      rw [zq_ct] at nx
      refine bX9_layShifts_4 _ _ _ _ (r_cells G M2 (pk_le n c (fun z => by omega) (fun _ => r_keepsIt G M2 P2 (by omega) ⟨pk_in c 36 (by omega), zb_01 _, pk_in c 36 (by omega), ?_⟩)))
      rw [nI_clamp (by omega), zs_self, nI_1, nI_1]
      refine zb_eq0 _ (fun e => ?_) (fun e => ?_)
      · rw [if_neg (by simp [e])] at nx
        rw [show (0 : Int32) = nI 0 from rfl, nI_add]
        exact nx
      · rw [if_pos e] at nx; exact nx
  exact loop n 0 mem (by omega) zF.rf (fun d hd => by omega)
theorem st_least (J : zJ w h n k dy t mv r mem) : zm_Call gX8_least [.ref 0] mem (zR gX9_least [.ref 21]) := by
  have h6 := J.h6
  have h7 := J.h7
  have hz := zkt_0 (dy := dy) J.G
  have hl := zkt_le (w := w) (h := h) (n := n) (dy := dy) 0
  refine bX8_least_0 _ _ (q_keepersOf (t := 0) J.G J.C J.pd (by decide) ?_)
  rw [J.C.2.2]
  refine pk_le 1 (zkt w h n dy 0) (fun _ => ⟨nI_ne0 hz (by omega), ?_⟩) (fun z => by omega)
  rw [pk_div (by omega) hz (by omega)]
  refine bX9_least_0 _ _ (r_cells J.G J.th.M (r_layShifts J.G J.th.M J.th.pm (fun u F _ => ⟨nI_ne0 hz (by omega), ?_⟩)))
  rw [pk_div (by omega) hz (by omega)]
  exact ⟨rfl, rfl, (J.th.keep F).inv⟩
end ZST1
