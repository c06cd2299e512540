/-! PIECES: both -/
noncomputable def zpn (w h : Nat) (dy : Nat → Nat) : Nat → Nat → Int32
  | 0, _ => -9
  | c + 1, e => if (zfs w h dy c && zccB w h dy c e) = true then nI (zq_ct (zfs w h dy) c) else zpn w h dy c e
noncomputable def zru (w h : Nat) (dy : Nat → Nat) : Nat → Nat → Int32
  | 0, _ => 0
  | c + 1, j => if (zfs w h dy c && decide (j = zq_ct (zfs w h dy) c)) = true then zb (zwrB w h dy c) else zru w h dy c j
section ZPIECE
variable {w h n k t : Nat} {dy mv r : Nat → Nat} {mem : zm_Mem} {post : zm_Post}
theorem zpn_no {d : Nat} : ∀ {c : Nat}, zrd w h dy c d = false → zpn w h dy c d = -9
  | 0, _ => rfl
  | c + 1, hz => by
    unfold zrd at hz
    rw [zq_any, Bool.or_eq_false_iff] at hz
    rw [zpn, hz.2, if_neg (by decide)]
    exact zpn_no hz.1
theorem zpn_yes {d : Nat} : ∀ {c : Nat}, zrd w h dy c d = true → ∃ j, j < c ∧ zpn w h dy c d = nI j
  | 0, hz => by cases hz
  | c + 1, hz => by
    rw [zpn]
    by_cases q : (zfs w h dy c && zccB w h dy c d) = true
    · rw [if_pos q]
      exact ⟨_, Nat.lt_succ_of_le (zq_ct_le _ _), rfl⟩
    · rw [if_neg q]
      unfold zrd at hz
      rw [zq_any, Bool.or_eq_true] at hz
      rcases hz with hz | hz
      · obtain ⟨j, j1, j2⟩ := zpn_yes (c := c) hz
        exact ⟨j, by omega, j2⟩
      · exact absurd hz q
theorem zru_0 {j : Nat} : ∀ {c : Nat}, zq_ct (zfs w h dy) c ≤ j → zru w h dy c j = 0
  | 0, _ => rfl
  | c + 1, hz => by
    rw [zq_ct] at hz
    rw [zru, zru_0 (c := c) (by omega)]
    split
    · rename_i q
      rw [Bool.and_eq_true] at q
      rw [q.1, if_pos rfl] at hz
      have := of_decide_eq_true q.2
      omega
    · rfl
theorem zru_01 {j : Nat} : ∀ {c : Nat}, zru w h dy c j = 0 ∨ zru w h dy c j = 1
  | 0 => Or.inl rfl
  | c + 1 => by
    rw [zru]
    split
    · exact zb_01 _
    · exact zru_01
theorem zru_ct : ∀ c, zq_ct (fun j => !(decide (zru w h dy c j = 0))) (zq_ct (zfs w h dy) c) = zq_ct (fun s => zfs w h dy s && zwrB w h dy s) c
  | 0 => rfl
  | c + 1 => by
    have ih := zru_ct c
    cases hf : zfs w h dy c with
    | false =>
      rw [zq_ct, hf, if_neg (by decide), Nat.add_zero, zq_ct]
      try dsimp only
      rw [hf, Bool.false_and, if_neg (by decide), Nat.add_zero, ← ih]
      exact zq_ct_cong (fun j _ => by rw [zru, hf, Bool.false_and, if_neg (by decide)])
    | true =>
      rw [zq_ct, hf, if_pos rfl, zq_ct, zq_ct]
      try dsimp only
      rw [hf, Bool.true_and, ← ih]
      have e1 : zq_ct (fun j => !(decide (zru w h dy (c + 1) j = 0))) (zq_ct (zfs w h dy) c) = zq_ct (fun j => !(decide (zru w h dy c j = 0))) (zq_ct (zfs w h dy) c) := zq_ct_cong (fun j hj => by rw [zru, hf, Bool.true_and, if_neg (by simp; omega)])
      rw [e1]
      have ez : zru w h dy (c + 1) (zq_ct (zfs w h dy) c) = zb (zwrB w h dy c) := by rw [zru, hf, Bool.true_and, if_pos (decide_eq_true rfl)]
      rw [ez]
      cases zwrB w h dy c <;> simp [zb]
theorem zpn_at (G : zG w h n) {s e : Nat} (hs : s < n) (f1 : zfs w h dy s = true) (c1 : zcc w h dy s e) : ∀ {m : Nat}, s < m → m ≤ n → zpn w h dy m e = nI (zq_ct (zfs w h dy) s)
  | 0, h0, _ => absurd h0 (Nat.not_lt_zero _)
  | m + 1, h0, h1 => by
    rw [zpn]
    by_cases q : (zfs w h dy m && zccB w h dy m e) = true
    · rw [if_pos q]
      rw [Bool.and_eq_true] at q
      rw [zfs_one G hs (by omega) f1 q.1 c1 (zccB_iff.mp q.2)]
    · rw [if_neg q]
      by_cases q2 : s = m
      · subst q2
        rw [f1, zccB_iff.mpr c1] at q
        exact absurd rfl q
      · exact zpn_at G hs f1 c1 (by omega) (by omega)
theorem zpn_9 {e : Nat} (h9 : dy e = 9) : ∀ {m : Nat}, zpn w h dy m e = -9
  | 0 => rfl
  | m + 1 => by
    rw [zpn]
    by_cases q : (zfs w h dy m && zccB w h dy m e) = true
    · rw [Bool.and_eq_true] at q
      have := (zccB_iff.mp q.2).col
      rw [h9] at this
      have z := q.1
      unfold zfs at z
      rw [decide_eq_true this.symm] at z
      cases z
    · rw [if_neg q]; exact zpn_9 h9
theorem zfs_lt {s s' : Nat} (hlt : s < s') (f1 : zfs w h dy s = true) : zq_ct (zfs w h dy) s < zq_ct (zfs w h dy) s' := by
  have : ∀ m, s < m → zq_ct (zfs w h dy) s < zq_ct (zfs w h dy) m := by
    intro m
    induction m with
    | zero => intro z; omega
    | succ m ih =>
      intro z
      rw [zq_ct]
      by_cases q : s = m
      · rw [← q, f1, if_pos rfl]; omega
      · have := ih (by omega); omega
  exact this s' hlt
theorem zpn_eq (G : zG w h n) {c e : Nat} (hc : c < n) (he : e < n) (h9 : ¬ dy c = 9) : zpn w h dy n e = zpn w h dy n c ↔ zcc w h dy c e := by
  have h7 := G.2.2.2.2.2.2
  obtain ⟨s, s1, s2, s3⟩ := zfs_of G hc h9
  have ec := zpn_at G (by omega) s2 s3 (m := n) (by omega) (Nat.le_refl _)
  have r1 := zq_ct_le (zfs w h dy) s
  constructor
  · intro z
    rw [ec] at z
    by_cases e9 : dy e = 9
    · rw [zpn_9 e9] at z
      exact absurd z.symm (nI_neg9b (by omega))
    · obtain ⟨s', p1, p2, p3⟩ := zfs_of G he e9
      have ee := zpn_at G (by omega) p2 p3 (m := n) (by omega) (Nat.le_refl _)
      have r2 := zq_ct_le (zfs w h dy) s'
      rw [ee, nI_eq (by omega) (by omega)] at z
      have : s = s' := by
        rcases Nat.lt_trichotomy s s' with q | q | q
        · have := zfs_lt q s2; omega
        · exact q
        · have := zfs_lt q p2; omega
      rw [this] at s3
      exact (s3.symm G (by omega)).trans p3
  · intro z
    rw [ec, zpn_at G (by omega) s2 (s3.trans z) (m := n) (by omega) (Nat.le_refl _)]
theorem r_layPieces (G : zG w h n) (M : zM w h mem) (P : zPm n dy mem) (kk : ∀ u, zF [21, 32, 33, 34, 35, 36] mem u → (∀ j, j ≠ 20 → u 21 j = mem 21 j) → u 21 20 = nI (zq_ct (zfs w h dy) n) → (∀ e, e < n → u 32 e = zpn w h dy n e) → (∀ j, j < n → u 35 j = zru w h dy n j) → post 0 0 u) : zm_Call gX9_layPieces [.ref 21] mem post := by
  have h7 := G.2.2.2.2.2.2
  have MM : ∀ u : zm_Mem, (∀ j, j ≠ 20 → u 21 j = mem 21 j) → zM w h u := fun u F => by unfold zM; rw [F 1 (by decide), F 2 (by decide)]; exact M
  have PP : ∀ u, zF [21, 32, 33, 34, 35, 36] mem u → zPm n dy u := fun u F => by unfold zPm; rw [F 22 (by decide)]; exact P
  refine bX9_layPieces_0 _ _ ?_
  have main : ∀ f c u, c + f = n → zF [21, 32, 33, 34, 35, 36] mem u → (∀ j, j ≠ 20 → u 21 j = mem 21 j) → u 21 20 = nI (zq_ct (zfs w h dy) c) → (∀ e, e < n → u 32 e = zpn w h dy c e) → (∀ j, j < n → u 35 j = zru w h dy c j) → zm_Z gX9_layPieces post 38 [(0, .ref 21), (1, .int (nI c))] [] u := by
    intro f
    induction f with
    | zero =>
      intro c u hc F h21 h20 h32 h35
      refine bX9_layPieces_38 _ _ _ (r_cells G (MM u h21) (pk_le n c (fun _ => ?_) (fun z => by omega)))
      have e : c = n := by omega
      subst e
      exact kk u F h21 h20 h32 h35
    | succ f ih =>
      intro c u hc F h21 h20 h32 h35
      have hcn : c < n := by omega
      have hfs := zfs_rd (dy := dy) G hcn
      have P2 := PP u F
      have d1 := (P2 c hcn).2
      have skip : zfs w h dy c = false → zm_Z gX9_layPieces post 38 [(0, .ref 21), (1, .int (nI (c + 1)))] [] u := by
        intro e
        refine ih (c + 1) u (by omega) F h21 ?_ (fun d hd => ?_) (fun j hj => ?_)
        · rw [zq_ct, e]; exact h20
        · rw [zpn, e, Bool.false_and, if_neg (by decide)]; exact h32 d hd
        · rw [zru, e, Bool.false_and, if_neg (by decide)]; exact h35 j hj
      refine bX9_layPieces_38 _ _ _ (r_cells G (MM u h21) (pk_le n c (fun z => by omega) (fun _ => ⟨pk_in c 36 (by omega), ?_⟩)))
      rw [nI_clamp (by omega), (P2 c hcn).1, nI_1]
      refine pk_eq (dy c) 9 (fun e9 => skip (by rw [hfs, decide_eq_true e9]; rfl)) (fun e9 => ⟨pk_in c 36 (by omega), ?_⟩)
      rw [h32 c hcn]
      cases hr : zrd w h dy c c with
      | true =>
        obtain ⟨j, j1, j2⟩ := zpn_yes hr
        rw [j2]
        exact ⟨fun _ => skip (by rw [hfs, hr]; simp), fun z => absurd z (nI_neg9b (by omega))⟩
      | false =>
        rw [zpn_no hr]
        refine ⟨fun z => absurd rfl z, fun _ => ⟨pk_in c 36 (by omega), pk_in c 36 (by omega), pk_in c 36 (by omega), pk_in 0 36 (by decide), ?_⟩⟩
        have fs : zfs w h dy c = true := by rw [hfs, hr, decide_eq_false e9]; rfl
        have hmm := zq_ct_le (zfs w h dy) c
        rw [h20, show Int32.toNatClampNeg 0 = 0 from rfl]
        have Fi : zF [32, 33, 34, 35, 36] u (zm_st (zm_st (zm_st (zm_st u 32 c (nI (zq_ct (zfs w h dy) c))) 33 c 0) 34 c 0) 36 0 (nI c)) := (((zF.rf.st (by decide)).st (by decide)).st (by decide)).st (by decide)
        refine r_walk (O := zpn w h dy c) (Ru := zru w h dy c) (mm := zq_ct (zfs w h dy) c) G (MM u h21) P2 hcn (by omega) (fun d hd => zpn_no (zrd_no G hcn e9 hr d hd)) (fun v Fv v32 v35 v35' => ?_) n 0 (fun e => decide (e = c)) (fun _ => ((c % w : Nat) : Int)) (fun _ => ((c / w : Nat) : Int)) (fun _ => c) 1 false _ (by omega) (by omega) Fi (zB_0 G hcn (fun _ => rfl) rfl rfl rfl) ?_ (fun j hj => by omega)
        · refine ih (c + 1) _ (by omega) ?_ (fun j hj => ?_) ?_ (fun d hd => ?_) (fun j hj => ?_)
          · exact ((F.trans (Fv.wide (by decide))).st (by decide))
          · rw [zs_slot hj, Fv 21 (by decide)]; exact h21 j hj
          · rw [zs_self, zq_ct, fs]; rfl
          · rw [zs_cell (by decide), v32 d hd, zpn, fs, Bool.true_and]
          · rw [zs_cell (by decide), zru, fs, Bool.true_and]
            by_cases q : j = zq_ct (zfs w h dy) c
            · rw [if_pos (by simpa using q), q, v35]
            · rw [if_neg (by simpa using q)]; exact v35' j hj q
        · refine ⟨?_, fun j hj => ?_, fun d hd => ?_, fun d hd hs => ?_, ?_, fun j hj hne => ?_⟩
          · rw [Fi 21 (by decide)]; exact h20
          · rw [show j = 0 by omega, zs_self]
          · rw [zs_cell (by decide), zs_cell (by decide), zs_cell (by decide)]
            by_cases q : d = c
            · rw [q, zs_self]; simp
            · rw [zs_slot q, h32 d hd]; simp [q]
          · have q := of_decide_eq_true hs
            subst q
            refine ⟨0, 0, ?_, ?_, by rw [Int.mul_zero, Int.add_zero], by rw [Int.mul_zero, Int.add_zero], ⟨by omega, by omega⟩, ⟨by omega, by omega⟩⟩
            · rw [zs_cell (by decide), zs_cell (by decide), zs_self]; rfl
            · rw [zs_cell (by decide), zs_self]; rfl
          · rw [zs_cell (by decide), zs_cell (by decide), zs_cell (by decide), zs_cell (by decide), h35 _ (by omega), zru_0 (Nat.le_refl _)]; rfl
          · rw [zs_cell (by decide), zs_cell (by decide), zs_cell (by decide), zs_cell (by decide)]; exact h35 j hj
  have first : ∀ f c u, c + f = n → zF [21, 32, 33, 34, 35, 36] mem u → (∀ j, j ≠ 20 → u 21 j = mem 21 j) → u 21 20 = 0 → (∀ e, e < c → u 32 e = -9) → (∀ j, j < c → u 35 j = 0) → zm_Z gX9_layPieces post 7 [(0, .ref 21), (1, .int (nI c))] [] u := by
    intro f
    induction f with
    | zero =>
      intro c u hc F h21 h20 h32 h35
      refine bX9_layPieces_7 _ _ _ (r_cells G (MM u h21) (pk_le n c (fun _ => ?_) (fun z => by omega)))
      exact main n 0 u (by omega) F h21 h20 (fun e he => h32 e (by omega)) (fun j hj => h35 j (by omega))
    | succ f ih =>
      intro c u hc F h21 h20 h32 h35
      refine bX9_layPieces_7 _ _ _ (r_cells G (MM u h21) (pk_le n c (fun z => by omega) (fun _ => ⟨pk_in c 36 (by omega), pk_in c 36 (by omega), ?_⟩)))
      rw [nI_clamp (by omega), nI_1]
      refine ih (c + 1) _ (by omega) ((F.st (by decide)).st (by decide)) (fun j hj => ?_) ?_ (fun e he => ?_) (fun e he => ?_)
      · rw [zs_cell (by decide), zs_cell (by decide)]; exact h21 j hj
      · rw [zs_cell (by decide), zs_cell (by decide)]; exact h20
      · rw [zs_cell (by decide)]
        by_cases q : e = c
        · rw [q, zs_self]
        · rw [zs_slot q]; exact h32 e (by omega)
      · by_cases q : e = c
        · rw [q, zs_self]
        · rw [zs_slot q, zs_cell (by decide)]; exact h35 e (by omega)
  exact first n 0 _ (by omega) (zF.rf.st (by decide)) (fun j hj => zs_slot hj) (zs_self _ _ _ _) (fun e he => by omega) (fun e he => by omega)
theorem zJ.lp {u : zm_Mem} (J : zJ w h n k dy t mv r mem) (F : zF [21, 32, 33, 34, 35, 36] mem u) (h21 : ∀ j, j ≠ 20 → u 21 j = mem 21 j) : zJ w h n k dy t mv r u := by
  obtain ⟨A, S, S2⟩ := J
  refine ⟨A, S.keep F, ?_⟩
  unfold zMS zM at *
  rw [F 22 (by decide), F 27 (by decide), h21 1 (by decide), h21 2 (by decide), h21 3 (by decide), h21 10 (by decide)]
  exact S2
theorem st_pieces (J : zJ w h n k dy t mv r mem) (on : Bool) : zm_Call gX8_pieces [.ref 0, .int (zb on)] mem (zR gX9_pieces [.ref 21, .int (zb on)]) := by
  have h7 := J.h7
  refine bX8_pieces_0 _ _ _ (q_total6 J.G J.C J.pd on (fun u F => ?_))
  have J2 := J.keep F
  refine bX9_pieces_0 _ _ _ (r_layPieces J.G J2.th.M J2.th.pm (fun v Fv h21 h20 h32 h35 => ?_))
  have J3 := J2.th.lp Fv h21
  have hle := zq_ct_le (zfs w h dy) n
  have loop : ∀ f i, i + f = zq_ct (zfs w h dy) n → zm_Z gX9_pieces (fun x' l' u' => nI (zq_ct (fun s => zfs w h dy s && (zwrB w h dy s || !on)) n) = x' ∧ 0 = l' ∧ zInv u') 13 [(0, .ref 21), (1, .int (zb on)), (2, .int (nI (zq_ct (fun j => !(decide (zru w h dy n j = 0))) i))), (3, .int (nI i))] [] v := by
    intro f
    induction f with
    | zero =>
      intro i hi
      refine bX9_pieces_13 _ _ _ _ _ (pk_le (zq_ct (zfs w h dy) n) i (fun _ => ?_) (fun z => by omega) h20)
      rw [h20]
      refine zb_eq0 _ (fun q => ⟨?_, rfl, J3.inv⟩) (fun q => ⟨?_, rfl, J3.inv⟩)
      · rw [q]
        congr 1
        exact zq_ct_cong (fun s _ => by simp)
      · rw [q, show i = zq_ct (zfs w h dy) n by omega, zru_ct]
        congr 1
        exact zq_ct_cong (fun s _ => by simp)
    | succ f ih =>
      intro i hi
      have nx := ih (i + 1) (by omega)
      rw [zq_ct] at nx
      refine bX9_pieces_13 _ _ _ _ _ (pk_le (zq_ct (zfs w h dy) n) i (fun z => by omega) (fun _ => ⟨pk_in i 36 (by omega), ?_⟩) h20)
      rw [nI_clamp (by omega), h35 i (by omega), nI_1]
      refine ⟨fun z => ?_, fun z => ?_⟩
      · rw [decide_eq_true z] at nx
        rw [show (0 : Int32) = nI 0 from rfl, nI_add]
        exact nx
      · rw [decide_eq_false z] at nx
        rw [nI_1]
        exact nx
  exact loop _ 0 (Nat.zero_add _)
theorem st_piece (J : zJ w h n k dy t mv r mem) (x : Int32) : zm_Call gX8_piece [.ref 0, .int x] mem (zR gX9_piece [.ref 21, .int x]) := by
  have h7 := J.h7
  refine bX8_piece_0 _ _ _ (q_hasCell J.G J.C x (zb_ne0 _ (fun e => ?_) (fun e => ?_)))
  · obtain ⟨c, hc, rfl⟩ := zt_isC_of h7 e
    refine ⟨pk_in c 36 (by omega), ?_⟩
    have d1 := (J.pd c hc).2
    rw [nI_clamp (by omega), (J.pd c hc).1]
    refine zn_ne (dy c) 9 (fun e9 => q_sizeAt J.G J.C J.pd hc (fun u F => ?_)) (fun e9 => ?_)
    · have J2 := J.keep F
      refine bX9_piece_0 _ _ _ (r_noCell J.G J2.th.M _ ?_)
      rw [e]
      refine ⟨fun _ => ⟨pk_in c 36 (by omega), ?_⟩, fun z => absurd rfl z⟩
      rw [nI_clamp (by omega), (J2.th.pm c hc).1]
      refine zn_ne (dy c) 9 (fun _ => r_layPieces J.G J2.th.M J2.th.pm (fun v Fv h21 h20 h32 h35 => ?_)) (fun z => absurd z e9)
      have J3 := J2.th.lp Fv h21
      have loop : ∀ f i, i + f = n → zm_Z gX9_piece (fun x' l' u' => nI (zq_ct (zccB w h dy c) n) = x' ∧ 0 = l' ∧ zInv u') 37 [(0, .ref 21), (1, .int (nI c)), (2, .int (nI (zq_ct (zccB w h dy c) i))), (3, .int (nI i))] [] v := by
        intro f
        induction f with
        | zero =>
          intro i hi
          refine bX9_piece_37 _ _ _ _ _ (r_cells J.G J3.M (pk_le n i (fun _ => ?_) (fun z => by omega)))
          rw [show i = n by omega]
          exact ⟨rfl, rfl, J3.inv⟩
        | succ f ih =>
          intro i hi
          have nx := ih (i + 1) (by omega)
          rw [zq_ct] at nx
          refine bX9_piece_37 _ _ _ _ _ (r_cells J.G J3.M (pk_le n i (fun z => by omega) (fun _ => ⟨pk_in i 36 (by omega), pk_in c 36 (by omega), ?_⟩)))
          rw [nI_clamp (by omega), nI_clamp (by omega), h32 i (by omega), h32 c hc, nI_1, zpn_eq J.G hc (by omega) e9]
          refine ⟨fun z => ?_, fun z => ?_⟩
          · have : zccB w h dy c i = false := by
              cases hz : zccB w h dy c i with
              | false => rfl
              | true => exact absurd (zccB_iff.mp hz) z
            rw [this] at nx
            rw [show (0 : Int32) = nI 0 from rfl, nI_add]
            exact nx
          · rw [zccB_iff.mpr z] at nx
            rw [nI_1]
            exact nx
      exact loop n 0 (by omega)
    · refine bX9_piece_0 _ _ _ (r_noCell J.G J.th.M _ ?_)
      rw [e]
      refine ⟨fun _ => ⟨pk_in c 36 (by omega), ?_⟩, fun z => absurd rfl z⟩
      rw [nI_clamp (by omega), (J.th.pm c hc).1]
      exact zn_ne (dy c) 9 (fun z => absurd e9 z) (fun _ => ⟨rfl, rfl, J.th.inv⟩)
  · refine bX9_piece_0 _ _ _ (r_noCell J.G J.th.M x ?_)
    rw [e]
    exact ⟨fun z => absurd z (by decide), fun _ => ⟨rfl, rfl, J.th.inv⟩⟩
end ZPIECE
