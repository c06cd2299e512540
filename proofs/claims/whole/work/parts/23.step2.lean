/-! dye, dyes, colours, go, count -/
section ZST2
variable {w h n k t : Nat} {dy mv r : Nat → Nat} {mem : zm_Mem} {post : zm_Post}
theorem r_isColour (hk : mem 21 3 = nI k) (hk1 : 1 ≤ k) (hk4 : k ≤ 4) (x : Int32) (kk : post (zb (zal k x)) 0 mem) : zm_Call gX9_isColour [.ref 21, .int x] mem post := by
  refine bX9_isColour_0 _ _ _ ⟨fun z => ?_, fun z => ?_⟩
  · rw [show zal k x = true by simp [zal, z]] at kk; exact kk
  · rw [hk, show (1 : Int32) = nI 1 from rfl, pk_sub (by omega)]
    refine r_inI (lo := 0) (hi := k - 1) (by omega) (by omega) rfl (zl_nI (by omega)) ?_
    have e : (decide (((0 : Nat) : Int) ≤ x.toInt) && decide (x.toInt ≤ ((k - 1 : Nat) : Int))) = zal k x := by
      unfold zal zt_isC
      have : (x.toInt ≤ ((k - 1 : Nat) : Int)) = (x.toInt < k) := by apply propext; omega
      simp only [this, z]
      simp
    rw [e]
    exact zb_eq0 _ (fun q => by rw [q] at kk; exact kk) (fun q => by rw [q] at kk; exact kk)
theorem zal_of {x : Int32} (hk4 : k ≤ 4) (e : zal k x = true) : ∃ v, (v < k ∨ v = 9) ∧ x = nI v := by
  unfold zal at e
  rw [Bool.or_eq_true] at e
  rcases e with e | e
  · obtain ⟨c, h1, h2⟩ := zt_isC_of (n := k) (by omega) e
    exact ⟨c, Or.inl h1, h2⟩
  · exact ⟨9, Or.inr rfl, of_decide_eq_true e⟩
theorem zJ.k21 (J : zJ w h n k dy t mv r mem) : mem 21 3 = nI k := J.2.2.2.1
theorem zJ.k2 (J : zJ w h n k dy t mv r mem) : mem 2 3 = nI k := J.2.1.2.1
theorem st_dye (J : zJ w h n k dy t mv r mem) (x y : Int32) : zm_Call gX8_dye [.ref 0, .int x, .int y] mem (zR gX9_dye [.ref 21, .int x, .int y]) := by
  have h7 := J.h7
  have hk1 := J.1.2.1
  have hk4 := J.1.2.2.1
  refine bX8_dye_0 _ _ _ _ (q_hasCell J.G J.C x (zb_ne0 _ (fun e => q_allows J.k2 hk4 y (zb_ne0 _ (fun e2 => ?_) (fun e2 => ?_))) (fun e => ?_)))
  · obtain ⟨c, hc, rfl⟩ := zt_isC_of h7 e
    obtain ⟨v, hv, rfl⟩ := zal_of hk4 e2
    refine ⟨pk_in c 36 (by omega), pk_in c 36 (by omega), ?_⟩
    rw [nI_clamp (by omega), (J.pd c hc).1]
    have M1 : zM w h (zm_st (zm_st mem 3 c (nI v)) 21 0 0) := by
      have := J.th.M
      unfold zM at *
      rw [show zm_st (zm_st mem 3 c (nI v)) 21 0 0 21 = zm_st mem 21 0 0 21 by funext j; simp [zm_st]]
      exact this
    refine bX9_dye_0 _ _ _ _ (r_noCell J.G M1 _ ?_)
    rw [e]
    refine ⟨fun _ => r_isColour (by rw [show zm_st (zm_st mem 3 c (nI v)) 21 0 0 21 3 = mem 21 3 by simp [zm_st]]; exact J.k21) hk1 hk4 _ ?_, fun z => absurd rfl z⟩
    rw [e2]
    refine ⟨fun _ => ⟨pk_in c 36 (by omega), pk_in c 36 (by omega), ?_⟩, fun z => absurd z (by decide)⟩
    rw [nI_clamp (by omega)]
    refine ⟨?_, rfl, ?_⟩
    · rw [show zm_st (zm_st mem 3 c (nI v)) 21 0 0 22 c = mem 22 c by simp [zm_st], (J.pm c hc).1]
    · refine (J.dye (dy' := zdye dy c v) (L := [3, 21, 22]) (((zF.rf.st (by decide)).st (by decide)).st (by decide)) (fun d hd => ?_) (fun d hd => ?_) (fun d hd => ?_) (fun j hj => ?_)).inv
      · unfold zdye
        split
        · exact hv
        · exact J.1.2.2.2.1 d hd
      · rw [zs_cell (by decide), zs_cell (by decide)]
        unfold zdye
        by_cases q : d = c
        · rw [q, zs_self, if_pos rfl]
        · rw [zs_slot q, if_neg q]; exact (J.pd d hd).1
      · unfold zdye
        by_cases q : d = c
        · rw [q, zs_self, if_pos rfl]
        · rw [zs_slot q, if_neg q, zs_cell (by decide), zs_cell (by decide)]; exact (J.pm d hd).1
      · rw [zs_cell (by decide), zs_slot hj, zs_cell (by decide)]
  · obtain ⟨c, hc, rfl⟩ := zt_isC_of h7 e
    refine bX9_dye_0 _ _ _ _ (r_noCell J.G J.th.M _ ?_)
    rw [e]
    refine ⟨fun _ => r_isColour J.th.k21 hk1 hk4 _ ?_, fun z => absurd rfl z⟩
    rw [e2]
    exact ⟨fun z => absurd rfl z, fun _ => ⟨rfl, rfl, J.th.inv⟩⟩
  · refine bX9_dye_0 _ _ _ _ (r_noCell J.G J.th.M _ ?_)
    rw [e]
    exact ⟨fun z => absurd z (by decide), fun _ => ⟨rfl, rfl, J.th.inv⟩⟩
/-- the reference: figures laid, then dyed -/
theorem r_dyesLay (hk : mem 21 3 = nI k) (hk1 : 1 ≤ k) (hk4 : k ≤ 4) {c m N : Nat} (hm : 1 ≤ m) (hm9 : m ≤ 9) (hN : N < 2 ^ 31) (bad : zfig k m N = false → ∀ u, zF [23] mem u → post (-2) 0 u) (good : zfig k m N = true → ∀ u, zF [23] mem u → (∀ j, j < m → u 23 j = nI (zdig N (m - 1 - j))) → zm_Z gX9_dyes post 111 [(0, .ref 21), (1, .int (nI c)), (2, .int (nI m)), (5, .int 0), (6, .int 0)] [] u) : zm_Z gX9_dyes post 52 [(0, .ref 21), (1, .int (nI c)), (2, .int (nI m)), (4, .int (nI N)), (5, .int (nI m - 1))] [] mem := by
  have loop : ∀ j u, j ≤ m → zF [23] mem u → zq_all (fun i => decide (zdig N i < k) || decide (zdig N i = 9)) (m - j) = true → (∀ i, j ≤ i → i < m → u 23 i = nI (zdig N (m - 1 - i))) → zm_Z gX9_dyes post 52 [(0, .ref 21), (1, .int (nI c)), (2, .int (nI m)), (4, .int (nI (N / 10 ^ (m - j)))), (5, .int (nI j + (-1)))] [] u := by
    intro j
    induction j with
    | zero =>
      intro u hj F hp hd
      have hl := zfig_lt N m hN
      refine bX9_dyes_52 _ _ _ _ _ _ ⟨fun _ => ?_, fun z => absurd (by decide) z⟩
      rw [Nat.sub_zero] at hp ⊢
      have ez : zfig k m N = decide (N / 10 ^ m = 0) := by unfold zfig; rw [hp, Bool.true_and]
      refine pk_le (N / 10 ^ m) 0 (fun e => good (by rw [ez]; exact decide_eq_true (Nat.le_zero.mp e)) u F (fun i hi => hd i (by omega) hi)) (fun e => bad (by rw [ez]; exact decide_eq_false (by omega)) u F)
    | succ j ih =>
      intro u hj F hp hd
      have hl := zfig_lt N (m - (j + 1)) hN
      rw [pk_m1]
      refine bX9_dyes_52 _ _ _ _ _ _ ⟨fun z => absurd z (nI_pos (by omega)), fun _ => ?_⟩
      rw [show (10 : Int32) = nI 10 from rfl, pk_rem hl (by decide) (by decide), pk_div hl (by decide) (by decide), zdig_step, show m - (j + 1) + 1 = m - j by omega, nI_clamp (by omega)]
      have hd10 : zdig N (m - (j + 1)) < 10 := Nat.mod_lt _ (by decide)
      refine r_isColour (by rw [F 21 (by decide)]; exact hk) hk1 hk4 _ ?_
      rw [show N / 10 ^ (m - (j + 1)) % 10 = zdig N (m - (j + 1)) from rfl, zal_nI hd10]
      refine zb_ne0 _ (fun e => ⟨pk_in j 36 (by omega), ih _ (by omega) (F.st (by decide)) ?_ (fun i hi1 hi2 => ?_)⟩) (fun e => bad ?_ u F)
      · rw [show m - j = (m - (j + 1)) + 1 by omega, zq_all, hp, e]; rfl
      · by_cases q : i = j
        · rw [q, zs_self, show m - (j + 1) = m - 1 - j by omega]
        · rw [zs_slot q]; exact hd i (by omega) hi2
      · unfold zfig
        rw [zq_no (m := m - (j + 1)) (by omega) e]; rfl
  have := loop m mem (Nat.le_refl m) zF.rf (by rw [Nat.sub_self]; rfl) (fun i h1 h2 => by omega)
  rw [Nat.sub_self, Nat.pow_zero, Nat.div_one] at this
  rw [Int32.sub_eq_add_neg]
  exact this
theorem r_dyesDo {dy : Nat → Nat} (G : zG w h n) {c m N : Nat} (hc : c + m ≤ n) (P : ∀ d, d < n → mem 22 d = nI (dy d) ∧ dy d < 10) (hl : ∀ j, j < m → mem 23 j = nI (zdig N (m - 1 - j))) (kk : ∀ u, zF [22] mem u → (∀ d, d < n → u 22 d = nI (zdys dy c m N d)) → post (nI (zq_ct (fun j => !(dy (c + j) == zdys dy c m N (c + j))) m)) 0 u) : zm_Z gX9_dyes post 111 [(0, .ref 21), (1, .int (nI c)), (2, .int (nI m)), (5, .int 0), (6, .int 0)] [] mem := by
  have h7 := G.2.2.2.2.2.2
  have loop : ∀ f j u, j + f = m → zF [22] mem u → (∀ d, d < n → u 22 d = nI (if d < c + j then zdys dy c m N d else dy d)) → zm_Z gX9_dyes post 111 [(0, .ref 21), (1, .int (nI c)), (2, .int (nI m)), (5, .int (nI (zq_ct (fun j => !(dy (c + j) == zdys dy c m N (c + j))) j))), (6, .int (nI j))] [] u := by
    intro f
    induction f with
    | zero =>
      intro j u hj F hd
      refine bX9_dyes_111 _ _ _ _ _ _ (pk_le m j (fun _ => ?_) (fun z => by omega))
      have e : j = m := by omega
      subst e
      refine kk u F (fun d hdn => ?_)
      rw [hd d hdn]
      split
      · rfl
      · rw [zdys, if_neg (by omega)]
    | succ f ih =>
      intro j u hj F hd
      have hcj := hd (c + j) (by omega)
      rw [if_neg (by omega)] at hcj
      have hlj : u 23 j = nI (zdig N (m - 1 - j)) := by rw [F 23 (by decide)]; exact hl j (by omega)
      have ez : zdys dy c m N (c + j) = zdig N (m - 1 - j) := by
        rw [zdys_at (by omega) (by omega), show c + m - 1 - (c + j) = m - 1 - j by omega]
      have hz10 : zdig N (m - 1 - j) < 10 := Nat.mod_lt _ (by decide)
      have hd10 := (P (c + j) (by omega)).2
      have nx := ih (j + 1) (zm_st u 22 (c + j) (nI (zdig N (m - 1 - j)))) (by omega) (F.st (by decide)) (fun d hdn => by
        by_cases q : d = c + j
        · rw [q, zs_self, if_pos (by omega), ez]
        · rw [zs_slot q, hd d hdn]
          by_cases q2 : d < c + j
          · rw [if_pos q2, if_pos (by omega)]
          · rw [if_neg q2, if_neg (by omega)])
      rw [zq_ct] at nx
      have key : ∀ s : Nat, s = (if (!(dy (c + j) == zdys dy c m N (c + j))) = true then 1 else 0) → zm_Z gX9_dyes post 143 [(0, .ref 21), (1, .int (nI c)), (2, .int (nI m)), (6, .int (nI j))] [.int (nI s), .int (nI (zq_ct (fun j => !(dy (c + j) == zdys dy c m N (c + j))) j))] u := by
        intro s hs
        refine bX9_dyes_143 _ _ _ _ _ _ _ ?_
        rw [nI_add, nI_add, nI_clamp (by omega), nI_clamp (by omega), hlj, nI_1]
        refine ⟨pk_in j 36 (by omega), pk_in (c + j) 36 (by omega), ?_⟩
        rw [hs]
        exact nx
      refine bX9_dyes_111 _ _ _ _ _ _ (pk_le m j (fun z => by omega) (fun _ => ?_))
      rw [nI_add, nI_clamp (by omega), nI_clamp (by omega), hcj, hlj]
      refine ⟨pk_in (c + j) 36 (by omega), pk_in j 36 (by omega), zn_ne (dy (c + j)) (zdig N (m - 1 - j)) (fun e => key 1 ?_) (fun e => key 0 ?_)⟩
      · rw [if_pos (by simp [ez, e])]
      · rw [if_neg (by simp [ez, e])]
  exact loop m 0 mem (by omega) zF.rf (fun d hd => by
    rw [(P d hd).1]
    split
    · rw [zdys, if_neg (by omega)]
    · rfl)
theorem st_dyes (J : zJ w h n k dy t mv r mem) (x y z : Int32) : zm_Call gX8_dyes [.ref 0, .int x, .int y, .int z] mem (zR gX9_dyes [.ref 21, .int x, .int y, .int z]) := by
  have h6 := J.h6
  have h7 := J.h7
  have hk1 := J.1.2.1
  have hk4 := J.1.2.2.1
  refine bX8_dyes_0 _ _ _ _ _ (q_hasCell J.G J.C x (zb_eq0 _ (fun e => ?_) (fun e => ?_)))
  · refine bX9_dyes_0 _ _ _ _ _ (r_noCell J.G J.th.M _ ?_)
    rw [e]
    exact ⟨fun _ => ⟨rfl, rfl, J.th.inv⟩, fun q => absurd q (by decide)⟩
  · obtain ⟨c, hc, rfl⟩ := zt_isC_of h7 e
    rw [J.C.2.2, pk_sub (by omega)]
    -- the reference, up to its loops
    have ref : ∀ (a : Int32) (u : zm_Mem), zF [3] mem u → (¬ y ≤ nI (n - c) → a = -1 ∧ zInv (zm_st u 21 0 0)) → (y ≤ nI (n - c) → ¬ (1 ≤ y.toInt ∧ y.toInt ≤ 9) → a = -2 ∧ zInv (zm_st u 21 0 0)) → (y ≤ nI (n - c) → (1 ≤ y.toInt ∧ y.toInt ≤ 9) → ¬ (0 : Int32) ≤ z → a = -2 ∧ zInv (zm_st u 21 0 0)) → (y ≤ nI (n - c) → (1 ≤ y.toInt ∧ y.toInt ≤ 9) → (0 : Int32) ≤ z → zm_Z gX9_dyes (fun x' l' u' => a = x' ∧ 0 = l' ∧ zInv u') 52 [(0, .ref 21), (1, .int (nI c)), (2, .int y), (4, .int z), (5, .int (y - 1))] [] (zm_st u 21 0 0)) → zR gX9_dyes [.ref 21, .int (nI c), .int y, .int z] a 0 u := by
      intro a u F c1 c2 c3 c4
      have M1 : zM w h (zm_st u 21 0 0) := by
        have := J.th.M
        unfold zM at *
        rw [show zm_st u 21 0 0 21 = zm_st mem 21 0 0 21 by funext j; simp [zm_st, F 21 (by decide)]]
        exact this
      refine bX9_dyes_0 _ _ _ _ _ (r_noCell J.G M1 _ ?_)
      rw [e]
      refine ⟨fun q => absurd rfl q, fun _ => r_cells J.G M1 ?_⟩
      rw [pk_sub (by omega)]
      refine ⟨fun q => r_inI (lo := 1) (hi := 9) (by decide) (by decide) rfl rfl (zb_eq0 _ (fun e2 => ?_) (fun e2 => ⟨fun q2 => c4 q (by simpa using e2) q2, fun q2 => ?_⟩)), fun q => ?_⟩
      · obtain ⟨a1, a2⟩ := c2 q (fun z => by simp at e2; have := e2 (by exact_mod_cast z.1); omega)
        exact ⟨a1, rfl, a2⟩
      · obtain ⟨a1, a2⟩ := c3 q (by simpa using e2) q2
        exact ⟨a1, rfl, a2⟩
      · obtain ⟨a1, a2⟩ := c1 q
        exact ⟨a1, rfl, a2⟩
    have le1 : ∀ q : Int32, (q < 1 ↔ q.toInt < 1) := fun q => by rw [Int32.lt_iff_toInt_lt]; rfl
    refine ⟨fun q => ?_, fun q => ?_⟩
    · refine ⟨fun q2 => ?_, fun q2 => ⟨fun q3 => ?_, fun q3 => ?_⟩⟩
      · rw [le1] at q2
        exact ref _ mem zF.rf (fun z => absurd q z) (fun _ _ => ⟨rfl, J.th.inv⟩) (fun _ z => by omega) (fun _ z => by omega)
      · rw [Int32.lt_iff_toInt_lt, show (9 : Int32).toInt = 9 from rfl] at q3
        exact ref _ mem zF.rf (fun z => absurd q z) (fun _ _ => ⟨rfl, J.th.inv⟩) (fun _ z => by omega) (fun _ z => by omega)
      · rw [le1] at q2
        rw [Int32.lt_iff_toInt_lt, show (9 : Int32).toInt = 9 from rfl] at q3
        obtain ⟨m, hm, rfl⟩ := nI_of (x := y) (by rw [Int32.lt_iff_toInt_lt]; show ¬ y.toInt < 0; omega)
        rw [nI_toInt hm] at q2 q3
        rw [nI_leI hm (by omega)] at q
        by_cases hz : (0 : Int32) ≤ z
        · obtain ⟨N, hN, rfl⟩ := nI_of (x := z) (by rw [Int32.lt_iff_toInt_lt]; rw [Int32.le_iff_toInt_le] at hz; omega)
          refine q_allowsFigures J.k2 hk4 (by omega) hN (zb_ne0 _ (fun e2 => ?_) (fun e2 => ?_))
          · refine q_dyeFigures J.G (by omega) (by omega) hN J.pd (fun u F hu => ?_)
            refine ref _ u F (fun z => absurd (nI_le q (by omega)) z) (fun _ z => absurd (by rw [nI_toInt hm]; omega) z) (fun _ _ z => absurd hz z) (fun _ _ _ => ?_)
            have F2 : zF [3, 21] mem (zm_st u 21 0 0) := (F.wide (by decide)).st (by decide)
            refine r_dyesLay (by rw [zs_slot (by decide), F 21 (by decide)]; exact J.k21) hk1 hk4 (by omega) (by omega) hN (fun z => by rw [e2] at z; cases z) (fun _ v Fv hv => ?_)
            have F3 : zF [3, 21, 23] mem v := (F2.wide (by decide)).trans (Fv.wide (by decide))
            refine r_dyesDo J.G (by omega) (fun d hd => by rw [F3 22 (by decide)]; exact J.pm d hd) hv (fun s Fs hs => ⟨rfl, rfl, ?_⟩)
            have F4 : zF [3, 21, 22, 23] mem s := (F3.wide (by decide)).trans (Fs.wide (by decide))
            refine (J.dye (dy' := zdys dy c m N) F4 (fun d hd => ?_) (fun d hd => ?_) hs (fun j hj => ?_)).inv
            · unfold zdys
              split
              · rename_i q5
                unfold zfig at e2
                rw [Bool.and_eq_true] at e2
                have := zq_all_iff.mp e2.1 (c + m - 1 - d) (by omega)
                simpa using this
              · exact J.1.2.2.2.1 d hd
            · rw [Fs 3 (by decide), Fv 3 (by decide), zs_cell (by decide)]; exact hu d hd
            · rw [Fs 21 (by decide), Fv 21 (by decide), zs_slot hj, F 21 (by decide)]
          · refine ref _ mem zF.rf (fun z => absurd (nI_le q (by omega)) z) (fun _ z => absurd (by rw [nI_toInt hm]; omega) z) (fun _ _ z => absurd hz z) (fun _ _ _ => ?_)
            refine r_dyesLay J.th.k21 hk1 hk4 (by omega) (by omega) hN (fun _ v Fv => ⟨rfl, rfl, (J.th.keep Fv).inv⟩) (fun z => by rw [e2] at z; cases z)
        · refine bX5_allowsFigures_0 _ _ _ _ ⟨fun z => absurd z hz, fun _ => ⟨fun z => absurd rfl z, fun _ => ?_⟩⟩
          exact ref _ mem zF.rf (fun z => absurd (nI_le q (by omega)) z) (fun _ _ => ⟨rfl, J.th.inv⟩) (fun _ _ _ => ⟨rfl, J.th.inv⟩) (fun _ _ z => absurd z hz)
    · exact ref _ mem zF.rf (fun _ => ⟨rfl, J.th.inv⟩) (fun z => absurd z q) (fun z => absurd z q) (fun z => absurd z q)
theorem st_colours (J : zJ w h n k dy t mv r mem) (x : Int32) : zm_Call gX8_colours [.ref 0, .int x] mem (zR gX9_colours [.ref 21, .int x]) := by
  have h7 := J.h7
  have bad : ¬ (1 ≤ x.toInt ∧ x.toInt ≤ 4) → zR gX9_colours [.ref 21, .int x] (-2) 0 mem := by
    intro z
    refine bX9_colours_0 _ _ _ (r_inI (lo := 1) (hi := 4) (by decide) (by decide) rfl rfl ?_)
    rw [show (decide (((1 : Nat) : Int) ≤ x.toInt) && decide (x.toInt ≤ ((4 : Nat) : Int))) = false by simp; omega]
    exact ⟨fun z => absurd rfl z, fun _ => ⟨rfl, rfl, J.th.inv⟩⟩
  refine bX8_colours_0 _ _ _ ⟨fun z => bad ?_, fun z => ⟨fun z2 => ?_, fun z2 => bad ?_⟩⟩
  · rw [Int32.lt_iff_toInt_lt, show (1 : Int32).toInt = 1 from rfl] at z; omega
  · rw [Int32.lt_iff_toInt_lt, show (1 : Int32).toInt = 1 from rfl] at z
    rw [Int32.le_iff_toInt_le, show (4 : Int32).toInt = 4 from rfl] at z2
    obtain ⟨k', hk', rfl⟩ := nI_of (x := x) (by rw [Int32.lt_iff_toInt_lt]; show ¬ x.toInt < 0; omega)
    rw [nI_toInt hk'] at z z2
    refine q_allowHues J.G J.C (by omega) (by omega) J.pd (fun u F h2 h3 => ?_)
    have M1 : ∀ v, zF [2, 3, 21, 22] mem v → (∀ j, j ≠ 0 → j ≠ 3 → v 21 j = mem 21 j) → zM w h v := fun v _ hv => by
      unfold zM; rw [hv 1 (by decide) (by decide), hv 2 (by decide) (by decide)]; exact J.M
    have F0 : zF [2, 3, 21, 22] mem (zm_st u 21 0 0) := (F.wide (by decide)).st (by decide)
    refine bX9_colours_0 _ _ _ (r_inI (lo := 1) (hi := 4) (by decide) (by decide) rfl rfl ?_)
    rw [nI_toInt hk', show (decide (((1 : Nat) : Int) ≤ (k' : Int)) && decide ((k' : Int) ≤ ((4 : Nat) : Int))) = true by simp; omega]
    refine ⟨fun _ => ?_, fun z => absurd z (by decide)⟩
    rw [zs_slot (by decide), F 21 (by decide), J.k21]
    have loop : ∀ j c v, c + j = n → zF [2, 3, 21, 22] mem v → (∀ j, j ≠ 0 → j ≠ 3 → v 21 j = mem 21 j) → v 21 3 = nI k' → v 2 3 = nI k' → (∀ d, d < n → v 3 d = nI (zcol k' dy d)) → (∀ d, d < n → v 22 d = nI (if d < c then zcol k' dy d else dy d)) → zm_Z gX9_colours (fun x' l' u' => mem 2 3 = x' ∧ 0 = l' ∧ zInv u') 32 [(0, .ref 21), (1, .int (nI k')), (2, .int (nI k)), (3, .int (nI c))] [] v := by
      intro j
      induction j with
      | zero =>
        intro c v hc Fv v21 v3 v2 vd vm
        refine bX9_colours_32 _ _ _ _ _ (r_cells J.G (M1 v Fv v21) (pk_le n c (fun _ => ⟨J.k2, rfl, ?_⟩) (fun z => by omega)))
        have e : c = n := by omega
        subst e
        obtain ⟨A, S, S2⟩ := J
        refine ⟨w, h, c, k', zcol k' dy, t, mv, r, ⟨A.1, by omega, by omega, fun d hd => ?_, A.2.2.2.2⟩, ?_, ?_⟩
        · unfold zcol; split
          · assumption
          · omega
        · unfold zCS zC at *
          rw [Fv 1 (by decide), Fv 8 (by decide), Fv 9 (by decide), Fv 10 (by decide)]
          exact ⟨S.1, v2, vd, S.2.2.2⟩
        · unfold zMS zM at *
          rw [Fv 27 (by decide), v21 1 (by decide) (by decide), v21 2 (by decide) (by decide), v21 10 (by decide) (by decide)]
          exact ⟨S2.1, v3, fun d hd => by rw [vm d hd, if_pos hd], S2.2.2.2⟩
      | succ j ih =>
        intro c v hc Fv v21 v3 v2 vd vm
        have hdc := vm c (by omega)
        rw [if_neg (by omega)] at hdc
        have hd10 := (J.pd c (by omega)).2
        have nx : ∀ y : Nat, y = zcol k' dy c → zm_Z gX9_colours (fun x' l' u' => mem 2 3 = x' ∧ 0 = l' ∧ zInv u') 32 [(0, .ref 21), (1, .int (nI k')), (2, .int (nI k)), (3, .int (nI c + 1))] [] (zm_st v 22 c (nI y)) := by
          intro y hy
          rw [nI_1]
          refine ih (c + 1) _ (by omega) (Fv.st (by decide)) (fun j h1 h2 => by rw [zs_cell (by decide)]; exact v21 j h1 h2) (by rw [zs_cell (by decide)]; exact v3) (by rw [zs_cell (by decide)]; exact v2) (fun d hd => by rw [zs_cell (by decide)]; exact vd d hd) (fun d hd => ?_)
          by_cases q : d = c
          · rw [q, zs_self, if_pos (by omega), hy]
          · rw [zs_slot q, vm d hd]
            by_cases q2 : d < c
            · rw [if_pos q2, if_pos (by omega)]
            · rw [if_neg q2, if_neg (by omega)]
        have keep : dy c < k' ∨ dy c = 9 → zm_Z gX9_colours (fun x' l' u' => mem 2 3 = x' ∧ 0 = l' ∧ zInv u') 70 [(0, .ref 21), (1, .int (nI k')), (2, .int (nI k)), (3, .int (nI c))] [.int (nI c), .ref 22] v := by
          intro q
          refine bX9_colours_70 _ _ _ _ _ _ ⟨pk_in c 36 (by omega), pk_in c 36 (by omega), ?_⟩
          rw [nI_clamp (by omega), hdc]
          exact nx (dy c) (by rw [zcol, if_pos q])
        refine bX9_colours_32 _ _ _ _ _ (r_cells J.G (M1 v Fv v21) (pk_le n c (fun z => by omega) (fun _ => ⟨pk_in c 36 (by omega), ?_⟩)))
        rw [nI_clamp (by omega), hdc]
        refine pk_eq (dy c) 9 (fun e => keep (Or.inr e)) (fun e => ⟨pk_in c 36 (by omega), pk_lt (dy c) k' (fun e2 => keep (Or.inl e2)) (fun e2 => ⟨pk_in c 36 (by omega), ?_⟩)⟩)
        exact nx 0 (by rw [zcol, if_neg (by omega)])
    refine loop n 0 _ (by omega) (F0.st (by decide)) (fun j h1 h2 => by rw [zs_slot h2, zs_slot h1, F 21 (by decide)]) (zs_self _ _ _ _) (by rw [zs_cell (by decide), zs_cell (by decide)]; exact h2) (fun d hd => by rw [zs_cell (by decide), zs_cell (by decide)]; exact h3 d hd) (fun d hd => by
      rw [if_neg (by omega), zs_cell (by decide), zs_cell (by decide), F 22 (by decide)]; exact (J.pm d hd).1)
  · rw [Int32.le_iff_toInt_le, show (4 : Int32).toInt = 4 from rfl] at z2; omega
end ZST2
