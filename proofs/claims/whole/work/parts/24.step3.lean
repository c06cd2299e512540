/-! go, count -/
section ZST3
variable {w h n k t : Nat} {dy mv r : Nat → Nat} {mem : zm_Mem} {post : zm_Post}
theorem r_go (G : zG w h n) (M : zM w h mem) (P : zPm n dy mem) {m : Nat} (hm : zt_mv w h n m = true) (kk : ∀ u, zF [22, 23] mem u → (∀ d, d < n → u 22 d = nI (zgo w h n dy m d)) → post (nI (zq_ct (fun c => !(zgo w h n dy m c == dy c)) n)) 0 u) : zm_Z gX9_go post 17 [(0, .ref 21), (1, .int (nI m)), (2, .int (nI 0))] [] mem := by
  have h7 := G.2.2.2.2.2.2
  have hml := (zt_mv_iff.mp hm).1
  have MM : ∀ u, zF [22, 23] mem u → zM w h u := fun u F => by unfold zM; rw [F 21 (by decide)]; exact M
  have loop2 : ∀ j c u, c + j = n → zF [22, 23] mem u → (∀ d, d < n → u 23 d = nI (zgo w h n dy m d)) → (∀ d, d < n → u 22 d = nI (if d < c then zgo w h n dy m d else dy d)) → zm_Z gX9_go post 52 [(0, .ref 21), (2, .int (nI (zq_ct (fun c => !(zgo w h n dy m c == dy c)) c))), (3, .int (nI c))] [] u := by
    intro j
    induction j with
    | zero =>
      intro c u hc F h3 h4
      refine bX9_go_52 _ _ _ _ (r_cells G (MM u F) (pk_le n c (fun _ => ?_) (fun z => by omega)))
      have e : c = n := by omega
      subst e
      exact kk u F (fun d hd => by rw [h4 d hd, if_pos hd])
    | succ j ih =>
      intro c u hc F h3 h4
      have hdc := h4 c (by omega)
      rw [if_neg (by omega)] at hdc
      have b1 := (P c (by omega)).2
      have b2 := (P _ (zt_lt G (zt_un w h n m) c)).2
      have nx := ih (c + 1) (zm_st u 22 c (nI (zgo w h n dy m c))) (by omega) (F.st (by decide)) (fun d hd => by rw [zs_cell (by decide)]; exact h3 d hd) (fun d hd => by
        by_cases q : d = c
        · rw [q, zs_self, if_pos (by omega)]
        · rw [zs_slot q, h4 d hd]
          by_cases q2 : d < c
          · rw [if_pos q2, if_pos (by omega)]
          · rw [if_neg q2, if_neg (by omega)])
      rw [zq_ct] at nx
      have key : ∀ s : Nat, s = (if (!(zgo w h n dy m c == dy c)) = true then 1 else 0) → zm_Z gX9_go post 81 [(0, .ref 21), (3, .int (nI c))] [.int (nI s), .int (nI (zq_ct (fun c => !(zgo w h n dy m c == dy c)) c))] u := by
        intro s hs
        refine bX9_go_81 _ _ _ _ _ ?_
        rw [nI_add, nI_clamp (by omega), h3 c (by omega), nI_1, hs]
        exact ⟨pk_in c 36 (by omega), pk_in c 36 (by omega), nx⟩
      refine bX9_go_52 _ _ _ _ (r_cells G (MM u F) (pk_le n c (fun z => by omega) (fun _ => ⟨pk_in c 36 (by omega), pk_in c 36 (by omega), ?_⟩)))
      rw [nI_clamp (by omega), h3 c (by omega), hdc]
      refine zn_ne (zgo w h n dy m c) (dy c) (fun e => key 1 ?_) (fun e => key 0 ?_) rfl rfl (by unfold zgo; omega)
      · rw [if_pos (by simp [e])]
      · rw [if_neg (by simp [e])]
  have loop1 : ∀ j c u, c + j = n → zF [22, 23] mem u → (∀ d, d < n → u 22 d = nI (dy d)) → (∀ d, d < n → zt w h n (zt_un w h n m) d < c → u 23 d = nI (zgo w h n dy m d)) → zm_Z gX9_go post 17 [(0, .ref 21), (1, .int (nI m)), (2, .int (nI c))] [] u := by
    intro j
    induction j with
    | zero =>
      intro c u hc F h2 h3
      refine bX9_go_17 _ _ _ _ (r_cells G (MM u F) (pk_le n c (fun _ => ?_) (fun z => by omega)))
      exact loop2 n 0 u (by omega) F (fun d hd => h3 d hd (by rw [show c = n by omega]; exact zt_lt G _ _)) (fun d hd => by rw [h2 d hd, if_neg (by omega)])
    | succ j ih =>
      intro c u hc F h2 h3
      have hl := zt_lt G m c
      refine bX9_go_17 _ _ _ _ (r_cells G (MM u F) (pk_le n c (fun z => by omega) (fun _ => r_ledTo G (MM u F) hml (by omega) ⟨pk_in c 36 (by omega), pk_in (zt w h n m c) 36 (by omega), ?_⟩)))
      rw [nI_clamp (by omega), nI_clamp (by omega), h2 c (by omega), nI_1]
      refine ih (c + 1) _ (by omega) (F.st (by decide)) (fun d hd => by rw [zs_cell (by decide)]; exact h2 d hd) (fun d hd hlt => ?_)
      by_cases q : d = zt w h n m c
      · rw [q, zs_self, zgo, (zt_back G hm (by omega)).1]
      · rw [zs_slot q]
        refine h3 d hd ?_
        have : zt w h n (zt_un w h n m) d ≠ c := fun e => q (by rw [← e]; exact (zt_back G hm hd).2.symm)
        omega
  exact loop1 n 0 mem (by omega) zF.rf (fun d hd => (P d hd).1) (fun d hd hlt => by omega)
theorem st_go (J : zJ w h n k dy t mv r mem) (x : Int32) : zm_Call gX8_go [.ref 0, .int x] mem (zR gX9_go [.ref 21, .int x]) := by
  refine bX8_go_0 _ _ _ (q_hasMove J.G J.C x (zb_eq0 _ (fun e => ?_) (fun e => ?_)))
  · refine bX9_go_0 _ _ _ (r_noMove J.G J.th.M x ?_)
    rw [e]
    exact ⟨fun z => absurd z (by decide), fun _ => ⟨rfl, rfl, J.th.inv⟩⟩
  · obtain ⟨m, hm, ht, rfl⟩ := zt_isM_of e
    have hm2 := zt_mv_iff.mpr ⟨hm, ht⟩
    refine q_moveBy J.G J.C J.pd hm2 (fun u F hu => ?_)
    have F0 : zF [3, 4, 21] mem (zm_st u 21 0 0) := (F.wide (by decide)).st (by decide)
    have M1 : zM w h (zm_st u 21 0 0) := by
      unfold zM; rw [zs_slot (by decide), zs_slot (by decide), F 21 (by decide)]; exact J.M
    have P1 : zPm n dy (zm_st u 21 0 0) := fun d hd => by rw [F0 22 (by decide)]; exact J.pm d hd
    refine bX9_go_0 _ _ _ (r_noMove J.G M1 _ ?_)
    rw [e]
    refine ⟨fun _ => r_go J.G M1 P1 hm2 (fun v Fv hv => ⟨rfl, rfl, ?_⟩), fun z => absurd rfl z⟩
    have F4 : zF [3, 4, 21, 22, 23] mem v := (F0.wide (by decide)).trans (Fv.wide (by decide))
    refine (J.dye (dy' := zgo w h n dy m) F4 (fun d hd => ?_) (fun d hd => ?_) hv (fun j hj => ?_)).inv
    · exact J.1.2.2.2.1 _ (zt_lt J.G _ _)
    · rw [Fv 3 (by decide), zs_cell (by decide)]; exact hu d hd
    · rw [Fv 21 (by decide), zs_slot hj, F 21 (by decide)]
theorem zpc_ok : ∀ a, a < 16 → (((nI a &&& 1) + (((nI a : Int32) >>> ((1 : Int32) &&& 31)) &&& 1)) + (((nI a : Int32) >>> ((2 : Int32) &&& 31)) &&& 1)) + ((nI a : Int32) >>> ((3 : Int32) &&& 31)) = nI (zpc a) := by decide +kernel
theorem zor_0 : ∀ a, a < 16 → nI a ||| 0 = nI a := by decide +kernel
theorem r_count (J : zJ w h n k dy t mv r mem) (x : Int32) {ans : Int32} (h0 : x.toInt < 0 ∨ 4 < x.toInt → ans = -2) (h1 : x.toInt = 0 → ans = nI n) (h2 : x.toInt = 1 → ans = nI k) (h3 : x.toInt = 2 → ans = nI (zq_ct (fun c => dy c == 9) n)) (h4 : x.toInt = 3 → ans = nI t) (h5 : x.toInt = 4 → ans = nI (zpc (zmask dy n))) : ∀ j c, c + j = n → zm_Z gX9_count (fun x' l' u' => ans = x' ∧ 0 = l' ∧ zInv u') 12 [(0, .ref 21), (1, .int x), (2, .int (nI (zq_ct (fun c => dy c == 9) c))), (3, .int (nI (zmask dy c))), (4, .int (nI c))] [] mem := by
  have h7 := J.h7
  have hk4 := J.1.2.2.1
  have hd := J.1.2.2.2.1
  have hml : ∀ c, c ≤ n → zmask dy c < 16 := zmask_lt hk4 hd
  intro j
  induction j with
  | zero =>
    intro c hc
    have e : c = n := by omega
    subst e
    refine bX9_count_12 _ _ _ _ _ _ (r_cells J.G J.M (pk_le c c (fun _ => ?_) (fun z => by omega)))
    refine ⟨fun z => ⟨h0 z, rfl, J.inv⟩, fun z => r_cells J.G J.M ⟨h1 z, rfl, J.inv⟩, fun z => ⟨(h2 z).trans J.k21.symm, rfl, J.inv⟩, fun z => ⟨h3 z, rfl, J.inv⟩, fun z => ⟨(h4 z).trans J.2.2.2.2.2.1.symm, rfl, J.inv⟩, fun z => ⟨?_, rfl, J.inv⟩⟩
    rw [zpc_ok _ (hml c (by omega))]
    exact h5 z
  | succ j ih =>
    intro c hc
    have p2 := J.pm c (by omega)
    have nx := ih (c + 1) (by omega)
    rw [zq_ct, zmask] at nx
    refine bX9_count_12 _ _ _ _ _ _ (r_cells J.G J.M (pk_le n c (fun z => by omega) (fun _ => ⟨pk_in c 36 (by omega), ?_⟩)))
    rw [nI_clamp (by omega), p2.1]
    refine zn_ne (dy c) 9 (fun e => bX9_count_39 _ _ _ _ _ _ _ ⟨pk_in c 36 (by omega), ?_⟩) (fun e => bX9_count_39 _ _ _ _ _ _ _ ⟨pk_in c 36 (by omega), ?_⟩)
    · rw [nI_clamp (by omega), p2.1, nI_1, show (0 : Int32) = nI 0 from rfl, nI_add]
      refine zn_ne (dy c) 9 (fun _ => ⟨pk_in c 36 (by omega), ?_⟩) (fun e2 => absurd e2 e)
      rw [(zmask_or _ (hml c (by omega)) (dy c) (by have := hd c (by omega); omega)).1]
      rw [if_neg (by simpa using e), if_neg e] at nx
      exact nx
    · rw [nI_clamp (by omega), p2.1, nI_1, nI_1, zor_0 _ (hml c (by omega))]
      refine zn_ne (dy c) 9 (fun e2 => absurd e e2) (fun _ => ?_)
      rw [if_pos (by simpa using e), if_pos e] at nx
      exact nx
theorem st_count (J : zJ w h n k dy t mv r mem) (x : Int32) : zm_Call gX8_count [.ref 0, .int x] mem (zR gX9_count [.ref 21, .int x]) := by
  have hk4 := J.1.2.2.1
  have hd := J.1.2.2.2.1
  have ref : ∀ ans : Int32, (x.toInt < 0 ∨ 4 < x.toInt → ans = -2) → (x.toInt = 0 → ans = nI n) → (x.toInt = 1 → ans = nI k) → (x.toInt = 2 → ans = nI (zq_ct (fun c => dy c == 9) n)) → (x.toInt = 3 → ans = nI t) → (x.toInt = 4 → ans = nI (zpc (zmask dy n))) → zR gX9_count [.ref 21, .int x] ans 0 mem := by
    intro ans h0 h1 h2 h3 h4 h5
    exact bX9_count_0 _ _ _ (r_count J.th x h0 h1 h2 h3 h4 h5 n 0 (by omega))
  refine bX8_count_0 _ _ _ ⟨fun z => ref _ (fun _ => rfl) (fun z2 => by omega) (fun z2 => by omega) (fun z2 => by omega) (fun z2 => by omega) (fun z2 => by omega), fun z => ref _ (fun z2 => by omega) (fun _ => J.C.2.2) (fun z2 => by omega) (fun z2 => by omega) (fun z2 => by omega) (fun z2 => by omega), fun z => ref _ (fun z2 => by omega) (fun z2 => by omega) (fun _ => J.k2) (fun z2 => by omega) (fun z2 => by omega) (fun z2 => by omega), fun z => q_hiddenCount J.G J.C J.pd (ref _ (fun z2 => by omega) (fun z2 => by omega) (fun z2 => by omega) (fun _ => rfl) (fun z2 => by omega) (fun z2 => by omega)), fun z => ref _ (fun z2 => by omega) (fun z2 => by omega) (fun z2 => by omega) (fun z2 => by omega) (fun _ => J.2.1.2.2.2.1) (fun z2 => by omega), fun z => q_usedHues J.G J.C hk4 hd J.pd (ref _ (fun z2 => by omega) (fun z2 => by omega) (fun z2 => by omega) (fun z2 => by omega) (fun z2 => by omega) (fun _ => rfl))⟩
end ZST3
