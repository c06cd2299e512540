/-! patch, tell, untell, rings, ring -/
section ZTOLD
variable {w h n k t : Nat} {dy mv r : Nat → Nat} {mem : zm_Mem} {post : zm_Post}
theorem q_forget (G : zG w h n) (C : zC w h n mem) (kk : ∀ u r, zF [8, 10, 11] mem u → u 8 6 = nI 0 → zIR w h n 0 mv r → (∀ c, c < n → u 10 c = nI (r c)) → post 0 0 u) : zm_Call gX7_forget [.ref 8] mem post := by
  have F0 : zF [8, 10, 11] mem (zm_st mem 8 6 0) := zF.rf.st (by decide)
  refine bX7_forget_0 _ _ (q_markRings (t := 0) (mv := mv) G (by unfold zC; rw [F0 1 (by decide)]; exact C) (by decide) (fun j hj => by omega) (zs_self _ _ _ _) (fun j hj => by omega) (fun u r F hr hu => ?_))
  exact kk u r (F0.trans (F.wide (by decide))) (by rw [F 8 (by decide), zs_self]; rfl) hr hu
theorem zmid {x : Int32} {lo hi : Nat} (h1 : (lo : Int) ≤ x.toInt) (h2 : x.toInt ≤ hi) : ∃ m, lo ≤ m ∧ m ≤ hi ∧ m < 2 ^ 31 ∧ x = nI m := by
  obtain ⟨j, hj, rfl⟩ := nI_of (x := x) (by rw [Int32.lt_iff_toInt_lt]; show ¬ x.toInt < 0; omega)
  rw [nI_toInt hj] at h1 h2
  exact ⟨j, by omega, by omega, hj, rfl⟩
theorem r_patch {a b : Nat} (G : zG a b (a * b)) (hk : mem 21 3 = nI k) (kk : ∀ u, zF [21, 22] mem u → (∀ j, j ≠ 10 → u 21 j = mem 21 j) → u 21 10 = nI 0 → (∀ d, d < 36 → u 22 d = 0) → post (nI (a * b)) 0 u) : zm_Z gX9_patch post 44 [(0, .ref 21), (1, .int (nI a)), (2, .int (nI b)), (3, .int (nI 0))] [] mem := by
  have loop : ∀ f c u, c + f = 36 → zF [22] mem u → (∀ d, d < c → u 22 d = 0) → zm_Z gX9_patch post 44 [(0, .ref 21), (1, .int (nI a)), (2, .int (nI b)), (3, .int (nI c))] [] u := by
    intro f
    induction f with
    | zero =>
      intro c u hc F hu
      refine bX9_patch_44 _ _ _ _ _ (pk_le 36 c (fun _ => ?_) (fun z => by omega))
      rw [pk_mul]
      refine kk _ ((F.wide (by decide)).st (by decide)) (fun j hj => ?_) (zs_self _ _ _ _) (fun d hd => ?_)
      · rw [zs_slot hj, F 21 (by decide)]
      · rw [zs_cell (by decide)]; exact hu d (by omega)
    | succ f ih =>
      intro c u hc F hu
      refine bX9_patch_44 _ _ _ _ _ (pk_le 36 c (fun z => by omega) (fun _ => ⟨pk_in c 36 (by omega), ?_⟩))
      rw [nI_clamp (by omega), nI_1]
      refine ih (c + 1) _ (by omega) (F.st (by decide)) (fun d hd => ?_)
      by_cases q : d = c
      · rw [q, zs_self]
      · rw [zs_slot q]; exact hu d (by omega)
  exact loop 36 0 mem rfl zF.rf (fun d hd => by omega)
theorem st_patch (J : zJ w h n k dy t mv r mem) (x y : Int32) : zm_Call gX8_patch [.ref 0, .int x, .int y] mem (zR gX9_patch [.ref 21, .int x, .int y]) := by
  have bad : ¬ ((1 ≤ x.toInt ∧ x.toInt ≤ 6) ∧ (1 ≤ y.toInt ∧ y.toInt ≤ 6)) → zR gX9_patch [.ref 21, .int x, .int y] (-2) 0 mem := by
    intro z
    refine bX9_patch_0 _ _ _ _ (r_inI (lo := 1) (hi := 6) (by decide) (by decide) rfl rfl (zb_eq0 _ (fun e => ⟨rfl, rfl, J.th.inv⟩) (fun e => r_inI (lo := 1) (hi := 6) (by decide) (by decide) rfl rfl (zb_ne0 _ (fun e2 => ?_) (fun e2 => ⟨rfl, rfl, J.th.inv⟩)))))
    simp at e e2
    exact absurd ⟨by omega, by omega⟩ z
  have le1 : ∀ q : Int32, (q < 1 ↔ q.toInt < 1) := fun q => by rw [Int32.lt_iff_toInt_lt]; rfl
  have le6 : ∀ q : Int32, (6 < q ↔ 6 < q.toInt) := fun q => by rw [Int32.lt_iff_toInt_lt]; rfl
  have le6' : ∀ q : Int32, (q ≤ 6 ↔ q.toInt ≤ 6) := fun q => by rw [Int32.le_iff_toInt_le]; rfl
  refine bX8_patch_0 _ _ _ _ ⟨fun z => bad ?_, fun z => ⟨fun z2 => bad ?_, fun z2 => ⟨fun z3 => bad ?_, fun z3 => ⟨fun z4 => ?_, fun z4 => bad ?_⟩⟩⟩⟩
  · rw [le1] at z; omega
  · rw [le6] at z2; omega
  · rw [le1] at z3; omega
  · rw [le1] at z z3
    rw [le6] at z2
    rw [le6'] at z4
    obtain ⟨a, a1, a2, a3, rfl⟩ := zmid (x := x) (lo := 1) (hi := 6) (by omega) (by omega)
    obtain ⟨b, b1, b2, b3, rfl⟩ := zmid (x := y) (lo := 1) (hi := 6) (by omega) (by omega)
    have G := zG.of a1 a2 b1 b2
    refine bX1_resize_0 _ _ _ _ (q_clear (fun u F hu => ?_))
    have Cu : zC a b (a * b) u := by
      unfold zC
      rw [F 1 (by decide)]
      refine ⟨?_, ?_, ?_⟩
      · rw [zs_slot (by decide), zs_slot (by decide), zs_self]
      · rw [zs_slot (by decide), zs_self]
      · rw [zs_self, pk_mul]
    have F1 : zF [1, 3] mem u := fun q hq => by
      rw [F q (fun z => hq (by simp at z; simp [z])), zs_cell (by intro e; exact hq (by simp [e])), zs_cell (by intro e; exact hq (by simp [e])), zs_cell (by intro e; exact hq (by simp [e]))]
    refine q_forget (mv := mv) G Cu (fun v r' Fv h8 hr hv => ?_)
    have F2 : zF [1, 3, 8, 10, 11] mem v := (F1.wide (by decide)).trans (Fv.wide (by decide))
    rw [show v 1 2 = nI (a * b) by rw [Fv 1 (by decide)]; exact Cu.2.2]
    refine bX9_patch_0 _ _ _ _ (r_inI (lo := 1) (hi := 6) (by decide) (by decide) rfl rfl ?_)
    rw [nI_toInt a3, show (decide (((1 : Nat) : Int) ≤ (a : Int)) && decide ((a : Int) ≤ ((6 : Nat) : Int))) = true by simp; omega]
    refine ⟨fun z => absurd z (by decide), fun _ => r_inI (lo := 1) (hi := 6) (by decide) (by decide) rfl rfl ?_⟩
    rw [nI_toInt b3, show (decide (((1 : Nat) : Int) ≤ (b : Int)) && decide ((b : Int) ≤ ((6 : Nat) : Int))) = true by simp; omega]
    refine ⟨fun _ => r_patch (k := k) G ?_ (fun s Fs s21 s10 s22 => ⟨rfl, rfl, ?_⟩), fun z => absurd z (by decide)⟩
    · rw [zs_slot (by decide), zs_slot (by decide), zs_slot (by decide), F2 21 (by decide)]; exact J.k21
    · refine ⟨a, b, a * b, k, fun _ => 0, 0, mv, r', ⟨G, J.1.2.1, J.1.2.2.1, fun c hc => Or.inl (by have := J.1.2.1; show 0 < k; omega), by omega, fun j hj => by omega, hr⟩, ⟨?_, ?_, ?_, ?_, fun j hj => by omega, ?_⟩, ⟨?_, ?_, ?_, s10, fun j hj => by omega⟩⟩
      · unfold zC
        rw [Fs 1 (by decide), zs_cell (by decide), zs_cell (by decide), zs_cell (by decide), Fv 1 (by decide)]
        exact Cu
      · rw [Fs 2 (by decide), zs_cell (by decide), zs_cell (by decide), zs_cell (by decide), F2 2 (by decide)]; exact J.k2
      · intro c hc
        rw [Fs 3 (by decide), zs_cell (by decide), zs_cell (by decide), zs_cell (by decide), Fv 3 (by decide)]
        exact hu c (by have := G.2.2.2.2.2.2; omega)
      · rw [Fs 8 (by decide), zs_cell (by decide), zs_cell (by decide), zs_cell (by decide)]; exact h8
      · intro c hc
        rw [Fs 10 (by decide), zs_cell (by decide), zs_cell (by decide), zs_cell (by decide)]; exact hv c hc
      · unfold zM
        rw [s21 1 (by decide), s21 2 (by decide)]
        refine ⟨?_, ?_⟩
        · rw [zs_slot (by decide), zs_self]
        · rw [zs_self]
      · rw [s21 3 (by decide), zs_slot (by decide), zs_slot (by decide), zs_slot (by decide), F2 21 (by decide)]; exact J.k21
      · intro c hc
        exact s22 c (by have := G.2.2.2.2.2.2; omega)
  · rw [le6'] at z4; omega
theorem st_untell (J : zJ w h n k dy t mv r mem) : zm_Call gX8_untell [.ref 0] mem (zR gX9_untell [.ref 21]) := by
  refine bX8_untell_0 _ _ (q_forget (mv := mv) J.G J.C (fun v r' Fv h8 hr hv => bX9_untell_0 _ _ ⟨?_, rfl, ?_⟩))
  · rw [zs_slot (by decide), Fv 21 (by decide), J.2.1.2.2.2.1, J.2.2.2.2.2.1]
  · obtain ⟨A, S, S2⟩ := J
    refine ⟨w, h, n, k, dy, 0, mv, r', ⟨A.1, A.2.1, A.2.2.1, A.2.2.2.1, by omega, fun j hj => by omega, hr⟩, ?_, ?_⟩
    · unfold zCS zC at *
      rw [zs_cell (by decide), zs_cell (by decide), zs_cell (by decide), zs_cell (by decide), zs_cell (by decide), zs_cell (by decide), zs_cell (by decide), zs_cell (by decide), zs_cell (by decide), zs_cell (by decide), zs_cell (by decide), zs_cell (by decide), Fv 1 (by decide), Fv 2 (by decide), Fv 3 (by decide)]
      exact ⟨S.1, S.2.1, S.2.2.1, h8, fun j hj => by omega, hv⟩
    · unfold zMS zM at *
      refine ⟨⟨?_, ?_⟩, ?_, ?_, ?_, fun j hj => by omega⟩
      · rw [zs_slot (by decide), zs_slot (by decide), Fv 21 (by decide)]; exact S2.1.1
      · rw [zs_slot (by decide), zs_slot (by decide), Fv 21 (by decide)]; exact S2.1.2
      · rw [zs_slot (by decide), zs_slot (by decide), Fv 21 (by decide)]; exact S2.2.1
      · intro c hc; rw [zs_cell (by decide), zs_cell (by decide), Fv 22 (by decide)]; exact S2.2.2.1 c hc
      · rw [zs_self]; rfl
theorem st_tell (J : zJ w h n k dy t mv r mem) (x : Int32) : zm_Call gX8_tell [.ref 0, .int x] mem (zR gX9_tell [.ref 21, .int x]) := by
  have ht4 := J.1.2.2.2.2.1
  have c8 : mem 8 6 = nI t := J.2.1.2.2.2.1
  have m10 : mem 21 10 = nI t := J.2.2.2.2.2.1
  refine bX8_tell_0 _ _ _ (q_hasMove J.G J.C x (zb_ne0 _ (fun e => ?_) (fun e => ?_)))
  · obtain ⟨m, hm, htn, rfl⟩ := zt_isM_of e
    have hm2 := zt_mv_iff.mpr ⟨hm, htn⟩
    rw [c8]
    refine pk_lt t 4 (fun z => ?_) (fun z => ?_)
    · refine bX7_add_0 _ _ _ ?_
      rw [c8, nI_clamp (by omega), zs_cell (by decide), c8, nI_1]
      refine ⟨pk_in t 4 z, ?_⟩
      have F0 : zF [8, 9] mem (zm_st (zm_st mem 9 t (nI m)) 8 6 (nI (t + 1))) := (zF.rf.st (by decide)).st (by decide)
      refine q_markRings (t := t + 1) (mv := fun j => if j = t then m else mv j) J.G (by unfold zC; rw [F0 1 (by decide)]; exact J.C) (by omega) (fun j hj => ?_) (zs_self _ _ _ _) (fun j hj => ?_) (fun u r' F hr hu => ?_)
      · by_cases q : j = t
        · rw [if_pos q]; exact hm2
        · rw [if_neg q]; exact J.1.2.2.2.2.2.1 j (by omega)
      · rw [zs_cell (by decide)]
        by_cases q : j = t
        · rw [q, zs_self, if_pos rfl]
        · rw [zs_slot q, if_neg q]; exact J.2.1.2.2.2.2.1 j (by omega)
      · have F1 : zF [8, 9, 10, 11] mem u := (F0.wide (by decide)).trans (F.wide (by decide))
        have u8 : u 8 6 = nI (t + 1) := by rw [F 8 (by decide), zs_self]
        rw [u8]
        have M1 : zM w h (zm_st u 21 0 0) := by
          unfold zM; rw [zs_slot (by decide), zs_slot (by decide), F1 21 (by decide)]; exact J.M
        have v10 : zm_st u 21 0 0 21 10 = nI t := by rw [zs_slot (by decide), F1 21 (by decide)]; exact m10
        refine bX9_tell_0 _ _ _ (r_noMove J.G M1 _ ?_)
        rw [e]
        refine ⟨fun _ => ?_, fun z => absurd rfl z⟩
        rw [v10, nI_clamp (by omega)]
        refine zn_ne t 4 (fun _ => ⟨pk_in t 4 z, ?_, rfl, ?_⟩) (fun z2 => by omega)
        · rw [zs_self, zs_cell (by decide), v10, nI_1]
        · obtain ⟨A, S, S2⟩ := J
          refine ⟨w, h, n, k, dy, t + 1, fun j => if j = t then m else mv j, r', ⟨A.1, A.2.1, A.2.2.1, A.2.2.2.1, by omega, fun j hj => ?_, hr⟩, ?_, ?_⟩
          · try dsimp only
            by_cases q : j = t
            · rw [if_pos q]; exact hm2
            · rw [if_neg q]; exact A.2.2.2.2.2.1 j (by omega)
          · unfold zCS zC at *
            refine ⟨⟨?_, ?_, ?_⟩, ?_, fun c hc => ?_, ?_, fun j hj => ?_, fun c hc => ?_⟩
            · rw [zs_cell (by decide), zs_cell (by decide), zs_cell (by decide), F1 1 (by decide)]; exact S.1.1
            · rw [zs_cell (by decide), zs_cell (by decide), zs_cell (by decide), F1 1 (by decide)]; exact S.1.2.1
            · rw [zs_cell (by decide), zs_cell (by decide), zs_cell (by decide), F1 1 (by decide)]; exact S.1.2.2
            · rw [zs_cell (by decide), zs_cell (by decide), zs_cell (by decide), F1 2 (by decide)]; exact S.2.1
            · rw [zs_cell (by decide), zs_cell (by decide), zs_cell (by decide), F1 3 (by decide)]; exact S.2.2.1 c hc
            · rw [zs_cell (by decide), zs_cell (by decide), zs_cell (by decide)]; exact u8
            · rw [zs_cell (by decide), zs_cell (by decide), zs_cell (by decide), F 9 (by decide), zs_cell (by decide)]
              try dsimp only
              by_cases q : j = t
              · rw [q, zs_self, if_pos rfl]
              · rw [zs_slot q, if_neg q]; exact S.2.2.2.2.1 j (by omega)
            · rw [zs_cell (by decide), zs_cell (by decide), zs_cell (by decide)]; exact hu c hc
          · unfold zMS zM at *
            refine ⟨⟨?_, ?_⟩, ?_, fun c hc => ?_, ?_, fun j hj => ?_⟩
            · rw [zs_slot (by decide), zs_cell (by decide), zs_slot (by decide), F1 21 (by decide)]; exact S2.1.1
            · rw [zs_slot (by decide), zs_cell (by decide), zs_slot (by decide), F1 21 (by decide)]; exact S2.1.2
            · rw [zs_slot (by decide), zs_cell (by decide), zs_slot (by decide), F1 21 (by decide)]; exact S2.2.1
            · rw [zs_cell (by decide), zs_cell (by decide), zs_cell (by decide), F1 22 (by decide)]; exact S2.2.2.1 c hc
            · rw [zs_self, zs_cell (by decide), v10, nI_1]
            · rw [zs_cell (by decide)]
              try dsimp only
              by_cases q : j = t
              · rw [q, zs_self, if_pos rfl]
              · rw [zs_slot q, if_neg q, zs_cell (by decide), F1 27 (by decide)]; exact S2.2.2.2.2 j (by omega)
    · refine bX9_tell_0 _ _ _ (r_noMove J.G J.th.M _ ?_)
      rw [e]
      refine ⟨fun _ => ?_, fun z => absurd rfl z⟩
      rw [zs_slot (by decide), m10]
      exact zn_ne t 4 (fun z2 => by omega) (fun _ => ⟨rfl, rfl, J.th.inv⟩)
  · refine bX9_tell_0 _ _ _ (r_noMove J.G J.th.M _ ?_)
    rw [e]
    exact ⟨fun z => absurd z (by decide), fun _ => ⟨rfl, rfl, J.th.inv⟩⟩
theorem q_ringCount (J : zJ w h n k dy t mv r mem) (kk : post (nI (zq_ct (fun c => r c == c) n)) 0 mem) : zm_Call gX7_ringCount [.ref 8] mem post := by
  have h7 := J.h7
  refine bX7_ringCount_0 _ _ ?_
  have loop : ∀ f c, c + f = n → zm_Z gX7_ringCount post 4 [(0, .ref 8), (1, .int (nI (zq_ct (fun c => r c == c) c))), (2, .int (nI c))] [] mem := by
    intro f
    induction f with
    | zero =>
      intro c hc
      refine bX7_ringCount_4 _ _ _ _ ?_
      rw [J.C.2.2]
      refine pk_le n c (fun _ => ?_) (fun z => by omega)
      rw [show c = n by omega]; exact kk
    | succ f ih =>
      intro c hc
      have nx := ih (c + 1) (by omega)
      rw [zq_ct] at nx
      have hl := J.1.2.2.2.2.2.2.1 c (by omega)
      refine bX7_ringCount_4 _ _ _ _ ?_
      rw [J.C.2.2]
      refine pk_le n c (fun z => by omega) (fun _ => ⟨pk_in c 36 (by omega), ?_⟩)
      rw [nI_clamp (by omega), J.2.1.2.2.2.2.2 c (by omega), nI_1, nI_1]
      refine zn_ne (r c) c (fun e => ?_) (fun e => ?_)
      · rw [if_neg (by simpa using e)] at nx; exact nx
      · rw [if_pos (by simpa using e)] at nx; exact nx
  exact loop n 0 (by omega)
/-- the reference's rings are the class's -/
theorem r_layTold (J : zJ w h n k dy t mv r mem) (kk : ∀ u, zF [25] mem u → (∀ c, c < n → u 25 c = nI (r c)) → post (nI (zq_ct (fun c => r c == c) n)) 0 u) : zm_Call gX9_layRings [.ref 21, .int (-9)] mem post := by
  refine r_layRings (T := t) (MV := mv) J.G J.M _ J.1.2.2.2.2.2.1 (Or.inl ⟨rfl, J.1.2.2.2.2.1, J.2.2.2.2.2.1, J.2.2.2.2.2.2⟩) (fun u r' F hr hu => ?_)
  have e : ∀ c, c < n → r' c = r c := fun c hc => hr.one J.1.2.2.2.2.2.2 hc
  rw [zq_ct_cong (q := fun c => r c == c) (fun c hc => by rw [e c hc])]
  exact kk u F (fun c hc => by rw [hu c hc, e c hc])
theorem st_rings (J : zJ w h n k dy t mv r mem) : zm_Call gX8_rings [.ref 0] mem (zR gX9_rings [.ref 21]) := by
  refine bX8_rings_0 _ _ (q_ringCount J (bX9_rings_0 _ _ (r_layTold J.th (fun u F hu => ⟨rfl, rfl, (J.th.keep F).inv⟩))))
theorem st_ring (J : zJ w h n k dy t mv r mem) (x : Int32) : zm_Call gX8_ring [.ref 0, .int x] mem (zR gX9_ring [.ref 21, .int x]) := by
  have h7 := J.h7
  refine bX8_ring_0 _ _ _ (q_hasCell J.G J.C x (zb_eq0 _ (fun e => ?_) (fun e => ?_)))
  · refine bX9_ring_0 _ _ _ (r_noCell J.G J.th.M x ?_)
    rw [e]
    exact ⟨fun z => absurd z (by decide), fun _ => ⟨rfl, rfl, J.th.inv⟩⟩
  · obtain ⟨c, hc, rfl⟩ := zt_isC_of h7 e
    refine ⟨pk_in c 36 (by omega), bX9_ring_0 _ _ _ (r_noCell J.G J.th.M _ ?_)⟩
    rw [e]
    refine ⟨fun _ => r_layTold J.th (fun u F hu => ⟨pk_in c 36 (by omega), ?_, rfl, (J.th.keep F).inv⟩), fun z => absurd rfl z⟩
    rw [nI_clamp (by omega), hu c hc, J.2.1.2.2.2.2.2 c hc]
end ZTOLD
