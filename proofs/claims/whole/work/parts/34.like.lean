/-! like: how many -/
section ZLIKE2
variable {w h n k t0 : Nat} {dy mv r : Nat → Nat} {mem : zm_Mem} {post : zm_Post}
theorem r_like (G : zG w h n) (M : zM w h mem) (P : zPm n dy mem) (kk : ∀ u, zF [37] mem u → post (nI (zq_ct (zne w h n dy) (8 * n))) 0 u) : zm_Z gX9_like post 9 [(0, .ref 21), (1, .int (nI 0)), (2, .int (nI 0))] [] mem := by
  have h6 := G.2.2.2.2.2.1
  have h7 := G.2.2.2.2.2.2
  have MM : ∀ u, zF [37] mem u → zM w h u := fun u F => by unfold zM; rw [F 21 (by decide)]; exact M
  have go10 : ∀ m c, zgo w h n dy m c < 10 := fun m c => (P _ (zt_lt G _ _)).2
  have loop : ∀ f m (nw : Nat → Nat) u, m + f = 8 * n → zF [37] mem u → (∀ i, i < zq_ct (zne w h n dy) m → zt_mv w h n (nw i) = true ∧ nw i < m ∧ ∀ d, d < n → u 37 (36 * i + d) = nI (zgo w h n dy (nw i) d)) → (∀ m', m' < m → zt_mv w h n m' = true → ∃ i, i < zq_ct (zne w h n dy) m ∧ zei w h n dy (nw i) m' = true) → zm_Z gX9_like post 9 [(0, .ref 21), (1, .int (nI (zq_ct (zne w h n dy) m))), (2, .int (nI m))] [] u := by
    intro f
    induction f with
    | zero =>
      intro m nw u hm F h1 h2
      refine bX9_like_9 _ _ _ _ (r_cells G (MM u F) ?_)
      rw [show (8 : Int32) = nI 8 from rfl, pk_mul]
      refine pk_le (8 * n) m (fun _ => ?_) (fun z => by omega)
      rw [show m = 8 * n by omega]; exact kk u F
    | succ f ih =>
      intro m nw u hm F h1 h2
      have hN := zq_ct_le (zne w h n dy) m
      have nx := ih (m + 1)
      rw [zq_ct] at nx
      refine bX9_like_9 _ _ _ _ (r_cells G (MM u F) ?_)
      rw [show (8 : Int32) = nI 8 from rfl, pk_mul]
      refine pk_le (8 * n) m (fun z => by omega) (fun _ => r_noMove G (MM u F) _ ?_)
      rw [zt_isM_nI (by omega), nI_1]
      refine zb_ne0 _ (fun e => ?_) (fun e => ?_)
      · simp at e
        have q : zne w h n dy m = false := by unfold zne; rw [e]; rfl
        rw [q, if_neg (by decide), Nat.add_zero] at nx
        exact nx nw u (by omega) F (fun i hi => ⟨(h1 i hi).1, by have := (h1 i hi).2.1; omega, (h1 i hi).2.2⟩) (fun m' hm' hv => h2 m' (by
          have : m' ≠ m := fun z => by rw [z, e] at hv; cases hv
          omega) hv)
      · simp at e
        -- is it new?
        have hnew : zne w h n dy m = !(zq_any (fun i => zei w h n dy (nw i) m) (zq_ct (zne w h n dy) m)) := by
          have e2 : zne w h n dy m = !(zq_any (fun m' => zt_mv w h n m' && zei w h n dy m' m) m) := by unfold zne; rw [e, Bool.true_and]
          rw [e2]
          congr 1
          cases q1 : zq_any (fun i => zei w h n dy (nw i) m) (zq_ct (zne w h n dy) m) with
          | true =>
            obtain ⟨i, hi, e3⟩ := zq_any_iff.mp q1
            exact zq_any_iff.mpr ⟨nw i, (h1 i hi).2.1, by rw [(h1 i hi).1, e3]; rfl⟩
          | false =>
            cases q2 : zq_any (fun m' => zt_mv w h n m' && zei w h n dy m' m) m with
            | false => rfl
            | true =>
              obtain ⟨m', hm', e3⟩ := zq_any_iff.mp q2
              rw [Bool.and_eq_true] at e3
              obtain ⟨i, hi, e4⟩ := h2 m' hm' e3.1
              rw [zq_yes (p := fun i => zei w h n dy (nw i) m) hi (zei_tr e4 e3.2)] at q1; cases q1
        generalize hNe : zq_ct (zne w h n dy) m = N at *
        -- behind all comparisons
        have fin : ∀ v, zF [37] mem v → (∀ i, i < N → ∀ d, d < n → v 37 (36 * i + d) = nI (zgo w h n dy (nw i) d)) → (∀ d, d < n → v 37 (36 * N + d) = nI (zgo w h n dy m d)) → zm_Z gX9_like post 159 [(0, .ref 21), (1, .int (nI N)), (2, .int (nI m)), (3, .int (zb (zne w h n dy m)))] [] v := by
          intro v Fv v1 v2
          refine bX9_like_159 _ _ _ _ _ (zb_eq0 _ (fun q => ?_) (fun q => ?_))
          · rw [q, if_neg (by decide), Nat.add_zero] at nx
            rw [show nI N + 0 = nI N from nI_add N 0, nI_1]
            refine nx nw v (by omega) Fv (fun i hi => ⟨(h1 i hi).1, by have := (h1 i hi).2.1; omega, v1 i hi⟩) (fun m' hm' hv => ?_)
            by_cases q2 : m' = m
            · rw [q] at hnew
              have : zq_any (fun i => zei w h n dy (nw i) m) N = true := by simpa using hnew.symm
              obtain ⟨i, hi, e3⟩ := zq_any_iff.mp this
              exact ⟨i, hi, by rw [q2]; exact e3⟩
            · exact h2 m' (by omega) hv
          · rw [q, if_pos rfl] at nx
            rw [nI_1, nI_1]
            refine nx (fun i => if i = N then m else nw i) v (by omega) Fv (fun i hi => ?_) (fun m' hm' hv => ?_)
            · try dsimp only
              by_cases q2 : i = N
              · rw [if_pos q2, q2]; exact ⟨e, by omega, v2⟩
              · rw [if_neg q2]
                exact ⟨(h1 i (by omega)).1, by have := (h1 i (by omega)).2.1; omega, v1 i (by omega)⟩
            · try dsimp only
              by_cases q2 : m' = m
              · exact ⟨N, by omega, by rw [if_pos rfl, q2]; exact zei_rf m⟩
              · obtain ⟨i, hi, e3⟩ := h2 m' (by omega) hv
                exact ⟨i, by omega, by rw [if_neg (by omega)]; exact e3⟩
        have rows : ∀ v, zF [37] mem v → (∀ i, i < N → ∀ d, d < n → v 37 (36 * i + d) = nI (zgo w h n dy (nw i) d)) → (∀ d, d < n → v 37 (36 * N + d) = nI (zgo w h n dy m d)) → ∀ g i, i + g = N → zm_Z gX9_like post 71 [(0, .ref 21), (1, .int (nI N)), (2, .int (nI m)), (3, .int (zb (!(zq_any (fun i => zei w h n dy (nw i) m) i)))), (4, .int (nI i))] [] v := by
          intro v Fv v1 v2 g
          have f0 := fin v Fv v1 v2
          induction g with
          | zero =>
            intro i hi
            refine bX9_like_71 _ _ _ _ _ _ (pk_le N i (fun _ => ?_) (fun z => by omega))
            rw [hnew] at f0
            rw [show i = N by omega]; exact f0
          | succ g ihg =>
            intro i hi
            have nxi := ihg (i + 1) (by omega)
            rw [zq_any] at nxi
            refine bX9_like_71 _ _ _ _ _ _ (pk_le N i (fun z => by omega) (fun _ => zb_eq0 _ (fun q => ?_) (fun q => ?_)))
            · have q2 : zq_any (fun i => zei w h n dy (nw i) m) i = true := by simpa using q
              obtain ⟨j, hj, e3⟩ := zq_any_iff.mp q2
              rw [hnew, zq_any_iff.mpr ⟨j, by omega, e3⟩] at f0
              rw [q]; exact f0
            · have q2 : zq_any (fun i => zei w h n dy (nw i) m) i = false := by simpa using q
              rw [q2, Bool.false_or] at nxi
              have k142 : ∀ b : Bool, b = zei w h n dy (nw i) m → zm_Z gX9_like post 142 [(0, .ref 21), (1, .int (nI N)), (2, .int (nI m)), (4, .int (nI i)), (5, .int (zb b))] [] v := by
                intro b hb
                rw [← hb] at nxi
                refine bX9_like_142 _ _ _ _ _ _ (zb_ne0 _ (fun q3 => ?_) (fun q3 => ?_))
                · rw [q3] at nxi; rw [nI_1]; exact nxi
                · rw [q3] at nxi; rw [nI_1]; exact nxi
              have cells : ∀ g c, c + g = n → zm_Z gX9_like post 87 [(0, .ref 21), (1, .int (nI N)), (2, .int (nI m)), (4, .int (nI i)), (5, .int (zb (zq_all (fun d => zgo w h n dy (nw i) d == zgo w h n dy m d) c))), (6, .int (nI c))] [] v := by
                intro g
                induction g with
                | zero =>
                  intro c hc
                  refine bX9_like_87 _ _ _ _ _ _ _ (r_cells G (MM v Fv) (pk_le n c (fun _ => k142 _ ?_) (fun z => by omega)))
                  rw [show c = n by omega]; rfl
                | succ g ihc =>
                  intro c hc
                  have nxc := ihc (c + 1) (by omega)
                  rw [zq_all] at nxc
                  have b1 := go10 (nw i) c
                  have b2 := go10 m c
                  refine bX9_like_87 _ _ _ _ _ _ _ (r_cells G (MM v Fv) (pk_le n c (fun z => by omega) (fun _ => zb_eq0 _ (fun q3 => k142 _ ?_) (fun q3 => ?_))))
                  · rw [q3]
                    have : zei w h n dy (nw i) m = false := by
                      cases q4 : zei w h n dy (nw i) m with
                      | false => rfl
                      | true => rw [zq_all_le (by omega) q4] at q3; cases q3
                    exact this.symm
                  · rw [show (36 : Int32) = nI 36 from rfl, pk_mul, pk_mul, nI_add, nI_add, nI_clamp (by omega), nI_clamp (by omega), v1 i (by omega) c (by omega), v2 c (by omega), nI_1]
                    rw [q3, Bool.true_and] at nxc
                    refine ⟨pk_in (36 * i + c) 10368 (by omega), pk_in (36 * N + c) 10368 (by omega), zn_ne (zgo w h n dy (nw i) c) (zgo w h n dy m c) (fun q4 => ?_) (fun q4 => ?_)⟩
                    · rw [beq_false_of_ne q4] at nxc; exact nxc
                    · rw [beq_iff_eq.mpr q4] at nxc; exact nxc
              exact cells n 0 (by omega)
        -- the picture of the move
        have lay : ∀ g c v, c + g = n → zF [37] mem v → (∀ i, i < N → ∀ d, d < n → v 37 (36 * i + d) = nI (zgo w h n dy (nw i) d)) → (∀ d, d < n → zt w h n (zt_un w h n m) d < c → v 37 (36 * N + d) = nI (zgo w h n dy m d)) → zm_Z gX9_like post 30 [(0, .ref 21), (1, .int (nI N)), (2, .int (nI m)), (3, .int (nI c))] [] v := by
          intro g
          induction g with
          | zero =>
            intro c v hc Fv v1 v2
            refine bX9_like_30 _ _ _ _ _ (r_cells G (MM v Fv) (pk_le n c (fun _ => ?_) (fun z => by omega)))
            exact rows v Fv v1 (fun d hd => v2 d hd (by rw [show c = n by omega]; exact zt_lt G _ _)) N 0 (by omega)
          | succ g ihg =>
            intro c v hc Fv v1 v2
            have hl := zt_lt G m c
            refine bX9_like_30 _ _ _ _ _ (r_cells G (MM v Fv) (pk_le n c (fun z => by omega) (fun _ => r_ledTo G (MM v Fv) (by omega) (by omega) ?_)))
            rw [show (36 : Int32) = nI 36 from rfl, pk_mul, nI_add, nI_clamp (by omega), nI_clamp (by omega), show v 22 c = nI (dy c) by rw [Fv 22 (by decide)]; exact (P c (by omega)).1, nI_1]
            refine ⟨pk_in c 36 (by omega), pk_in (36 * N + zt w h n m c) 10368 (by omega), ihg (c + 1) _ (by omega) (Fv.st (by decide)) (fun i hi d hd => ?_) (fun d hd hlt => ?_)⟩
            · rw [zs_slot (by omega)]; exact v1 i hi d hd
            · by_cases q : d = zt w h n m c
              · rw [q, zs_self, zgo, (zt_back G e (by omega)).1]
              · rw [zs_slot (by omega)]
                refine v2 d hd ?_
                have : zt w h n (zt_un w h n m) d ≠ c := fun e2 => q (by rw [← e2]; exact (zt_back G e hd).2.symm)
                omega
        exact lay n 0 u (by omega) F (fun i hi => (h1 i hi).2.2) (fun d hd hlt => by omega)
  exact loop (8 * n) 0 (fun _ => 0) mem (by omega) zF.rf (fun i hi => absurd hi (Nat.not_lt_zero _)) (fun m' hm' => absurd hm' (Nat.not_lt_zero _))
theorem st_like (J : zJ w h n k dy t0 mv r mem) : zm_Call gX8_like [.ref 0] mem (zR gX9_like [.ref 21]) := by
  have h7 := J.h7
  have hp := zka_pos (dy := dy) J.G
  have hl := zlike (dy := dy) J.G
  have hc1 : zmc w h n ≤ 288 := by unfold zmc; split <;> omega
  have hk := zka_le (w := w) (h := h) (n := n) (dy := dy)
  refine bX8_like_0 _ _ (bX3_total_0 _ _ (q_keepersOfAll J.G J.C J.pd (pk_le 1 (zq_ct (zkm w h n dy) (8 * n)) (fun _ => q_moveCount J.G J.C ⟨nI_ne0 hp (by omega), ?_⟩) (fun z => by omega))))
  have e : nI (if w = h then 8 * n else 4 * n) / nI (zq_ct (zkm w h n dy) (8 * n)) = nI (zq_ct (zne w h n dy) (8 * n)) := by
    rw [show (if w = h then 8 * n else 4 * n) = zmc w h n from rfl, pk_div (by omega) hp (by omega), hl, Nat.mul_div_cancel _ hp]
  rw [e]
  exact bX9_like_0 _ _ (r_like J.G J.th.M J.th.pm (fun u F => ⟨rfl, rfl, (J.th.keep F).inv⟩))
end ZLIKE2
