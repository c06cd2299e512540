/-! how many papers -/
def zpw (k : Nat) : Nat → Int64
  | 0 => 1
  | e + 1 => zpw k e * Int32.toInt64 (nI k)
def zinO (w h n m c d : Nat) : Bool := zq_any (fun j => zt_it w h n m j c == d) 240
def zmin (w h n m c : Nat) : Bool := zq_all (fun j => decide (c ≤ zt_it w h n m j c)) 240
def zrn (w h n m : Nat) : Nat := zq_ct (zmin w h n m) n
def zul (w h n k : Nat) : Nat → Int64
  | 0 => 0
  | m + 1 => if zt_mv w h n m then zul w h n k m + zpw k (zrn w h n m) else zul w h n k m
section ZCEN
variable {w h n k t : Nat} {dy mv r : Nat → Nat} {mem : zm_Mem} {post : zm_Post}
theorem q_power {e : Nat} (he : e < 2 ^ 31) (kk : post 0 (zpw k e) mem) : zm_Call gX0_power [.int (nI k), .int (nI e)] mem post := by
  refine bX0_power_0 _ _ _ _ ?_
  have loop : ∀ f i, i + f = e → zm_Z gX0_power post 5 [(0, .int (nI k)), (1, .int (nI e)), (2, .long (zpw k i)), (4, .int (nI i))] [] mem := by
    intro f
    induction f with
    | zero =>
      intro i hi
      refine bX0_power_5 _ _ _ _ _ _ (pk_le e i (fun _ => ?_) (fun z => by omega))
      rw [show i = e by omega]; exact kk
    | succ f ih =>
      intro i hi
      refine bX0_power_5 _ _ _ _ _ _ (pk_le e i (fun z => by omega) (fun _ => ?_))
      rw [nI_1]; exact ih (i + 1) (by omega)
  exact loop e 0 (by omega)
theorem r_power (hk : mem 21 3 = nI k) {e : Nat} (he : e < 2 ^ 31) (kk : post 0 (zpw k e) mem) : zm_Call gX9_power [.ref 21, .int (nI e)] mem post := by
  refine bX9_power_0 _ _ _ ?_
  have loop : ∀ f i, i + f = e → zm_Z gX9_power post 5 [(0, .ref 21), (1, .int (nI e)), (2, .long (zpw k i)), (4, .int (nI i))] [] mem := by
    intro f
    induction f with
    | zero =>
      intro i hi
      refine bX9_power_5 _ _ _ _ _ (pk_le e i (fun _ => ?_) (fun z => by omega))
      rw [show i = e by omega]; exact kk
    | succ f ih =>
      intro i hi
      refine bX9_power_5 _ _ _ _ _ (pk_le e i (fun z => by omega) (fun _ => ?_))
      rw [nI_1, hk]; exact ih (i + 1) (by omega)
  exact loop e 0 (by omega)
theorem st_papers (J : zJ w h n k dy t mv r mem) : zm_Call gX8_papers [.ref 0] mem (zR gX9_papers [.ref 21]) := by
  have h7 := J.h7
  have hl := zq_ct_le (fun c => r c == c) n
  refine bX8_papers_0 _ _ ?_
  rw [J.C.2.2, J.k2]
  refine pk_le n 25 (fun z => q_ringCount J (q_power (by omega) (bX9_papers_0 _ _ (r_cells J.G J.th.M (pk_le n 25 (fun _ => r_layTold J.th (fun u F hu => r_power (J.th.keep F).k21 (by omega) ⟨rfl, rfl, (J.th.keep F).inv⟩)) (fun z2 => by omega)))))) (fun z => bX9_papers_0 _ _ (r_cells J.G J.th.M (pk_le n 25 (fun z2 => by omega) (fun _ => ⟨rfl, rfl, J.th.inv⟩))))
/-! the way round of a move -/
theorem zinO_iff {m c d : Nat} : zinO w h n m c d = true ↔ ∃ j, j < 240 ∧ zt_it w h n m j c = d := by
  unfold zinO
  rw [zq_any_iff]
  simp
theorem zinO_rf (m c : Nat) : zinO w h n m c c = true := zinO_iff.mpr ⟨0, by decide, rfl⟩
theorem zinO_any (G : zG w h n) {m c : Nat} (hm : zt_mv w h n m = true) (hc : c < n) : ∀ j, zinO w h n m c (zt_it w h n m j c) = true
  | 0 => zinO_rf m c
  | j + 1 => by
    obtain ⟨i, hi, e⟩ := zinO_iff.mp (zinO_any G hm hc j)
    show zinO w h n m c (zt w h n m (zt_it w h n m j c)) = true
    rw [← e]
    by_cases q : i + 1 < 240
    · exact zinO_iff.mpr ⟨i + 1, q, rfl⟩
    · refine zinO_iff.mpr ⟨0, by decide, ?_⟩
      have e2 : zt_it w h n m (i + 1) c = c := by rw [show i + 1 = 240 by omega]; exact zt_240 G hm hc
      exact e2.symm
theorem zinO_sym (G : zG w h n) {m c d : Nat} (hm : zt_mv w h n m = true) (hc : c < n) (e : zinO w h n m c d = true) : zinO w h n m d c = true := by
  obtain ⟨j, hj, rfl⟩ := zinO_iff.mp e
  have h2 := zinO_any G hm (zt_it_lt G m hc j) (240 - j)
  rw [← zt_it_add, show j + (240 - j) = 240 by omega, zt_240 G hm hc] at h2
  exact h2
theorem zinO_trans (G : zG w h n) {m c d e : Nat} (hm : zt_mv w h n m = true) (hc : c < n) (h1 : zinO w h n m c d = true) (h2 : zinO w h n m d e = true) : zinO w h n m c e = true := by
  obtain ⟨j, hj, rfl⟩ := zinO_iff.mp h1
  obtain ⟨i, hi, rfl⟩ := zinO_iff.mp h2
  rw [← zt_it_add]
  exact zinO_any G hm hc _
theorem zq_ct_all {p : Nat → Bool} : ∀ {n : Nat}, zq_ct p n = n → ∀ d, d < n → p d = true
  | 0, _, d, hd => absurd hd (Nat.not_lt_zero _)
  | n + 1, h, d, hd => by
    have h1 := zq_ct_le p n
    rw [zq_ct] at h
    by_cases e : p n = true
    · rw [if_pos e] at h
      by_cases q : d = n
      · rw [q]; exact e
      · exact zq_ct_all (p := p) (n := n) (by omega) d (by omega)
    · rw [if_neg e] at h
      omega
theorem q_passRound (G : zG w h n) (C : zC w h n mem) {m s : Nat} (hm : zt_mv w h n m = true) (hs : s < n) {P : Nat → Bool} (hP : ∀ d, d < n → mem 14 d = zb (P d)) (hcl : ∀ d e, d < n → P d = true → zinO w h n m d e = true → P e = true) (hs0 : P s = false)
    (kk : ∀ u, zF [14] mem u → (∀ d, d < n → u 14 d = zb (P d || zinO w h n m s d)) → post 0 0 u) : zm_Call gX0_passRound [.ref 13, .int (nI m), .int (nI s)] mem post := by
  have h7 := G.2.2.2.2.2.2
  have hml := (zt_mv_iff.mp hm).1
  refine bX0_passRound_0 _ _ _ _ ?_
  have loop : ∀ f i (ν : Nat → Bool) u, i + f = n → zF [14] mem u → (∀ d, d < n → u 14 d = zb (P d || ν d)) → i = zq_ct ν n → (∀ d, d < n → ν d = true → ∃ j, j < i ∧ zt_it w h n m j s = d) → (∀ j, j < i → ν (zt_it w h n m j s) = true) → zm_Z gX0_passRound post 5 [(0, .ref 13), (1, .int (nI m)), (3, .int (nI (zt_it w h n m i s))), (4, .int (nI i))] [] u := by
    intro f
    induction f with
    | zero =>
      intro i ν u hi F hu hc hν hν2
      refine bX0_passRound_5 _ _ _ _ _ ?_
      rw [show u 1 2 = nI n by rw [F 1 (by decide)]; exact C.2.2]
      refine pk_le n i (fun _ => kk u F (fun d hd => ?_)) (fun z => by omega)
      have hall := zq_ct_all (p := ν) (n := n) (by omega) d hd
      obtain ⟨j, hj, e⟩ := hν d hd hall
      rw [hu d hd, hall, show zinO w h n m s d = true by rw [← e]; exact zinO_any G hm hs j]
    | succ f ih =>
      intro i ν u hi F hu hc hν hν2
      have hl := zt_it_lt G m hs i
      refine bX0_passRound_5 _ _ _ _ _ ?_
      rw [show u 1 2 = nI n by rw [F 1 (by decide)]; exact C.2.2]
      refine pk_le n i (fun z => by omega) (fun _ => ⟨pk_in (zt_it w h n m i s) 36 (by omega), ?_⟩)
      rw [nI_clamp (by omega), hu _ hl]
      have hPn : P (zt_it w h n m i s) = false := by
        cases q : P (zt_it w h n m i s) with
        | false => rfl
        | true =>
          have := hcl _ s hl q (zinO_sym G hm hs (zinO_any G hm hs i))
          rw [hs0] at this; cases this
      rw [hPn, Bool.false_or]
      refine zb_ne0 _ (fun q => kk u F (fun d hd => ?_)) (fun q => ⟨pk_in (zt_it w h n m i s) 36 (by omega), ?_⟩)
      · rw [hu d hd]
        have e : ν d = zinO w h n m s d := by
          obtain ⟨s', hs', e'⟩ := hν _ hl q
          have all : ∀ j, ∃ j', j' < i ∧ zt_it w h n m j' s = zt_it w h n m j s := by
            intro j
            induction j with
            | zero => exact ⟨0, by omega, rfl⟩
            | succ j ihj =>
              obtain ⟨j', hj', ej⟩ := ihj
              have e3 : zt_it w h n m (j' + 1) s = zt_it w h n m (j + 1) s := by
                show zt w h n m (zt_it w h n m j' s) = zt w h n m (zt_it w h n m j s)
                rw [ej]
              by_cases q3 : j' + 1 < i
              · exact ⟨j' + 1, q3, e3⟩
              · have : j' + 1 = i := by omega
                rw [this] at e3
                exact ⟨s', hs', e'.trans e3⟩
          cases q2 : ν d with
          | true =>
            obtain ⟨j, hj, e2⟩ := hν d hd q2
            rw [← e2]; exact (zinO_any G hm hs j).symm
          | false =>
            cases q3 : zinO w h n m s d with
            | false => rfl
            | true =>
              obtain ⟨j, hj, e2⟩ := zinO_iff.mp q3
              obtain ⟨j', hj', e3⟩ := all j
              rw [← e2, ← e3, hν2 j' hj'] at q2
              cases q2
        rw [e]
      · have es := zq_ct_set q hl
        have hct := zq_ct_le (fun x => if x = zt_it w h n m i s then true else ν x) n
        refine q_target G (by unfold zC; rw [zs_cell (by decide), F 1 (by decide)]; exact C) hml hl ?_
        rw [nI_1]
        refine ih (i + 1) (fun x => if x = zt_it w h n m i s then true else ν x) _ (by omega) (F.st (by decide)) (fun d hd => ?_) (by rw [es, hc]) (fun d hd hd2 => ?_) (fun j hj => ?_)
        · try dsimp only
          by_cases q2 : d = zt_it w h n m i s
          · rw [q2, zs_self, if_pos rfl, Bool.or_true]; rfl
          · rw [zs_slot q2, if_neg q2]; exact hu d hd
        · try dsimp only at hd2
          by_cases q2 : d = zt_it w h n m i s
          · exact ⟨i, by omega, q2.symm⟩
          · rw [if_neg q2] at hd2
            obtain ⟨j, hj, e⟩ := hν d hd hd2
            exact ⟨j, by omega, e⟩
        · try dsimp only
          split
          · rfl
          · rename_i q2
            exact hν2 j (by
              have : j ≠ i := fun z => q2 (by rw [z])
              omega)
  exact loop n 0 (fun _ => false) mem (by omega) zF.rf (fun d hd => by rw [hP d hd, Bool.or_false]) (by rw [zq_ct_zero (fun _ _ => rfl)]) (fun d hd z => by cases z) (fun j hj => by omega)
theorem q_roundsOf (G : zG w h n) (C : zC w h n mem) {m : Nat} (hm : zt_mv w h n m = true) (kk : ∀ u, zF [14] mem u → post (nI (zrn w h n m)) 0 u) : zm_Call gX0_roundsOf [.ref 13, .int (nI m)] mem post := by
  have h7 := G.2.2.2.2.2.2
  refine bX0_roundsOf_0 _ _ _ ?_
  have loop2 : ∀ f c u, c + f = n → zF [14] mem u → (∀ d, d < n → u 14 d = zb (zq_any (fun c' => zinO w h n m c' d) c)) → zm_Z gX0_roundsOf post 30 [(0, .ref 13), (1, .int (nI m)), (2, .int (nI (zq_ct (zmin w h n m) c))), (3, .int (nI c))] [] u := by
    intro f
    induction f with
    | zero =>
      intro c u hc F hu
      refine bX0_roundsOf_30 _ _ _ _ _ ?_
      rw [show u 1 2 = nI n by rw [F 1 (by decide)]; exact C.2.2]
      refine pk_le n c (fun _ => ?_) (fun z => by omega)
      rw [show c = n by omega]; exact kk u F
    | succ f ih =>
      intro c u hc F hu
      have hcl : ∀ d e, d < n → zq_any (fun c' => zinO w h n m c' d) c = true → zinO w h n m d e = true → zq_any (fun c' => zinO w h n m c' e) c = true := by
        intro d e hd h1 h2
        obtain ⟨c', hc', e'⟩ := zq_any_iff.mp h1
        exact zq_any_iff.mpr ⟨c', hc', zinO_trans G hm (by omega) e' h2⟩
      refine bX0_roundsOf_30 _ _ _ _ _ ?_
      rw [show u 1 2 = nI n by rw [F 1 (by decide)]; exact C.2.2]
      refine pk_le n c (fun z => by omega) (fun _ => ⟨pk_in c 36 (by omega), ?_⟩)
      rw [nI_clamp (by omega), hu c (by omega), nI_1, nI_1]
      refine zb_ne0 _ (fun q => ?_) (fun q => q_passRound G (by unfold zC; rw [F 1 (by decide)]; exact C) hm (by omega) hu hcl q (fun v Fv hv => ?_))
      · obtain ⟨c', hc', e'⟩ := zq_any_iff.mp q
        have nx := ih (c + 1) u (by omega) F (fun d hd => by
          have e5 : zq_any (fun c' => zinO w h n m c' d) c = zq_any (fun c' => zinO w h n m c' d) (c + 1) := by
            show _ = (zq_any (fun c' => zinO w h n m c' d) c || zinO w h n m c d)
            cases q2 : zinO w h n m c d with
            | false => rw [Bool.or_false]
            | true => rw [hcl c d (by omega) q q2, Bool.true_or]
          rw [← e5]
          exact hu d hd)
        have hmin : zmin w h n m c = false := by
          obtain ⟨j, hj, e⟩ := zinO_iff.mp (zinO_sym G hm (by omega) e')
          exact zq_no (m := j) hj (by rw [e]; simp; omega)
        rw [zq_ct, if_neg (by simp [hmin]), Nat.add_zero] at nx
        exact nx
      · have nx := ih (c + 1) v (by omega) (F.trans Fv) hv
        have hmin : zmin w h n m c = true := zq_all_iff.mpr (fun j hj => by
          refine decide_eq_true (Nat.le_of_not_lt (fun z => ?_))
          have : zq_any (fun c' => zinO w h n m c' c) c = true := zq_any_iff.mpr ⟨_, z, zinO_sym G hm (by omega) (zinO_any G hm (by omega) j)⟩
          rw [q] at this; cases this)
        rw [zq_ct, if_pos hmin] at nx
        exact nx
  have loop1 : ∀ f c u, c + f = n → zF [14] mem u → (∀ d, d < c → u 14 d = 0) → zm_Z gX0_roundsOf post 2 [(0, .ref 13), (1, .int (nI m)), (2, .int (nI c))] [] u := by
    intro f
    induction f with
    | zero =>
      intro c u hc F hu
      refine bX0_roundsOf_2 _ _ _ _ ?_
      rw [show u 1 2 = nI n by rw [F 1 (by decide)]; exact C.2.2]
      refine pk_le n c (fun _ => ?_) (fun z => by omega)
      exact loop2 n 0 u (by omega) F (fun d hd => hu d (by omega))
    | succ f ih =>
      intro c u hc F hu
      refine bX0_roundsOf_2 _ _ _ _ ?_
      rw [show u 1 2 = nI n by rw [F 1 (by decide)]; exact C.2.2]
      refine pk_le n c (fun z => by omega) (fun _ => ⟨pk_in c 36 (by omega), ?_⟩)
      rw [nI_clamp (by omega), nI_1]
      refine ih (c + 1) _ (by omega) (F.st (by decide)) (fun d hd => ?_)
      by_cases q : d = c
      · rw [q, zs_self]
      · rw [zs_slot q]; exact hu d (by omega)
  exact loop1 n 0 mem (by omega) zF.rf (fun d hd => by omega)
/-- rings of one move are its ways round -/
theorem zrn_rings (G : zG w h n) {m : Nat} (hm : zt_mv w h n m = true) {r : Nat → Nat} (hr : zIR w h n 1 (fun _ => m) r) : zq_ct (fun c => r c == c) n = zrn w h n m := by
  refine zq_ct_cong (fun c hc => ?_)
  have inv : ∀ j, r (zt_it w h n m j c) = r c := by
    intro j
    induction j with
    | zero => rfl
    | succ j ih => exact (hr.2.1 _ (zt_it_lt G m hc j) 0 (by decide)).trans ih
  have hO : zIv w h n 1 (fun _ => m) (fun d => if zinO w h n m c d then 1 else 0) := by
    intro d hd j hj
    have e : zinO w h n m c (zt w h n m d) = zinO w h n m c d := by
      cases q : zinO w h n m c d with
      | true => exact zinO_trans G hm hc q (zinO_any G hm hd 1)
      | false =>
        cases q2 : zinO w h n m c (zt w h n m d) with
        | false => rfl
        | true =>
          have := zinO_trans G hm hc q2 (zinO_sym G hm hd (zinO_any G hm hd 1))
          rw [q] at this; cases this
    show (if zinO w h n m c (zt w h n m d) then 1 else 0) = (if zinO w h n m c d then 1 else 0)
    rw [e]
  have h1 := hr.2.2 _ hO c hc
  have h2 : zinO w h n m c (r c) = true := by
    rw [zinO_rf] at h1
    cases q : zinO w h n m c (r c) with
    | true => rfl
    | false => rw [q] at h1; cases h1
  cases q : zmin w h n m c with
  | true =>
    obtain ⟨j, hj, e⟩ := zinO_iff.mp h2
    have h3 := zq_all_iff.mp q j hj
    rw [e] at h3
    have h4 := hr.1 c hc
    simp at h3 ⊢
    omega
  | false =>
    by_cases q2 : r c = c
    · have : zmin w h n m c = true := zq_all_iff.mpr (fun j hj => by
        have h5 := hr.1 _ (zt_it_lt G m hc j)
        rw [inv j, q2] at h5
        exact decide_eq_true h5)
      rw [q] at this; cases this
    · simp [q2]
theorem q_unlike (G : zG w h n) (C : zC w h n mem) (kk : ∀ u, zF [14] mem u → post 0 (zul w h n k (8 * n) / Int32.toInt64 (nI (zmc w h n))) u) : zm_Call gX0_unlike [.ref 13, .int (nI k)] mem post := by
  have h6 := G.2.2.2.2.2.1
  have h7 := G.2.2.2.2.2.2
  have hc1 : 1 ≤ zmc w h n ∧ zmc w h n ≤ 288 := by unfold zmc; split <;> omega
  refine bX0_unlike_0 _ _ _ ?_
  have loop : ∀ f m u, m + f = 8 * n → zF [14] mem u → zm_Z gX0_unlike post 5 [(0, .ref 13), (1, .int (nI k)), (2, .long (zul w h n k m)), (4, .int (nI m))] [] u := by
    intro f
    induction f with
    | zero =>
      intro m u hm F
      have Cu : zC w h n u := by unfold zC; rw [F 1 (by decide)]; exact C
      refine bX0_unlike_5 _ _ _ _ _ (q_numbers Cu (pk_le (8 * n) m (fun _ => q_moveCount G Cu ?_) (fun z => by omega)))
      refine pk_le 1 (zmc w h n) (fun _ => ⟨?_, ?_⟩) (fun z => by omega)
      · intro z
        have : (Int32.toInt64 (nI (zmc w h n))).toInt = 0 := by
          have := congrArg Int64.toInt z
          exact this
        rw [zl_nI (by omega)] at this
        omega
      · rw [show m = 8 * n by omega]; exact kk u F
    | succ f ih =>
      intro m u hm F
      have Cu : zC w h n u := by unfold zC; rw [F 1 (by decide)]; exact C
      refine bX0_unlike_5 _ _ _ _ _ (q_numbers Cu (pk_le (8 * n) m (fun z => by omega) (fun _ => q_hasMove G Cu _ ?_)))
      rw [zt_isM_nI (by omega), nI_1]
      refine zb_eq0 _ (fun e => ?_) (fun e => q_roundsOf G Cu e (fun v Fv => q_power (by have := zq_ct_le (zmin w h n m) n; unfold zrn; omega) ?_))
      · have := ih (m + 1) u (by omega) F
        rw [zul, if_neg (by simp [e])] at this
        exact this
      · have := ih (m + 1) v (by omega) (F.trans Fv)
        rw [zul, if_pos e] at this
        exact this
  exact loop (8 * n) 0 mem (by omega) zF.rf
theorem r_upTo (G : zG w h n) (M : zM w h mem) (hk : mem 21 3 = nI k) (kk : ∀ u, zF [25] mem u → post 0 (zul w h n k (8 * n) / lN (zmc w h n)) u) : zm_Z gX9_upTo post 25 [(0, .ref 21), (1, .long 0), (3, .long 0), (5, .int (nI 0))] [] mem := by
  have h6 := G.2.2.2.2.2.1
  have h7 := G.2.2.2.2.2.2
  have hc1 : 1 ≤ zmc w h n ∧ zmc w h n ≤ 288 := by unfold zmc; split <;> omega
  have loop : ∀ f m u, m + f = 8 * n → zF [25] mem u → zm_Z gX9_upTo post 25 [(0, .ref 21), (1, .long (zul w h n k m)), (3, .long (lN (zq_ct (zt_mv w h n) m))), (5, .int (nI m))] [] u := by
    intro f
    induction f with
    | zero =>
      intro m u hm F
      have Mu : zM w h u := by unfold zM; rw [F 21 (by decide)]; exact M
      refine bX9_upTo_25 _ _ _ _ _ (r_cells G Mu ?_)
      rw [show (8 : Int32) = nI 8 from rfl, pk_mul]
      refine pk_le (8 * n) m (fun _ => ?_) (fun z => by omega)
      rw [show m = 8 * n by omega, zmc_ct]
      refine ⟨fun z => ?_, kk u F⟩
      have := (lN_eq (a := zmc w h n) (b := 0) (by omega) (by decide)).mp z
      omega
    | succ f ih =>
      intro m u hm F
      have Mu : zM w h u := by unfold zM; rw [F 21 (by decide)]; exact M
      refine bX9_upTo_25 _ _ _ _ _ (r_cells G Mu ?_)
      rw [show (8 : Int32) = nI 8 from rfl, pk_mul]
      refine pk_le (8 * n) m (fun z => by omega) (fun _ => r_noMove G Mu _ ?_)
      rw [zt_isM_nI (by omega), nI_1]
      refine zb_ne0 _ (fun e => ?_) (fun e => ?_)
      · have := ih (m + 1) u (by omega) F
        simp at e
        rw [zul, if_neg (by simp [e]), zq_ct, if_neg (by simp [e]), Nat.add_zero] at this
        exact this
      · simp at e
        refine r_layRings (T := 1) (MV := fun _ => m) G Mu _ (fun _ _ => e) (Or.inr ⟨rfl, by omega, rfl⟩) (fun v r' Fv hr hv => ?_)
        rw [zrn_rings G e hr]
        refine r_power (k := k) (by rw [Fv 21 (by decide), F 21 (by decide)]; exact hk) (by have := zq_ct_le (zmin w h n m) n; unfold zrn; omega) ?_
        have := ih (m + 1) v (by omega) (F.trans Fv)
        rw [zul, if_pos e, zq_ct, if_pos e, ← lN_1] at this
        exact this
  exact loop (8 * n) 0 mem (by omega) zF.rf
theorem st_upTo (J : zJ w h n k dy t mv r mem) : zm_Call gX8_upTo [.ref 0] mem (zR gX9_upTo [.ref 21]) := by
  have h7 := J.h7
  have hc1 : zmc w h n ≤ 288 := by unfold zmc; split <;> omega
  refine bX8_upTo_0 _ _ ?_
  rw [J.C.2.2, J.k2]
  refine pk_le n 25 (fun z => q_unlike J.G J.C (fun u F => ?_)) (fun z => bX9_upTo_0 _ _ (r_cells J.G J.th.M (pk_le n 25 (fun z2 => by omega) (fun _ => ⟨rfl, rfl, J.th.inv⟩))))
  have J2 := (J.keep F).th
  refine bX9_upTo_0 _ _ (r_cells J2.G J2.M (pk_le n 25 (fun _ => r_upTo J2.G J2.M J2.k21 (fun v Fv => ⟨rfl, ?_, (J2.keep Fv).inv⟩)) (fun z2 => by omega)))
  rw [nI_l (by omega)]
end ZCEN
