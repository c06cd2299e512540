/-! colours of rings: mend, sure, torn -/
def zco (n : Nat) (r dy : Nat → Nat) (a d : Nat) : Nat := zq_ct (fun c => r c == a && dy c == d) n
def zmof (f : Nat → Nat) : Nat → Nat × Nat
  | 0 => (9, 0)
  | d + 1 => if (zmof f d).2 < f d then (d, f d) else zmof f d
def zmo (n : Nat) (r dy : Nat → Nat) (a : Nat) : Nat := (zmof (zco n r dy a) 4).1
def zhc (n : Nat) (r dy : Nat → Nat) (a K : Nat) : Nat := zq_ct (fun d => decide (0 < zco n r dy a d)) K
theorem zmof_le {f : Nat → Nat} : ∀ {i d : Nat}, d < i → f d ≤ (zmof f i).2
  | 0, d, h => absurd h (Nat.not_lt_zero _)
  | i + 1, d, h => by
    rw [zmof]
    by_cases q : d = i
    · split
      · rw [q]; exact Nat.le_refl _
      · rw [q]; omega
    · have ih := zmof_le (f := f) (i := i) (d := d) (by omega)
      split
      · exact Nat.le_of_lt (Nat.lt_of_le_of_lt ih (by assumption))
      · exact ih
theorem zmof_ext {f : Nat → Nat} {K : Nat} : ∀ j, (∀ d, K ≤ d → d < K + j → f d = 0) → zmof f (K + j) = zmof f K
  | 0, _ => rfl
  | j + 1, h => by
    show (if (zmof f (K + j)).2 < f (K + j) then (K + j, f (K + j)) else zmof f (K + j)) = _
    rw [h (K + j) (by omega) (by omega), if_neg (Nat.not_lt_zero _), zmof_ext j (fun d h1 h2 => h d h1 (by omega))]
theorem zmof_lt {f : Nat → Nat} : ∀ i, (zmof f i).1 < i ∨ (zmof f i).1 = 9
  | 0 => Or.inr rfl
  | i + 1 => by
    rw [zmof]
    split
    · exact Or.inl (Nat.lt_succ_self _)
    · rcases zmof_lt (f := f) i with q | q
      · exact Or.inl (by omega)
      · exact Or.inr q
theorem zmof_0 {f : Nat → Nat} : ∀ i, (∀ d, d < i → f d = 0) → zmof f i = (9, 0)
  | 0, _ => rfl
  | i + 1, h => by rw [zmof, zmof_0 i (fun d hd => h d (by omega)), h i (by omega)]; rfl
theorem zmof_cong {f g : Nat → Nat} : ∀ i, (∀ d, d < i → f d = g d) → zmof f i = zmof g i
  | 0, _ => rfl
  | i + 1, h => by rw [zmof, zmof, zmof_cong i (fun d hd => h d (by omega)), h i (by omega)]
section ZMEND
variable {w h n k t : Nat} {dy mv r : Nat → Nat} {mem : zm_Mem} {post : zm_Post}
theorem zco_le (a d : Nat) : zco n r dy a d ≤ n := zq_ct_le _ _
theorem zco_0 (hd : ∀ c, c < n → dy c < k ∨ dy c = 9) {a d : Nat} (h1 : k ≤ d) (h2 : d < 9) : zco n r dy a d = 0 := zq_ct_zero (fun c hc => by
  have : dy c ≠ d := by rcases hd c hc with q | q <;> omega
  simp [this])
theorem zmo_k (hk4 : k ≤ 4) (hd : ∀ c, c < n → dy c < k ∨ dy c = 9) (a : Nat) : (zmof (zco n r dy a) k).1 = zmo n r dy a := by
  unfold zmo
  have := zmof_ext (f := zco n r dy a) (K := k) (4 - k) (fun d h1 h2 => zco_0 hd h1 (by omega))
  rw [show k + (4 - k) = 4 by omega] at this
  rw [this]
theorem zhc_k (hk4 : k ≤ 4) (hd : ∀ c, c < n → dy c < k ∨ dy c = 9) (a : Nat) : zhc n r dy a 4 = zhc n r dy a k := by
  unfold zhc
  have := zq_ct_split (fun d => decide (0 < zco n r dy a d)) k (4 - k)
  rw [show k + (4 - k) = 4 by omega] at this
  rw [this, zq_ct_zero (n := 4 - k) (fun d hdd => by rw [zco_0 hd (by omega) (by omega)]; rfl), Nat.add_zero]
theorem zmo_rng (hk4 : k ≤ 4) (hd : ∀ c, c < n → dy c < k ∨ dy c = 9) (a : Nat) : zmo n r dy a < k ∨ zmo n r dy a = 9 := by
  rw [← zmo_k hk4 hd]
  exact zmof_lt k
def zPr (n : Nat) (r : Nat → Nat) (mem : zm_Mem) : Prop := ∀ c, c < n → mem 10 c = nI (r c) ∧ r c ≤ c
theorem zJ.pr (J : zJ w h n k dy t mv r mem) : zPr n r mem := fun c hc => ⟨J.2.1.2.2.2.2.2 c hc, J.1.2.2.2.2.2.2.1 c hc⟩
theorem q_cellsOf (G : zG w h n) (C : zC w h n mem) (R : zPr n r mem) (P : zPd n dy mem) {a d : Nat} (ha : a < 36) (hd : d < 10) (kk : post (nI (zco n r dy a d)) 0 mem) : zm_Call gX7_cellsOf [.ref 8, .int (nI a), .int (nI d)] mem post := by
  have h7 := G.2.2.2.2.2.2
  refine bX7_cellsOf_0 _ _ _ _ ?_
  have loop : ∀ f c, c + f = n → zm_Z gX7_cellsOf post 5 [(0, .ref 8), (1, .int (nI a)), (2, .int (nI d)), (3, .int (nI (zq_ct (fun c => r c == a && dy c == d) c))), (4, .int (nI c))] [] mem := by
    intro f
    induction f with
    | zero =>
      intro c hc
      refine bX7_cellsOf_5 _ _ _ _ _ _ ?_
      rw [C.2.2]
      refine pk_le n c (fun _ => ?_) (fun z => by omega)
      rw [show c = n by omega]; exact kk
    | succ f ih =>
      intro c hc
      have nx := ih (c + 1) (by omega)
      rw [zq_ct] at nx
      have p1 := R c (by omega)
      have p2 := P c (by omega)
      refine bX7_cellsOf_5 _ _ _ _ _ _ ?_
      rw [C.2.2]
      refine pk_le n c (fun z => by omega) (fun _ => ⟨pk_in c 36 (by omega), ?_⟩)
      rw [nI_clamp (by omega), p1.1, p2.1, nI_1, nI_1]
      refine zn_ne (r c) a (fun e => ?_) (fun e => ⟨pk_in c 36 (by omega), zn_ne (dy c) d (fun e2 => ?_) (fun e2 => ?_)⟩)
      · rw [if_neg (by simp [e])] at nx; exact nx
      · rw [if_neg (by simp [e2])] at nx; exact nx
      · rw [if_pos (by simp [e, e2])] at nx; exact nx
  exact loop n 0 (by omega)
theorem q_commonHue (G : zG w h n) (C : zC w h n mem) (hk : mem 2 3 = nI k) (hk4 : k ≤ 4) (R : zPr n r mem) (P : zPd n dy mem) {a : Nat} (ha : a < 36) (kk : post (nI (zmof (zco n r dy a) k).1) 0 mem) : zm_Call gX7_commonHue [.ref 8, .int (nI a)] mem post := by
  have h7 := G.2.2.2.2.2.2
  refine bX7_commonHue_0 _ _ _ ?_
  have loop : ∀ f d, d + f = k → zm_Z gX7_commonHue post 8 [(0, .ref 8), (1, .int (nI a)), (2, .int (nI (zmof (zco n r dy a) d).1)), (3, .int (nI (zmof (zco n r dy a) d).2)), (4, .int (nI d))] [] mem := by
    intro f
    induction f with
    | zero =>
      intro d hd
      refine bX7_commonHue_8 _ _ _ _ _ _ ?_
      rw [hk]
      refine pk_le k d (fun _ => ?_) (fun z => by omega)
      rw [show d = k by omega]; exact kk
    | succ f ih =>
      intro d hd
      have nx := ih (d + 1) (by omega)
      rw [zmof] at nx
      have l1 := zco_le (n := n) (r := r) (dy := dy) a d
      have l2 : (zmof (zco n r dy a) d).2 ≤ n := by
        clear nx ih hd
        induction d with
        | zero => exact Nat.zero_le _
        | succ d ihd =>
          rw [zmof]
          split
          · exact zco_le a d
          · exact ihd (zco_le a d)
      refine bX7_commonHue_8 _ _ _ _ _ _ ?_
      rw [hk]
      refine pk_le k d (fun z => by omega) (fun _ => q_cellsOf G C R P ha (by omega) ?_)
      try dsimp only
      rw [nI_1]
      refine pk_le (zco n r dy a d) (zmof (zco n r dy a) d).2 (fun e => ?_) (fun e => ?_)
      · rw [if_neg (by omega)] at nx; exact nx
      · rw [if_pos e] at nx; exact nx
  exact loop k 0 (by omega)
theorem q_hueCount (G : zG w h n) (C : zC w h n mem) (hk : mem 2 3 = nI k) (hk4 : k ≤ 4) (R : zPr n r mem) (P : zPd n dy mem) {a : Nat} (ha : a < 36) (kk : post (nI (zhc n r dy a k)) 0 mem) : zm_Call gX7_hueCount [.ref 8, .int (nI a)] mem post := by
  have h7 := G.2.2.2.2.2.2
  refine bX7_hueCount_0 _ _ _ ?_
  have loop : ∀ f d, d + f = k → zm_Z gX7_hueCount post 4 [(0, .ref 8), (1, .int (nI a)), (2, .int (nI (zhc n r dy a d))), (3, .int (nI d))] [] mem := by
    intro f
    induction f with
    | zero =>
      intro d hd
      refine bX7_hueCount_4 _ _ _ _ _ ?_
      rw [hk]
      refine pk_le k d (fun _ => ?_) (fun z => by omega)
      rw [show d = k by omega]; exact kk
    | succ f ih =>
      intro d hd
      have nx := ih (d + 1) (by omega)
      unfold zhc at nx ⊢
      rw [zq_ct] at nx
      have l1 := zco_le (n := n) (r := r) (dy := dy) a d
      refine bX7_hueCount_4 _ _ _ _ _ ?_
      rw [hk]
      refine pk_le k d (fun z => by omega) (fun _ => q_cellsOf G C R P ha (by omega) ?_)
      try dsimp only
      rw [nI_1, nI_1]
      refine pk_le (zco n r dy a d) 0 (fun e => ?_) (fun e => ?_)
      · rw [if_neg (by simp; omega)] at nx; exact nx
      · rw [if_pos (by simpa using e)] at nx; exact nx
  exact loop k 0 (by omega)
/-! the reference -/
def zPq (n : Nat) (r : Nat → Nat) (mem : zm_Mem) : Prop := ∀ c, c < n → mem 25 c = nI (r c) ∧ r c ≤ c
theorem r_reckon (G : zG w h n) (M : zM w h mem) (hk4 : k ≤ 4) (hd : ∀ c, c < n → dy c < k ∨ dy c = 9) (R : zPq n r mem) (P : zPm n dy mem) {a : Nat} (ha : a < 36) (kk : ∀ u, zF [26] mem u → (∀ d, d < 4 → u 26 d = nI (zco n r dy a d)) → post (nI (zhc n r dy a 4)) 0 u) : zm_Call gX9_reckon [.ref 21, .int (nI a)] mem post := by
  have h7 := G.2.2.2.2.2.2
  refine bX9_reckon_0 _ _ _ ?_
  have loop3 : ∀ u, zF [26] mem u → (∀ d, d < 4 → u 26 d = nI (zco n r dy a d)) → ∀ f d, d + f = 4 → zm_Z gX9_reckon post 76 [(0, .ref 21), (2, .int (nI (zhc n r dy a d))), (3, .int (nI d))] [] u := by
    intro u F hu f
    induction f with
    | zero =>
      intro d hd
      refine bX9_reckon_76 _ _ _ _ (pk_le 4 d (fun _ => ?_) (fun z => by omega))
      rw [show d = 4 by omega]; exact kk u F hu
    | succ f ih =>
      intro d hd
      have nx := ih (d + 1) (by omega)
      unfold zhc at nx ⊢
      rw [zq_ct] at nx
      have l1 := zco_le (n := n) (r := r) (dy := dy) a d
      refine bX9_reckon_76 _ _ _ _ (pk_le 4 d (fun z => by omega) (fun _ => ⟨pk_in d 4 (by omega), ?_⟩))
      rw [nI_clamp (by omega), hu d (by omega), nI_1, nI_1, show nI (zq_ct (fun d => decide (0 < zco n r dy a d)) d) + 0 = nI (zq_ct (fun d => decide (0 < zco n r dy a d)) d) from nI_add _ 0]
      refine pk_le (zco n r dy a d) 0 (fun e => ?_) (fun e => ?_)
      · rw [if_neg (by simp; omega)] at nx; exact nx
      · rw [if_pos (by simpa using e)] at nx; exact nx
  have loop2 : ∀ f c u, c + f = n → zF [26] mem u → (∀ d, d < 4 → u 26 d = nI (zq_ct (fun c => r c == a && dy c == d) c)) → zm_Z gX9_reckon post 22 [(0, .ref 21), (1, .int (nI a)), (2, .int (nI c))] [] u := by
    intro f
    induction f with
    | zero =>
      intro c u hc F hu
      have Mu : zM w h u := by unfold zM; rw [F 21 (by decide)]; exact M
      refine bX9_reckon_22 _ _ _ _ (r_cells G Mu (pk_le n c (fun _ => ?_) (fun z => by omega)))
      exact loop3 u F (fun d hd4 => by rw [hu d hd4, show c = n by omega]; rfl) 4 0 (by omega)
    | succ f ih =>
      intro c u hc F hu
      have Mu : zM w h u := by unfold zM; rw [F 21 (by decide)]; exact M
      have p1 := R c (by omega)
      have p2 := P c (by omega)
      have u25 : u 25 c = nI (r c) := by rw [F 25 (by decide)]; exact p1.1
      have u22 : u 22 c = nI (dy c) := by rw [F 22 (by decide)]; exact p2.1
      have skip : (r c == a && dy c == 9) = true ∨ (r c == a) = false → zm_Z gX9_reckon post 22 [(0, .ref 21), (1, .int (nI a)), (2, .int (nI (c + 1)))] [] u := by
        intro q
        refine ih (c + 1) u (by omega) F (fun d hd4 => ?_)
        rw [hu d hd4, zq_ct]
        have : (r c == a && dy c == d) = false := by
          rcases q with q | q
          · simp at q
            simp; omega
          · simp [q]
        rw [if_neg (by simp [this]), Nat.add_zero]
      refine bX9_reckon_22 _ _ _ _ (r_cells G Mu (pk_le n c (fun z => by omega) (fun _ => ⟨pk_in c 36 (by omega), ?_⟩)))
      rw [nI_clamp (by omega), u25, u22, nI_1]
      refine zn_ne (r c) a (fun e => skip (Or.inr (by simpa using e))) (fun e => ⟨pk_in c 36 (by omega), pk_eq (dy c) 9 (fun e2 => skip (Or.inl (by simp [e, e2]))) (fun e2 => ?_)⟩)
      have hdc : dy c < 4 := by rcases hd c (by omega) with q | q <;> omega
      rw [nI_clamp (by omega), hu (dy c) hdc, nI_1]
      refine ⟨pk_in c 36 (by omega), pk_in (dy c) 4 hdc, pk_in (dy c) 4 hdc, ih (c + 1) _ (by omega) (F.st (by decide)) (fun d hd4 => ?_)⟩
      rw [zq_ct]
      by_cases q : d = dy c
      · rw [q, zs_self, if_pos (by simp [e])]
      · rw [zs_slot q, hu d hd4, if_neg (by simp; omega), Nat.add_zero]
  have loop1 : ∀ f d u, d + f = 4 → zF [26] mem u → (∀ e, e < d → u 26 e = 0) → zm_Z gX9_reckon post 2 [(0, .ref 21), (1, .int (nI a)), (2, .int (nI d))] [] u := by
    intro f
    induction f with
    | zero =>
      intro d u hdd F hu
      refine bX9_reckon_2 _ _ _ _ (pk_le 4 d (fun _ => ?_) (fun z => by omega))
      exact loop2 n 0 u (by omega) F (fun e he => hu e (by omega))
    | succ f ih =>
      intro d u hdd F hu
      refine bX9_reckon_2 _ _ _ _ (pk_le 4 d (fun z => by omega) (fun _ => ⟨pk_in d 4 (by omega), ?_⟩))
      rw [nI_clamp (by omega), nI_1]
      refine ih (d + 1) _ (by omega) (F.st (by decide)) (fun e he => ?_)
      by_cases q : e = d
      · rw [q, zs_self]
      · rw [zs_slot q]; exact hu e (by omega)
  exact loop1 4 0 mem rfl zF.rf (fun e he => by omega)
theorem r_mostOf (G : zG w h n) (M : zM w h mem) (hk4 : k ≤ 4) (hd : ∀ c, c < n → dy c < k ∨ dy c = 9) (R : zPq n r mem) (P : zPm n dy mem) {a : Nat} (ha : a < 36) (kk : ∀ u, zF [26] mem u → post (nI (zmo n r dy a)) 0 u) : zm_Call gX9_mostOf [.ref 21, .int (nI a)] mem post := by
  have h7 := G.2.2.2.2.2.2
  refine bX9_mostOf_0 _ _ _ (r_reckon G M hk4 hd R P ha (fun u F hu => ?_))
  have hl : zhc n r dy a 4 ≤ 4 := zq_ct_le _ _
  refine zn_ne (zhc n r dy a 4) 0 (fun e => ?_) (fun e => ?_)
  · have loop : ∀ f d b, d + f = 4 → b < 4 → (zmof (zco n r dy a) d).2 = zco n r dy a b → (0 < (zmof (zco n r dy a) d).2 → (zmof (zco n r dy a) d).1 = b) → zm_Z gX9_mostOf post 15 [(0, .ref 21), (2, .int (nI b)), (3, .int (nI d))] [] u := by
      intro f
      induction f with
      | zero =>
        intro d b hdd hb h1 h2
        refine bX9_mostOf_15 _ _ _ _ (pk_le 4 d (fun _ => ?_) (fun z => by omega))
        have e4 : d = 4 := by omega
        subst e4
        have pos : 0 < (zmof (zco n r dy a) 4).2 := by
          obtain ⟨d, h3, h4⟩ := zq_ct_pos.mp (Nat.pos_of_ne_zero e)
          have := zmof_le (f := zco n r dy a) h3
          simp at h4
          omega
        rw [← h2 pos]
        exact kk u F
      | succ f ih =>
        intro d b hdd hb h1 h2
        have l1 := zco_le (n := n) (r := r) (dy := dy) a d
        have l2 := zco_le (n := n) (r := r) (dy := dy) a b
        refine bX9_mostOf_15 _ _ _ _ (pk_le 4 d (fun z => by omega) (fun _ => ⟨pk_in d 4 (by omega), pk_in b 4 hb, ?_⟩))
        rw [nI_clamp (by omega), nI_clamp (by omega), hu d (by omega), hu b hb, nI_1]
        refine pk_le (zco n r dy a d) (zco n r dy a b) (fun q => ih (d + 1) b (by omega) hb ?_ ?_) (fun q => ih (d + 1) d (by omega) (by omega) ?_ ?_)
        · rw [zmof, if_neg (by omega)]; exact h1
        · rw [zmof, if_neg (by omega)]; exact h2
        · rw [zmof, if_pos (by omega)]
        · rw [zmof, if_pos (by omega)]; intro _; rfl
    refine loop 3 1 0 rfl (by decide) ?_ ?_
    · show (if 0 < zco n r dy a 0 then (0, zco n r dy a 0) else (9, 0)).2 = _
      split
      · rfl
      · show 0 = _; omega
    · show 0 < (if 0 < zco n r dy a 0 then (0, zco n r dy a 0) else (9, 0)).2 → (if 0 < zco n r dy a 0 then (0, zco n r dy a 0) else (9, 0)).1 = 0
      split
      · intro _; rfl
      · intro z; exact absurd z (Nat.lt_irrefl 0)
  · have : zmo n r dy a = 9 := by
      unfold zmo
      rw [zmof_0 4 (fun d hd4 => ?_)]
      have : ¬ 0 < zco n r dy a d := fun z => by
        have := zq_ct_pos.mpr (show ∃ k, k < 4 ∧ (fun d => decide (0 < zco n r dy a d)) k = true from ⟨d, hd4, by simpa using z⟩)
        unfold zhc at e
        omega
      omega
    have k2 := kk u F
    rw [this] at k2
    exact k2
theorem zhc_none (hr : zIR w h n t mv r) {a : Nat} (ha : ¬ r a = a) (K : Nat) : zhc n r dy a K = 0 := zq_ct_zero (fun d _ => by
  have : zco n r dy a d = 0 := zq_ct_zero (fun c hc => by
    have : r c ≠ a := fun z => ha (by rw [← z]; exact hr.idem hc)
    simp [this])
  rw [this]; rfl)
theorem zJ.pq {u : zm_Mem} (J : zJ w h n k dy t mv r mem) (hu : ∀ c, c < n → u 25 c = nI (r c)) : zPq n r u := fun c hc => ⟨hu c hc, J.1.2.2.2.2.2.2.1 c hc⟩
theorem st_torn (J : zJ w h n k dy t mv r mem) : zm_Call gX8_torn [.ref 0] mem (zR gX9_torn [.ref 21]) := by
  have h7 := J.h7
  have hk4 := J.1.2.2.1
  have hd := J.1.2.2.2.1
  have hr := J.1.2.2.2.2.2.2
  -- the reference
  have ref : zR gX9_torn [.ref 21] (nI (zq_ct (fun a => decide (1 < zhc n r dy a 4)) n)) 0 mem := by
    refine bX9_torn_0 _ _ (r_layTold J.th (fun u F hu => ?_))
    have J2 := J.th.keep F
    have loop : ∀ f c v, c + f = n → zF [26] u v → zm_Z gX9_torn (fun x' l' u' => nI (zq_ct (fun a => decide (1 < zhc n r dy a 4)) n) = x' ∧ 0 = l' ∧ zInv u') 16 [(0, .ref 21), (1, .int (nI (zq_ct (fun a => decide (1 < zhc n r dy a 4)) c))), (2, .int (nI c))] [] v := by
      intro f
      induction f with
      | zero =>
        intro c v hc Fv
        have J3 := J2.keep Fv
        refine bX9_torn_16 _ _ _ _ (r_cells J3.G J3.M (pk_le n c (fun _ => ⟨?_, rfl, J3.inv⟩) (fun z => by omega)))
        rw [show c = n by omega]
      | succ f ih =>
        intro c v hc Fv
        have J3 := J2.keep Fv
        have v25 : ∀ d, d < n → v 25 d = nI (r d) := fun d hd => by rw [Fv 25 (by decide)]; exact hu d hd
        have hl := hr.1 c (by omega)
        have hl4 : zhc n r dy c 4 ≤ 4 := zq_ct_le _ _
        have skip : ¬ 1 < zhc n r dy c 4 → ∀ s, zF [26] u s → zm_Z gX9_torn (fun x' l' u' => nI (zq_ct (fun a => decide (1 < zhc n r dy a 4)) n) = x' ∧ 0 = l' ∧ zInv u') 48 [(0, .ref 21), (2, .int (nI c))] [.int (nI (zq_ct (fun a => decide (1 < zhc n r dy a 4)) c))] s := by
          intro q s Fs
          refine bX9_torn_48 _ _ _ _ ?_
          have nx := ih (c + 1) s (by omega) Fs
          rw [zq_ct, if_neg (by simpa using q)] at nx
          rw [show (0 : Int32) = nI 0 from rfl, nI_add, nI_1]
          exact nx
        refine bX9_torn_16 _ _ _ _ (r_cells J3.G J3.M (pk_le n c (fun z => by omega) (fun _ => ⟨pk_in c 36 (by omega), ?_⟩)))
        rw [nI_clamp (by omega), v25 c (by omega), nI_1, nI_1]
        refine zn_ne (r c) c (fun e => skip (by rw [zhc_none hr e]; decide) v Fv) (fun e => r_reckon J3.G J3.M hk4 hd (J3.pq v25) J3.pm (by omega) (fun s Fs hs => pk_le (zhc n r dy c 4) 1 (fun q => skip (by omega) s (Fv.trans Fs)) (fun q => ?_)))
        have nx := ih (c + 1) s (by omega) (Fv.trans Fs)
        rw [zq_ct, if_pos (by simpa using q)] at nx
        exact nx
    exact loop n 0 u (by omega) zF.rf
  refine bX8_torn_0 _ _ (bX7_tornCount_0 _ _ ?_)
  have loop : ∀ f c, c + f = n → zm_Z gX7_tornCount (fun r1 w1 u1 => zR gX9_torn [.ref 21] r1 0 u1) 4 [(0, .ref 8), (1, .int (nI (zq_ct (fun a => decide (1 < zhc n r dy a 4)) c))), (2, .int (nI c))] [] mem := by
    intro f
    induction f with
    | zero =>
      intro c hc
      refine bX7_tornCount_4 _ _ _ _ ?_
      rw [J.C.2.2]
      refine pk_le n c (fun _ => ?_) (fun z => by omega)
      rw [show c = n by omega]; exact ref
    | succ f ih =>
      intro c hc
      have nx := ih (c + 1) (by omega)
      rw [zq_ct] at nx
      have hl4 : zhc n r dy c 4 ≤ 4 := zq_ct_le _ _
      refine bX7_tornCount_4 _ _ _ _ ?_
      rw [J.C.2.2]
      refine pk_le n c (fun z => by omega) (fun _ => q_hueCount J.G J.C J.k2 hk4 J.pr J.pd (by omega) ?_)
      rw [← zhc_k hk4 hd, nI_1, nI_1]
      refine pk_le (zhc n r dy c 4) 1 (fun q => ?_) (fun q => ?_)
      · rw [if_neg (by simp; omega)] at nx; exact nx
      · rw [if_pos (by simpa using q)] at nx; exact nx
  exact loop n 0 (by omega)
theorem st_sure (J : zJ w h n k dy t mv r mem) (x : Int32) : zm_Call gX8_sure [.ref 0, .int x] mem (zR gX9_sure [.ref 21, .int x]) := by
  have h7 := J.h7
  have hk4 := J.1.2.2.1
  have hd := J.1.2.2.2.1
  have hr := J.1.2.2.2.2.2.2
  refine bX8_sure_0 _ _ _ (q_hasCell J.G J.C x (zb_ne0 _ (fun e => ?_) (fun e => ?_)))
  · obtain ⟨c, hc, rfl⟩ := zt_isC_of h7 e
    have hl := hr.1 c hc
    have hl4 : zhc n r dy (r c) 4 ≤ 4 := zq_ct_le _ _
    have d10 := (J.pd c hc).2
    refine ⟨pk_in c 36 (by omega), ?_⟩
    rw [nI_clamp (by omega), (J.pd c hc).1, (J.pr c hc).1]
    refine pk_eq (dy c) 9 (fun e2 => ⟨pk_in c 36 (by omega), bX7_onlyHue_0 _ _ _ (q_hueCount J.G J.C J.k2 hk4 J.pr J.pd (by omega) ?_)⟩) (fun e2 => bX9_sure_0 _ _ _ (r_noCell J.G J.th.M _ ?_))
    · rw [← zhc_k hk4 hd]
      have ref : ∀ ans : Int32, (zhc n r dy (r c) 4 ≠ 1 → ans = -9) → (zhc n r dy (r c) 4 = 1 → ans = nI (zmo n r dy (r c))) → zR gX9_sure [.ref 21, .int (nI c)] ans 0 mem := by
        intro ans a1 a2
        refine bX9_sure_0 _ _ _ (r_noCell J.G J.th.M _ ?_)
        rw [e]
        refine ⟨fun _ => ⟨pk_in c 36 (by omega), ?_⟩, fun z => absurd rfl z⟩
        rw [nI_clamp (by omega), (J.th.pm c hc).1]
        refine pk_eq (dy c) 9 (fun _ => r_layTold J.th (fun u F hu => ⟨pk_in c 36 (by omega), ?_⟩)) (fun z => absurd e2 z)
        have J2 := J.th.keep F
        rw [hu c hc]
        refine r_reckon J2.G J2.M hk4 hd (J2.pq hu) J2.pm (by omega) (fun v Fv hv => ?_)
        have J3 := J2.keep Fv
        have v25 : ∀ d, d < n → v 25 d = nI (r d) := fun d hd => by rw [Fv 25 (by decide)]; exact hu d hd
        refine zn_ne (zhc n r dy (r c) 4) 1 (fun q => ⟨a1 q, rfl, J3.inv⟩) (fun q => ⟨pk_in c 36 (by omega), ?_⟩)
        rw [v25 c hc]
        exact r_mostOf J3.G J3.M hk4 hd (J3.pq v25) J3.pm (by omega) (fun s Fs => ⟨a2 q, rfl, (J3.keep Fs).inv⟩)
      refine zn_ne (zhc n r dy (r c) 4) 1 (fun q => ref _ (fun _ => rfl) (fun z => absurd z q)) (fun q => q_commonHue J.G J.C J.k2 hk4 J.pr J.pd (by omega) ?_)
      rw [zmo_k hk4 hd]
      exact ref _ (fun z => absurd q z) (fun _ => rfl)
    · rw [e]
      refine ⟨fun _ => ⟨pk_in c 36 (by omega), ?_⟩, fun z => absurd rfl z⟩
      rw [nI_clamp (by omega), (J.th.pm c hc).1]
      exact pk_eq (dy c) 9 (fun z => absurd z e2) (fun _ => ⟨rfl, rfl, J.th.inv⟩)
  · refine bX9_sure_0 _ _ _ (r_noCell J.G J.th.M x ?_)
    rw [e]
    exact ⟨fun z => absurd z (by decide), fun _ => ⟨rfl, rfl, J.th.inv⟩⟩
/-! mend -/
/-- painted up to the ring a -/
def zmd (n : Nat) (r dy : Nat → Nat) (b : Bool) (a : Nat) : Nat → Nat := fun c => if b = true ∧ r c < a then zmo n r dy (r c) else dy c
theorem zq_ct_or {p q : Nat → Bool} : ∀ {n : Nat}, (∀ c, c < n → ¬ (p c = true ∧ q c = true)) → zq_ct (fun c => p c || q c) n = zq_ct p n + zq_ct q n
  | 0, _ => rfl
  | n + 1, h => by
    have h1 := zq_ct_or (p := p) (q := q) (n := n) (fun c hc => h c (by omega))
    have h2 := h n (by omega)
    rw [zq_ct, zq_ct, zq_ct, h1]
    cases e1 : p n <;> cases e2 : q n <;> simp [e1, e2] at h2 ⊢ <;> omega
theorem zmd_co {b : Bool} (a d : Nat) : zco n r (zmd n r dy b a) a d = zco n r dy a d := zq_ct_cong (fun c hc => by
  by_cases q : r c = a
  · unfold zmd; rw [if_neg (by omega)]
  · show (r c == a && zmd n r dy b a c == d) = (r c == a && dy c == d)
    rw [show (r c == a) = false by simpa using q]
    rfl)
theorem q_paintRing (G : zG w h n) (C : zC w h n mem) (R : zPr n r mem) {dz : Nat → Nat} (P : zPd n dz mem) {a d : Nat} (ha : a < n) (hd : d < 10) (b : Bool) (kk : ∀ u, zF [3] mem u → (∀ c, c < n → u 3 c = nI (if b = true ∧ r c = a then d else dz c)) → post (nI (zq_ct (fun c => r c == a && !(dz c == d)) n)) 0 u) : zm_Call gX7_paintRing [.ref 8, .int (nI a), .int (nI d), .int (zb b)] mem post := by
  have h7 := G.2.2.2.2.2.2
  refine bX7_paintRing_0 _ _ _ _ _ ?_
  have loop : ∀ f c u, c + f = n → a ≤ c → zF [3] mem u → (∀ e, e < n → u 3 e = nI (if b = true ∧ r e = a ∧ e < c then d else dz e)) → zm_Z gX7_paintRing post 6 [(0, .ref 8), (1, .int (nI a)), (2, .int (nI d)), (3, .int (zb b)), (4, .int (nI (zq_ct (fun c => r c == a && !(dz c == d)) c))), (5, .int (nI c))] [] u := by
    intro f
    induction f with
    | zero =>
      intro c u hc hac F hu
      refine bX7_paintRing_6 _ _ _ _ _ _ _ ?_
      rw [show u 1 2 = nI n by rw [F 1 (by decide)]; exact C.2.2]
      refine pk_le n c (fun _ => ?_) (fun z => by omega)
      have e : c = n := by omega
      subst e
      refine kk u F (fun e he => ?_)
      rw [hu e he]
      by_cases q : b = true ∧ r e = a
      · rw [if_pos ⟨q.1, q.2, he⟩, if_pos q]
      · rw [if_neg (fun z => q ⟨z.1, z.2.1⟩), if_neg q]
    | succ f ih =>
      intro c u hc hac F hu
      have p1 := R c (by omega)
      have p2 := P c (by omega)
      have u10 : u 10 c = nI (r c) := by rw [F 10 (by decide)]; exact p1.1
      have u3 : u 3 c = nI (dz c) := by rw [hu c (by omega), if_neg (by omega)]
      have nx : ∀ v, zF [3] mem v → (∀ e, e < n → v 3 e = nI (if b = true ∧ r e = a ∧ e < c + 1 then d else dz e)) → zm_Z gX7_paintRing post 6 [(0, .ref 8), (1, .int (nI a)), (2, .int (nI d)), (3, .int (zb b)), (4, .int (nI (zq_ct (fun c => r c == a && !(dz c == d)) c + if (r c == a && !(dz c == d)) = true then 1 else 0))), (5, .int (nI (c + 1)))] [] v := fun v Fv hv => ih (c + 1) v (by omega) (by omega) Fv hv
      have same : ¬ (b = true ∧ r c = a ∧ dz c ≠ d) → ∀ e, e < n → u 3 e = nI (if b = true ∧ r e = a ∧ e < c + 1 then d else dz e) := by
        intro q e he
        rw [hu e he]
        by_cases q2 : b = true ∧ r e = a ∧ e < c
        · rw [if_pos q2, if_pos ⟨q2.1, q2.2.1, by omega⟩]
        · rw [if_neg q2]
          by_cases q3 : b = true ∧ r e = a ∧ e < c + 1
          · rw [if_pos q3]
            have ec : e = c := by
              have : ¬ e < c := fun z => q2 ⟨q3.1, q3.2.1, z⟩
              omega
            rw [ec]
            rw [ec] at q3
            have : dz c = d := Classical.byContradiction (fun z => q ⟨q3.1, q3.2.1, z⟩)
            rw [this]
          · rw [if_neg q3]
      refine bX7_paintRing_6 _ _ _ _ _ _ _ ?_
      rw [show u 1 2 = nI n by rw [F 1 (by decide)]; exact C.2.2]
      refine pk_le n c (fun z => by omega) (fun _ => ⟨pk_in c 36 (by omega), ?_⟩)
      rw [nI_clamp (by omega), u10, u3, nI_1, nI_1]
      refine zn_ne (r c) a (fun e => ?_) (fun e => ⟨pk_in c 36 (by omega), pk_eq (dz c) d (fun e2 => ?_) (fun e2 => zb_eq0 _ (fun e3 => ?_) (fun e3 => ⟨pk_in c 36 (by omega), ?_⟩))⟩)
      · have := nx u F (same (fun z => e z.2.1))
        rw [if_neg (by simp [e])] at this; exact this
      · have := nx u F (same (fun z => z.2.2 e2))
        rw [if_neg (by simp [e2])] at this; exact this
      · have := nx u F (same (fun z => by rw [e3] at z; exact absurd z.1 (by decide)))
        rw [if_pos (by simp [e, e2])] at this; exact this
      · have := nx (zm_st u 3 c (nI d)) (F.st (by decide)) (fun e' he' => by
          by_cases q : e' = c
          · rw [q, zs_self, if_pos ⟨e3, e, by omega⟩]
          · rw [zs_slot q, hu e' he']
            by_cases q2 : b = true ∧ r e' = a ∧ e' < c
            · rw [if_pos q2, if_pos ⟨q2.1, q2.2.1, by omega⟩]
            · rw [if_neg q2, if_neg (fun z => q2 ⟨z.1, z.2.1, by omega⟩)])
        rw [if_pos (by simp [e, e2])] at this; exact this
  have e0 : zq_ct (fun c => r c == a && !(dz c == d)) a = 0 := zq_ct_zero (fun c hc => by
    have := (R c (by omega)).2
    have : r c ≠ a := by omega
    simp [this])
  have := loop (n - a) a mem (by omega) (Nat.le_refl a) zF.rf (fun e he => by
    rw [(P e he).1, if_neg]
    intro z
    have := (R e he).2
    omega)
  rw [e0] at this
  exact this
theorem st_mend (J : zJ w h n k dy t mv r mem) (b : Bool) : zm_Call gX8_mend [.ref 0, .int (zb b)] mem (zR gX9_mend [.ref 21, .int (zb b)]) := by
  have h7 := J.h7
  have hk4 := J.1.2.2.1
  have hd := J.1.2.2.2.1
  have hr := J.1.2.2.2.2.2.2
  have mo10 : ∀ a, zmo n r dy a < 10 := fun a => by rcases zmo_rng (n := n) (r := r) hk4 hd a with q | q <;> omega
  have zrng : ∀ a c, c < n → zmd n r dy b a c < k ∨ zmd n r dy b a c = 9 := fun a c hc => by
    unfold zmd; split
    · exact zmo_rng hk4 hd _
    · exact hd c hc
  -- the reference
  have ref : ∀ u, zF [3] mem u → (∀ c, c < n → u 3 c = nI (zmd n r dy b n c)) → zR gX9_mend [.ref 21, .int (zb b)] (nI (zq_ct (fun c => !(dy c == zmo n r dy (r c))) n)) 0 u := by
    intro u F hu
    have F0 : zF [3, 21] mem (zm_st u 21 0 0) := (F.wide (by decide)).st (by decide)
    have u21 : ∀ j, j ≠ 0 → zm_st u 21 0 0 21 j = mem 21 j := fun j hj => by rw [zs_slot hj, F 21 (by decide)]
    have J0 : ∀ v, zF [3, 21, 23, 25, 26] mem v → (∀ j, j ≠ 0 → v 21 j = mem 21 j) → zM w h v := fun v Fv hv => by unfold zM; rw [hv 1 (by decide), hv 2 (by decide)]; exact J.M
    refine bX9_mend_0 _ _ _ (r_layRings (T := t) (MV := mv) J.G (J0 _ (F0.wide (by decide)) u21) _ J.1.2.2.2.2.2.1 (Or.inl ⟨rfl, J.1.2.2.2.2.1, by rw [u21 10 (by decide)]; exact J.2.2.2.2.2.1, fun j hj => by rw [F0 27 (by decide)]; exact J.2.2.2.2.2.2 j hj⟩) (fun v r' Fv hr' hv => ?_))
    have er : ∀ c, c < n → v 25 c = nI (r c) := fun c hc => by rw [hv c hc, hr'.one hr hc]
    have F1 : zF [3, 21, 25] mem v := (F0.wide (by decide)).trans (Fv.wide (by decide))
    have v21 : ∀ j, j ≠ 0 → v 21 j = mem 21 j := fun j hj => by rw [Fv 21 (by decide)]; exact u21 j hj
    have v3 : ∀ c, c < n → v 3 c = nI (zmd n r dy b n c) := fun c hc => by rw [Fv 3 (by decide), zs_cell (by decide)]; exact hu c hc
    clear hv hr'
    have last : ∀ s, zF [3, 21, 22, 23, 25, 26] mem s → (∀ j, j ≠ 0 → s 21 j = mem 21 j) → (∀ c, c < n → s 3 c = nI (zmd n r dy b n c)) → (∀ c, c < n → s 22 c = nI (zmd n r dy b n c)) → zInv s := by
      intro s Fs s21 s3 s22
      exact (J.dye (dy' := zmd n r dy b n) Fs (fun c hc => zrng n c hc) s3 s22 s21).inv
    have fin : ∀ f c s, c + f = n → zF [3, 21, 22, 23, 25, 26] mem s → (∀ j, j ≠ 0 → s 21 j = mem 21 j) → (∀ d, d < n → s 3 d = nI (zmd n r dy b n d)) → (∀ d, d < n → s 23 d = nI (zmo n r dy (r d))) → (∀ d, d < n → s 22 d = nI (if b = true ∧ d < c then zmo n r dy (r d) else dy d)) → zm_Z gX9_mend (fun x' l' u' => nI (zq_ct (fun c => !(dy c == zmo n r dy (r c))) n) = x' ∧ 0 = l' ∧ zInv u') 71 [(0, .ref 21), (1, .int (zb b)), (2, .int (nI (zq_ct (fun c => !(dy c == zmo n r dy (r c))) n))), (3, .int (nI c))] [] s := by
      intro f
      induction f with
      | zero =>
        intro c s hc Fs s21 s3 s23 s22
        have Ms : zM w h s := by unfold zM; rw [s21 1 (by decide), s21 2 (by decide)]; exact J.M
        refine bX9_mend_71 _ _ _ _ _ (r_cells J.G Ms (pk_le n c (fun _ => ⟨rfl, rfl, last s Fs s21 s3 (fun d hdn => ?_)⟩) (fun z => by omega)))
        rw [s22 d hdn]
        unfold zmd
        have : r d < n := by have := hr.1 d hdn; omega
        by_cases q : b = true
        · rw [if_pos ⟨q, by omega⟩, if_pos ⟨q, this⟩]
        · rw [if_neg (fun z => q z.1), if_neg (fun z => q z.1)]
      | succ f ih =>
        intro c s hc Fs s21 s3 s23 s22
        have Ms : zM w h s := by unfold zM; rw [s21 1 (by decide), s21 2 (by decide)]; exact J.M
        refine bX9_mend_71 _ _ _ _ _ (r_cells J.G Ms (pk_le n c (fun z => by omega) (fun _ => zb_eq0 _ (fun e => ⟨rfl, rfl, last s Fs s21 s3 (fun d hdn => ?_)⟩) (fun e => ⟨pk_in c 36 (by omega), pk_in c 36 (by omega), ?_⟩))))
        · rw [s22 d hdn]
          unfold zmd
          rw [if_neg (fun z => by rw [e] at z; exact absurd z.1 (by decide)), if_neg (fun z => by rw [e] at z; exact absurd z.1 (by decide))]
        · rw [nI_clamp (by omega), s23 c (by omega), nI_1]
          refine ih (c + 1) _ (by omega) (Fs.st (by decide)) (fun j hj => by rw [zs_cell (by decide)]; exact s21 j hj) (fun d hdn => by rw [zs_cell (by decide)]; exact s3 d hdn) (fun d hdn => by rw [zs_cell (by decide)]; exact s23 d hdn) (fun d hdn => ?_)
          by_cases q : d = c
          · rw [q, zs_self, if_pos ⟨e, by omega⟩]
          · rw [zs_slot q, s22 d hdn]
            by_cases q2 : b = true ∧ d < c
            · rw [if_pos q2, if_pos ⟨q2.1, by omega⟩]
            · rw [if_neg q2, if_neg (fun z => q2 ⟨z.1, by omega⟩)]
    have loop : ∀ f c s, c + f = n → zF [3, 21, 23, 25, 26] mem s → (∀ j, j ≠ 0 → s 21 j = mem 21 j) → (∀ d, d < n → s 3 d = nI (zmd n r dy b n d)) → (∀ d, d < n → s 25 d = nI (r d)) → (∀ d, d < c → s 23 d = nI (zmo n r dy (r d))) → zm_Z gX9_mend (fun x' l' u' => nI (zq_ct (fun c => !(dy c == zmo n r dy (r c))) n) = x' ∧ 0 = l' ∧ zInv u') 16 [(0, .ref 21), (1, .int (zb b)), (2, .int (nI (zq_ct (fun c => !(dy c == zmo n r dy (r c))) c))), (3, .int (nI c))] [] s := by
      intro f
      induction f with
      | zero =>
        intro c s hc Fs s21 s3 s25 s23
        have Ms := J0 s Fs s21
        refine bX9_mend_16 _ _ _ _ _ (r_cells J.G Ms (pk_le n c (fun _ => ?_) (fun z => by omega)))
        have e : c = n := by omega
        subst e
        exact fin c 0 s (by omega) (Fs.wide (by decide)) s21 s3 s23 (fun d hdn => by rw [Fs 22 (by decide), (J.pm d hdn).1, if_neg (by omega)])
      | succ f ih =>
        intro c s hc Fs s21 s3 s25 s23
        have Ms := J0 s Fs s21
        have hl := hr.1 c (by omega)
        refine bX9_mend_16 _ _ _ _ _ (r_cells J.G Ms (pk_le n c (fun z => by omega) (fun _ => ⟨pk_in c 36 (by omega), ?_⟩)))
        rw [nI_clamp (by omega), s25 c (by omega)]
        refine r_mostOf J.G Ms hk4 hd (fun d hdn => ⟨s25 d hdn, hr.1 d hdn⟩) (fun d hdn => by rw [Fs 22 (by decide)]; exact J.pm d hdn) (by omega) (fun v' Fv' => ⟨pk_in c 36 (by omega), pk_in c 36 (by omega), pk_in c 36 (by omega), ?_⟩)
        have nx := ih (c + 1) (zm_st v' 23 c (nI (zmo n r dy (r c)))) (by omega) ((Fs.trans (Fv'.wide (by decide))).st (by decide)) (fun j hj => by rw [zs_cell (by decide), Fv' 21 (by decide)]; exact s21 j hj) (fun d hdn => by rw [zs_cell (by decide), Fv' 3 (by decide)]; exact s3 d hdn) (fun d hdn => by rw [zs_cell (by decide), Fv' 25 (by decide)]; exact s25 d hdn) (fun d hdn => by
          by_cases q : d = c
          · rw [q, zs_self]
          · rw [zs_slot q, Fv' 23 (by decide)]; exact s23 d (by omega))
        rw [zq_ct] at nx
        rw [zs_self, zs_cell (by decide), Fv' 22 (by decide), Fs 22 (by decide), (J.pm c (by omega)).1, nI_1, nI_1, show nI (zq_ct (fun c => !(dy c == zmo n r dy (r c))) c) + 0 = nI (zq_ct (fun c => !(dy c == zmo n r dy (r c))) c) from nI_add _ 0]
        have d10 := (J.pm c (by omega)).2
        have m10 := mo10 (r c)
        refine zn_ne (zmo n r dy (r c)) (dy c) (fun q => ?_) (fun q => ?_)
        · rw [if_pos (by simpa using Ne.symm q)] at nx; exact nx
        · rw [if_neg (by simp [q])] at nx; exact nx
    exact loop n 0 v (by omega) (F1.wide (by decide)) v21 v3 er (fun d hdn => by omega)
  refine bX8_mend_0 _ _ _ (bX7_paintRings_0 _ _ _ ?_)
  have loop : ∀ f a u, a + f = n → zF [3] mem u → (∀ c, c < n → u 3 c = nI (zmd n r dy b a c)) → zm_Z gX7_paintRings (fun r1 w1 u1 => zR gX9_mend [.ref 21, .int (zb b)] r1 0 u1) 4 [(0, .ref 8), (1, .int (zb b)), (2, .int (nI (zq_ct (fun c => decide (r c < a) && !(dy c == zmo n r dy (r c))) n))), (3, .int (nI a))] [] u := by
    intro f
    induction f with
    | zero =>
      intro a u ha F hu
      refine bX7_paintRings_4 _ _ _ _ _ ?_
      rw [show u 1 2 = nI n by rw [F 1 (by decide)]; exact J.C.2.2]
      refine pk_le n a (fun _ => ?_) (fun z => by omega)
      have e : a = n := by omega
      rw [e]
      rw [e] at hu
      rw [zq_ct_cong (q := fun c => !(dy c == zmo n r dy (r c))) (fun c hc => by
        have : r c < n := by have := hr.1 c hc; omega
        simp [this])]
      exact ref u F hu
    | succ f ih =>
      intro a u ha F hu
      have Cu : zC w h n u := by unfold zC; rw [F 1 (by decide)]; exact J.C
      have Ru : zPr n r u := fun c hc => by rw [F 10 (by decide)]; exact J.pr c hc
      have Pu : zPd n (zmd n r dy b a) u := fun c hc => ⟨hu c hc, by rcases zrng a c hc with q | q <;> omega⟩
      have hla := hr.1 a (by omega)
      refine bX7_paintRings_4 _ _ _ _ _ ?_
      rw [show u 1 2 = nI n by rw [F 1 (by decide)]; exact J.C.2.2]
      refine pk_le n a (fun z => by omega) (fun _ => ⟨pk_in a 36 (by omega), ?_⟩)
      rw [nI_clamp (by omega), (Ru a (by omega)).1, nI_1]
      refine zn_ne (r a) a (fun e => ?_) (fun e => ?_)
      · have none : ∀ c, c < n → r c ≠ a := fun c hc z => e (by rw [← z]; exact hr.idem hc)
        have nx := ih (a + 1) u (by omega) F (fun c hc => by
          rw [hu c hc]
          unfold zmd
          have := none c hc
          by_cases q : b = true ∧ r c < a
          · rw [if_pos q, if_pos ⟨q.1, by omega⟩]
          · rw [if_neg q, if_neg (fun z => q ⟨z.1, by omega⟩)])
        rw [zq_ct_cong (q := fun c => decide (r c < a) && !(dy c == zmo n r dy (r c))) (fun c hc => by
          have := none c hc
          have e5 : (r c < a + 1) = (r c < a) := propext (by omega)
          simp only [e5])] at nx
        exact nx
      · refine q_commonHue J.G Cu (by rw [F 2 (by decide)]; exact J.k2) hk4 Ru Pu (by omega) ?_
        rw [zmof_cong k (fun d _ => zmd_co (b := b) a d), zmo_k hk4 hd]
        refine q_paintRing J.G Cu Ru Pu (by omega) (mo10 a) b (fun v Fv hv => ?_)
        have nx := ih (a + 1) v (by omega) (F.trans Fv) (fun c hc => by
          rw [hv c hc]
          unfold zmd
          by_cases q : b = true ∧ r c = a
          · rw [if_pos q, if_pos ⟨q.1, by omega⟩, q.2]
          · rw [if_neg q]
            by_cases q2 : b = true ∧ r c < a
            · rw [if_pos q2, if_pos ⟨q2.1, by omega⟩]
            · rw [if_neg q2, if_neg (fun z => by
                by_cases q3 : r c = a
                · exact q ⟨z.1, q3⟩
                · exact q2 ⟨z.1, by omega⟩)])
        rw [nI_add]
        have ec : zq_ct (fun c => decide (r c < a) && !(dy c == zmo n r dy (r c))) n + zq_ct (fun c => r c == a && !(zmd n r dy b a c == zmo n r dy a)) n = zq_ct (fun c => decide (r c < a + 1) && !(dy c == zmo n r dy (r c))) n := by
          rw [← zq_ct_or (fun c hc z => by simp at z; omega)]
          refine zq_ct_cong (fun c hc => ?_)
          by_cases q : r c = a
          · have e6 : zmd n r dy b a c = dy c := by unfold zmd; rw [if_neg (by omega)]
            rw [e6, q]
            simp
          · have e5 : (r c < a + 1) = (r c < a) := propext (by omega)
            simp [q, e5]
        rw [ec]
        exact nx
  have := loop n 0 mem (by omega) zF.rf (fun c hc => by rw [(J.pd c hc).1]; unfold zmd; rw [if_neg (by omega)])
  rw [zq_ct_zero (fun c hc => by simp)] at this
  exact this
end ZMEND
