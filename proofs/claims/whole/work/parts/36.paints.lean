/-! PAINTS: the reference lays a paint; moves that keep the patch with it -/
/-- the colour that is the wh-th of those not taken, from c on -/
def zlw (T : Nat) : Nat → Nat → Nat → Nat
  | 0, _, _ => 9
  | f + 1, wh, c => if T.testBit c then zlw T f wh (c + 1) else if wh = 0 then c else zlw T f (wh - 1) (c + 1)
/-- what is left, all, taken, behind i colours -/
def zls (k p : Nat) : Nat → Nat × Nat × Nat
  | 0 => (p, zfac k, 0)
  | i + 1 => ((zls k p i).1 % ((zls k p i).2.1 / (k - i)), (zls k p i).2.1 / (k - i), (zls k p i).2.2 ||| 1 <<< zlw (zls k p i).2.2 5 ((zls k p i).1 / ((zls k p i).2.1 / (k - i))) 0)
theorem zls_all : ∀ k : Fin 5, ∀ p : Fin 24, ∀ i : Fin 4, i.val < k.val → p.val < zfac k.val → (zls k.val p.val i.val).1 < 24 ∧ (zls k.val p.val i.val).2.1 ≤ 24 ∧ (zls k.val p.val i.val).2.2 < 16 ∧ 1 ≤ (zls k.val p.val i.val).2.1 / (k.val - i.val) ∧ zlw (zls k.val p.val i.val).2.2 5 ((zls k.val p.val i.val).1 / ((zls k.val p.val i.val).2.1 / (k.val - i.val))) 0 = zpt k.val p.val i.val := by decide +kernel
theorem zlb : ∀ T : Fin 16, ∀ c : Fin 6, ((nI T.val >>> (nI c.val &&& 31)) &&& 1 = 1 ↔ T.val.testBit c.val = true) := by decide +kernel
theorem zlo : ∀ T : Fin 16, ∀ c : Fin 4, nI T.val ||| ((1 : Int32) <<< (nI c.val &&& 31)) = nI (T.val ||| 1 <<< c.val) := by decide +kernel
section ZPAINT
variable {w h n k t : Nat} {dy mv r : Nat → Nat} {mem : zm_Mem} {post : zm_Post}
theorem q_total (hk : mem 2 3 = nI k) (h1 : 1 ≤ k) (h4 : k ≤ 4) (kk : post (nI (zfac k)) 0 mem) : zm_Call gX4_total [.ref 6] mem post := by
  refine bX4_total_0 _ _ ?_
  have loop : ∀ f i, i + f = k → 1 ≤ i → zm_Z gX4_total post 4 [(0, .ref 6), (1, .int (nI (zfac i))), (2, .int (nI (i + 1)))] [] mem := by
    intro f
    induction f with
    | zero =>
      intro i hi h0
      refine bX4_total_4 _ _ _ _ (pk_lt k (i + 1) (fun _ => ?_) (fun z => by omega) hk)
      rw [show i = k by omega]; exact kk
    | succ f ih =>
      intro i hi h0
      refine bX4_total_4 _ _ _ _ (pk_lt k (i + 1) (fun z => by omega) (fun _ => ?_) hk)
      rw [pk_mul, nI_1]
      exact ih (i + 1) (by omega) (by omega)
  exact loop (k - 1) 1 (by omega) (by omega)
theorem r_paintMany (hk : mem 21 3 = nI k) (h1 : 1 ≤ k) (h4 : k ≤ 4) (kk : post (nI (zfac k)) 0 mem) : zm_Call gX9_paintMany [.ref 21] mem post := by
  refine bX9_paintMany_0 _ _ ?_
  have loop : ∀ f i, i + f = k → 1 ≤ i → zm_Z gX9_paintMany post 4 [(0, .ref 21), (1, .int (nI (zfac i))), (2, .int (nI (i + 1)))] [] mem := by
    intro f
    induction f with
    | zero =>
      intro i hi h0
      refine bX9_paintMany_4 _ _ _ _ (pk_lt k (i + 1) (fun _ => ?_) (fun z => by omega) hk)
      rw [show i = k by omega]; exact kk
    | succ f ih =>
      intro i hi h0
      refine bX9_paintMany_4 _ _ _ _ (pk_lt k (i + 1) (fun z => by omega) (fun _ => ?_) hk)
      rw [pk_mul, nI_1]
      exact ih (i + 1) (by omega) (by omega)
  exact loop (k - 1) 1 (by omega) (by omega)
theorem q_hasPaint (hk : mem 2 3 = nI k) (h1 : 1 ≤ k) (h4 : k ≤ 4) (x : Int32) (kk : post (zb (zt_isC (zfac k) x)) 0 mem) : zm_Call gX4_has [.ref 6, .int x] mem post := by
  have h5 := zfac_le h4
  refine bX4_has_0 _ _ _ ⟨fun z => ?_, fun z => q_total hk h1 h4 ⟨fun z2 => ?_, fun z2 => ?_⟩⟩
  all_goals
    rw [Int32.lt_iff_toInt_lt, show (0 : Int32).toInt = 0 from rfl] at z
  · rw [show zt_isC (zfac k) x = false by unfold zt_isC; simp; omega] at kk; exact kk
  · rw [Int32.le_iff_toInt_le, nI_toInt (by omega)] at z2
    rw [show zt_isC (zfac k) x = false by unfold zt_isC; simp; omega] at kk; exact kk
  · rw [Int32.le_iff_toInt_le, nI_toInt (by omega)] at z2
    rw [show zt_isC (zfac k) x = true by unfold zt_isC; simp; omega] at kk; exact kk
theorem r_noPaint (hk : mem 21 3 = nI k) (h1 : 1 ≤ k) (h4 : k ≤ 4) (x : Int32) (kk : post (zb (!(zt_isC (zfac k) x))) 0 mem) : zm_Call gX9_noPaint [.ref 21, .int x] mem post := by
  have h5 := zfac_le h4
  have h6 := zfac_pos h4
  refine bX9_noPaint_0 _ _ _ (r_paintMany hk h1 h4 ?_)
  rw [show (1 : Int32) = nI 1 from rfl, pk_sub (by omega)]
  refine r_inI (lo := 0) (hi := zfac k - 1) (by omega) (by omega) rfl (zl_nI (by omega)) ?_
  have e : (decide (((0 : Nat) : Int) ≤ x.toInt) && decide (x.toInt ≤ ((zfac k - 1 : Nat) : Int))) = zt_isC (zfac k) x := by
    unfold zt_isC
    have : (x.toInt ≤ ((zfac k - 1 : Nat) : Int)) = (x.toInt < (zfac k : Int)) := by apply propext; omega
    simp only [this]
    rfl
  rw [e]
  exact zb_ne0 _ (fun q => by rw [q] at kk; exact kk) (fun q => by rw [q] at kk; exact kk)
theorem r_lay (hk : mem 21 3 = nI k) (h1 : 1 ≤ k) (h4 : k ≤ 4) {p : Nat} (hp : p < zfac k) (kk : ∀ u, zF [31] mem u → (∀ c, c < k → u 31 c = nI (zpt k p c)) → post 0 0 u) : zm_Call gX9_lay [.ref 21, .int (nI p)] mem post := by
  have h5 := zfac_le h4
  refine bX9_lay_0 _ _ _ (r_paintMany hk h1 h4 ?_)
  have inner : ∀ (x2 x3 : Int32) (T i d : Nat) (u : zm_Mem), T < 16 → i < 4 → d < 4 → zm_Z gX9_lay post 13 [(0, .ref 21), (2, .int x2), (3, .int x3), (4, .int (nI (T ||| 1 <<< d))), (5, .int (nI (i + 1)))] [] (zm_st u 31 i (nI d)) → ∀ f wh c, wh < 2 ^ 31 → c + f = 5 → zlw T f wh c = d → zm_Z gX9_lay post 44 [(0, .ref 21), (2, .int x2), (3, .int x3), (4, .int (nI T)), (5, .int (nI i)), (6, .int (nI wh)), (7, .int (nI c))] [] u := by
    intro x2 x3 T i d u hT hi hd K f
    induction f with
    | zero => intro wh c _ _ e; rw [zlw] at e; omega
    | succ f ih =>
      intro wh c hw hc e
      have b := zlb ⟨T, hT⟩ ⟨c, by omega⟩
      dsimp only at b
      rw [zlw] at e
      refine bX9_lay_44 _ _ _ _ _ _ _ _ ?_
      rw [b]
      refine ⟨fun z => bX9_lay_60 _ _ _ _ _ _ _ _ ?_, fun z => pk_le wh 0 (fun z2 => ?_) (fun z2 => bX9_lay_60 _ _ _ _ _ _ _ _ ?_)⟩
      · rw [b]
        refine ⟨fun z3 => absurd z z3, fun _ => ?_⟩
        rw [if_pos z] at e
        rw [nI_1, show nI wh - 0 = nI wh from pk_sub (a := wh) (b := 0) (by omega)]
        exact ih wh (c + 1) hw (by omega) e
      · rw [if_neg z, if_pos (by omega)] at e
        subst e
        have o := zlo ⟨T, hT⟩ ⟨c, by omega⟩
        dsimp only at o
        refine ⟨pk_in i 4 hi, ?_⟩
        rw [o, nI_clamp (by omega), nI_1]
        exact K
      · rw [b]
        refine ⟨fun _ => ?_, fun z3 => absurd z3 z⟩
        rw [if_neg z, if_neg (by omega)] at e
        rw [nI_1, show nI wh - 1 = nI (wh - 1) from pk_sub (a := wh) (b := 1) (by omega)]
        exact ih (wh - 1) (c + 1) (by omega) (by omega) e
  have outer : ∀ f i u, i + f = k → zF [31] mem u → (∀ c, c < i → u 31 c = nI (zpt k p c)) → zm_Z gX9_lay post 13 [(0, .ref 21), (2, .int (nI (zls k p i).1)), (3, .int (nI (zls k p i).2.1)), (4, .int (nI (zls k p i).2.2)), (5, .int (nI i))] [] u := by
    intro f
    induction f with
    | zero =>
      intro i u hi F hd
      refine bX9_lay_13 _ _ _ _ _ _ (pk_le k i (fun _ => ?_) (fun z => by omega) (by rw [F 21 (by decide)]; exact hk))
      exact kk u F (fun c hc => hd c (by omega))
    | succ f ih =>
      intro i u hi F hd
      obtain ⟨a1, a2, a3, a4, a5⟩ := zls_all ⟨k, by omega⟩ ⟨p, by omega⟩ ⟨i, by omega⟩ (by show i < k; omega) hp
      dsimp only at a1 a2 a3 a4 a5
      have hz := (zpt_at h1 h4 hp (c := i) (by omega)).2.1
      have hq : (zls k p i).2.1 / (k - i) ≤ (zls k p i).2.1 := Nat.div_le_self _ _
      have hq2 : (zls k p i).1 / ((zls k p i).2.1 / (k - i)) ≤ (zls k p i).1 := Nat.div_le_self _ _
      refine bX9_lay_13 _ _ _ _ _ _ (pk_le k i (fun z => by omega) (fun _ => ?_) (by rw [F 21 (by decide)]; exact hk))
      rw [F 21 (by decide), hk, pk_sub (by omega), pk_div (by omega) (by omega) (by omega), pk_div (by omega) a4 (by omega), pk_mul]
      refine ⟨nI_ne0 (by omega) (by omega), nI_ne0 a4 (by omega), nI_ne0 a4 (by omega), ?_⟩
      rw [pk_sub (Nat.div_mul_le_self _ _)]
      refine inner _ _ _ _ (zpt k p i) u a3 (by omega) (by omega) ?_ 5 _ 0 (by omega) rfl a5
      have nx := ih (i + 1) (zm_st u 31 i (nI (zpt k p i))) (by omega) (F.st (by decide)) (fun c hc => by
        by_cases q : c = i
        · rw [q, zs_self]
        · rw [zs_slot q]; exact hd c (by omega))
      rw [zls, a5] at nx
      dsimp only at nx
      have em : (zls k p i).1 - (zls k p i).1 / ((zls k p i).2.1 / (k - i)) * ((zls k p i).2.1 / (k - i)) = (zls k p i).1 % ((zls k p i).2.1 / (k - i)) := by
        have := Nat.div_add_mod (zls k p i).1 ((zls k p i).2.1 / (k - i))
        rw [Nat.mul_comm] at this
        omega
      rw [em]
      exact nx
  exact outer k 0 mem (by omega) zF.rf (fun c hc => by omega)
/-- move m keeps the patch with the paint f -/
def zkp (w h n : Nat) (dy f : Nat → Nat) (m : Nat) : Bool := zq_all (fun c => dy (zt w h n m c) == (if dy c = 9 then 9 else f (dy c))) n
theorem q_keptPaint (G : zG w h n) (C : zC w h n mem) (P : zPd n dy mem) (hd : ∀ c, c < n → dy c < k ∨ dy c = 9) (hk : mem 2 3 = nI k) (h1 : 1 ≤ k) (h4 : k ≤ 4) {p m : Nat} (hp : p < zfac k) (hm : m < 8 * n) (kk : post (zb (zkp w h n dy (zpt k p) m)) 0 mem) : zm_Call gX4_isKeptBy [.ref 6, .int (nI m), .int (nI p)] mem post := by
  have h7 := G.2.2.2.2.2.2
  refine bX4_isKeptBy_0 _ _ _ _ ?_
  have loop : ∀ f c, c + f = n → zq_all (fun c => dy (zt w h n m c) == (if dy c = 9 then 9 else zpt k p (dy c))) c = true → zm_Z gX4_isKeptBy post 2 [(0, .ref 6), (1, .int (nI m)), (2, .int (nI p)), (3, .int (nI c))] [] mem := by
    intro f
    induction f with
    | zero =>
      intro c hc ha
      refine bX4_isKeptBy_2 _ _ _ _ _ (pk_le n c (fun _ => ?_) (fun z => by omega) C.2.2)
      have e : zkp w h n dy (zpt k p) m = true := by rw [← ha, show c = n by omega]; rfl
      rw [e] at kk; exact kk
    | succ f ih =>
      intro c hc ha
      have hz := P c (by omega)
      have hzt := P _ (zt_lt G m c)
      have tail : ∀ x, (if dy c = 9 then 9 else zpt k p (dy c)) = x → x < 2 ^ 31 → zm_Z gX4_isKeptBy post 43 [(0, .ref 6), (1, .int (nI m)), (2, .int (nI p)), (3, .int (nI c))] [.int (nI x)] mem := by
        intro x hx hxl
        have hl := zt_lt G m c
        refine bX4_isKeptBy_43 _ _ _ _ _ _ (q_target G C hm (by omega) ⟨pk_in (zt w h n m c) 36 (by omega), ?_⟩)
        rw [nI_clamp (by omega), hzt.1, nI_1]
        refine pk_eq (dy (zt w h n m c)) x (fun e => ?_) (fun e => ?_)
        · refine ih (c + 1) (by omega) ?_
          rw [zq_all, ha, hx, Bool.true_and]
          simpa using e
        · have e2 : zkp w h n dy (zpt k p) m = false := zq_no (m := c) (by omega) (by rw [hx]; simpa using e)
          rw [e2] at kk; exact kk
      refine bX4_isKeptBy_2 _ _ _ _ _ (pk_le n c (fun z => by omega) (fun _ => ⟨pk_in c 36 (by omega), ?_⟩) C.2.2)
      rw [nI_clamp (by omega), hz.1]
      refine zn_ne (dy c) 9 (fun e => ?_) (fun e => ?_)
      · have hdk : dy c < k := by rcases hd c (by omega) with q | q; exact q; contradiction
        have hz2 := (zpt_at h1 h4 hp hdk).2.1
        exact q_given hk h1 h4 hp hdk (tail _ (by rw [if_neg e]) (by omega))
      · exact tail 9 (by rw [if_pos e]) (by decide)
  exact loop n 0 (by omega) rfl
theorem r_keepsPainted {f : Nat → Nat} (G : zG w h n) (M : zM w h mem) (P : zPm n dy mem) (hd : ∀ c, c < n → dy c < k ∨ dy c = 9) (h4 : k ≤ 4) (hf : ∀ c, c < k → mem 31 c = nI (f c) ∧ f c < k) {m : Nat} (hm : m < 8 * n) (kk : post (zb (zkp w h n dy f m)) 0 mem) : zm_Call gX9_keepsPainted [.ref 21, .int (nI m)] mem post := by
  have h7 := G.2.2.2.2.2.2
  refine bX9_keepsPainted_0 _ _ _ ?_
  have loop : ∀ j c, c + j = n → zm_Z gX9_keepsPainted post 4 [(0, .ref 21), (1, .int (nI m)), (2, .int (zb (zq_all (fun c => dy (zt w h n m c) == (if dy c = 9 then 9 else f (dy c))) c))), (3, .int (nI c))] [] mem := by
    intro j
    induction j with
    | zero =>
      intro c hc
      refine bX9_keepsPainted_4 _ _ _ _ _ (r_cells G M (pk_le n c (fun _ => ⟨zb_01 _, ?_⟩) (fun z => by omega)))
      rw [show c = n by omega]; exact kk
    | succ j ih =>
      intro c hc
      have hz := P c (by omega)
      have hl := zt_lt G m c
      have hzt := P _ hl
      have nx := ih (c + 1) (by omega)
      rw [zq_all] at nx
      have tail : ∀ x, (if dy c = 9 then 9 else f (dy c)) = x → x < 2 ^ 31 → zm_Z gX9_keepsPainted post 39 [(0, .ref 21), (1, .int (nI m)), (2, .int (zb (zq_all (fun c => dy (zt w h n m c) == (if dy c = 9 then 9 else f (dy c))) c))), (3, .int (nI c))] [.int (nI x)] mem := by
        intro x hx hxl
        rw [hx] at nx
        refine bX9_keepsPainted_39 _ _ _ _ _ _ (zb_eq0 _ (fun e => ?_) (fun e => r_ledTo G M hm (by omega) ⟨pk_in (zt w h n m c) 36 (by omega), ?_⟩))
        · rw [e, Bool.false_and] at nx
          rw [nI_1]; exact nx
        · rw [nI_clamp (by omega), hzt.1, nI_1]
          rw [e, Bool.true_and] at nx
          refine zn_ne (dy (zt w h n m c)) x (fun e2 => ?_) (fun e2 => ?_)
          · rw [beq_false_of_ne e2] at nx; exact nx
          · rw [beq_iff_eq.mpr e2] at nx; exact nx
      refine bX9_keepsPainted_4 _ _ _ _ _ (r_cells G M (pk_le n c (fun z => by omega) (fun _ => ⟨pk_in c 36 (by omega), ?_⟩)))
      rw [nI_clamp (by omega), hz.1]
      refine zn_ne (dy c) 9 (fun e => ?_) (fun e => ?_)
      · have hdk : dy c < k := by rcases hd c (by omega) with q | q; exact q; contradiction
        have hz2 := hf _ hdk
        refine ⟨pk_in c 36 (by omega), pk_in (dy c) 4 (by omega), ?_⟩
        rw [nI_clamp (by omega), hz2.1]
        exact tail _ (by rw [if_neg e]) (by omega)
      · exact tail 9 (by rw [if_pos e]) (by decide)
  exact loop n 0 (by omega)
/-- the first that is so, or -9 -/
def zfp (P : Nat → Bool) : Nat → Nat → Int32
  | 0, _ => -9
  | f + 1, i => if P i then nI i else zfp P f (i + 1)
theorem zfp_none {P : Nat → Bool} : ∀ f i, (∀ j, i ≤ j → j < i + f → P j = false) → zfp P f i = -9
  | 0, _, _ => rfl
  | f + 1, i, h => by
    rw [zfp, h i (by omega) (by omega)]
    exact zfp_none f (i + 1) (fun j h1 h2 => h j (by omega) (by omega))
theorem r_leastPaint (G : zG w h n) (M : zM w h mem) (P : zPm n dy mem) (hd : ∀ c, c < n → dy c < k ∨ dy c = 9) (hk : mem 21 3 = nI k) (h1 : 1 ≤ k) (h4 : k ≤ 4) {m : Nat} (hm : m < 8 * n) (kk : ∀ u, zF [31] mem u → post (zfp (fun p => zkp w h n dy (zpt k p) m) (zfac k) 0) 0 u) : zm_Call gX9_leastPaint [.ref 21, .int (nI m)] mem post := by
  have h5 := zfac_le h4
  refine bX9_leastPaint_0 _ _ _ ?_
  have loop : ∀ f i u, i + f = zfac k → zF [31] mem u → zfp (fun p => zkp w h n dy (zpt k p) m) f i = zfp (fun p => zkp w h n dy (zpt k p) m) (zfac k) 0 → zm_Z gX9_leastPaint post 2 [(0, .ref 21), (1, .int (nI m)), (2, .int (nI i))] [] u := by
    intro f
    induction f with
    | zero =>
      intro i u hi F e
      have K2 := kk u F
      rw [← e] at K2
      refine bX9_leastPaint_2 _ _ _ _ (r_paintMany (by rw [F 21 (by decide)]; exact hk) h1 h4 (pk_le (zfac k) i (fun _ => K2) (fun z => by omega)))
    | succ f ih =>
      intro i u hi F e
      refine bX9_leastPaint_2 _ _ _ _ (r_paintMany (by rw [F 21 (by decide)]; exact hk) h1 h4 (pk_le (zfac k) i (fun z => by omega) (fun _ => r_lay (by rw [F 21 (by decide)]; exact hk) h1 h4 (by omega) (fun v Fv hv => ?_))))
      have F2 := F.trans Fv
      have M2 : zM w h v := by unfold zM; rw [F2 21 (by decide)]; exact M
      have P2 : zPm n dy v := by unfold zPm; rw [F2 22 (by decide)]; exact P
      refine r_keepsPainted G M2 P2 hd h4 (fun c hc => ⟨hv c hc, (zpt_at h1 h4 (by omega) hc).2.1⟩) hm (zb_eq0 _ (fun e2 => ?_) (fun e2 => ?_))
      · rw [nI_1]
        refine ih (i + 1) v (by omega) F2 ?_
        rw [zfp, e2] at e
        exact e
      · have K2 := kk v F2
        rw [← e, zfp, e2] at K2
        exact K2
  exact loop (zfac k) 0 mem (by omega) zF.rf rfl
/-- what has been asked for, by the cells before c -/
def zak (w h n : Nat) (dy : Nat → Nat) (m c : Nat) (u : zm_Mem) : Prop := (∀ e, e < 4 → (u 7 e = -9 ∧ ∀ d, d < c → dy d ≠ e) ∨ ∃ v, v < 9 ∧ u 7 e = nI v ∧ (∃ d, d < c ∧ dy d = e) ∧ ∀ d, d < c → dy d = e → dy (zt w h n m d) = v) ∧ ∀ d, d < c → (dy d = 9 ↔ dy (zt w h n m d) = 9)
theorem nI_neg9 {v : Nat} (h : v < 10) : ¬ nI v = (-9 : Int32) := by
  have := (by decide : ∀ v : Fin 10, ¬ nI v.val = (-9 : Int32)) ⟨v, h⟩
  exact this
theorem q_askFor (G : zG w h n) (C : zC w h n mem) (P : zPd n dy mem) (hd : ∀ c, c < n → dy c < k ∨ dy c = 9) (h4 : k ≤ 4) {m : Nat} (hm : m < 8 * n) (k0 : (∀ f : Nat → Nat, (∀ e, e < k → f e < k) → zkp w h n dy f m = false) → ∀ u, zF [7] mem u → post 0 0 u) (k1 : ∀ u, zF [7] mem u → zak w h n dy m n u → post 1 0 u) : zm_Call gX4_askFor [.ref 6, .int (nI m)] mem post := by
  have h7 := G.2.2.2.2.2.2
  refine bX4_askFor_0 _ _ _ ?_
  have CC : ∀ u, zF [7] mem u → zC w h n u := fun u F => by unfold zC; rw [F 1 (by decide)]; exact C
  have PP : ∀ u, zF [7] mem u → zPd n dy u := fun u F => by unfold zPd; rw [F 3 (by decide)]; exact P
  have cells : ∀ f c u, c + f = n → zF [7] mem u → zak w h n dy m c u → zm_Z gX4_askFor post 23 [(0, .ref 6), (1, .int (nI m)), (2, .int (nI c))] [] u := by
    intro f
    induction f with
    | zero =>
      intro c u hc F hz
      refine bX4_askFor_23 _ _ _ _ (pk_le n c (fun _ => ?_) (fun z => by omega) (CC u F).2.2)
      rw [show c = n by omega] at hz
      exact k1 u F hz
    | succ f ih =>
      intro c u hc F hz
      have hl := zt_lt G m c
      have p1 := PP u F c (by omega)
      have p2 := PP u F _ hl
      refine bX4_askFor_23 _ _ _ _ (pk_le n c (fun z => by omega) (fun _ => ⟨pk_in c 36 (by omega), q_target G (CC u F) hm (by omega) ⟨pk_in (zt w h n m c) 36 (by omega), ?_⟩⟩) (CC u F).2.2)
      rw [nI_clamp (by omega), nI_clamp (by omega), p1.1, p2.1, nI_1]
      have keep9 : dy c = 9 → dy (zt w h n m c) = 9 → zak w h n dy m (c + 1) u := by
        intro e1 e2
        refine ⟨fun e he => ?_, fun d hdc => ?_⟩
        · rcases hz.1 e he with ⟨a1, a2⟩ | ⟨v, a0, a1, ⟨d0, a2, a3⟩, a4⟩
          · refine Or.inl ⟨a1, fun d hdc => ?_⟩
            by_cases q : d = c
            · rw [q, e1]; omega
            · exact a2 d (by omega)
          · refine Or.inr ⟨v, a0, a1, ⟨d0, by omega, a3⟩, fun d hdc hde => ?_⟩
            by_cases q : d = c
            · rw [q, e1] at hde; omega
            · exact a4 d (by omega) hde
        · by_cases q : d = c
          · rw [q]; exact ⟨fun _ => e2, fun _ => e1⟩
          · exact hz.2 d (by omega)
      have at76 : (dy c = 9 ∨ dy (zt w h n m c) = 9) → zm_Z gX4_askFor post 76 [(0, .ref 6), (1, .int (nI m)), (2, .int (nI c)), (3, .int (nI (dy c))), (4, .int (nI (dy (zt w h n m c))))] [] u := by
        intro hor
        refine bX4_askFor_76 _ _ _ _ _ _ (pk_eq (dy c) (dy (zt w h n m c)) (fun e => ?_) (fun e => ?_))
        · rw [nI_1]
          exact ih (c + 1) u (by omega) F (keep9 (by omega) (by omega))
        · refine k0 (fun g hg => zq_no (m := c) (by omega) ?_) u F
          apply beq_false_of_ne
          rcases hd c (by omega) with q | q
          · rw [if_neg (by omega)]
            have := hg _ q
            omega
          · rw [if_pos q]; omega
      refine pk_eq (dy c) 9 (fun e => at76 (Or.inl e)) (fun e => zn_ne (dy (zt w h n m c)) 9 (fun e2 => ?_) (fun e2 => at76 (Or.inr e2)))
      have hdk : dy c < k := by rcases hd c (by omega) with q | q; exact q; contradiction
      have hdn : dy (zt w h n m c) < 9 := by have := p2.2; omega
      refine ⟨pk_in (dy c) 4 (by omega), ?_⟩
      rw [nI_clamp (by omega)]
      rcases hz.1 (dy c) (by omega) with ⟨a1, a2⟩ | ⟨v, a0, a1, ⟨d0, a2, a3⟩, a4⟩
      · rw [a1]
        refine ⟨fun z => absurd rfl z, fun _ => ⟨pk_in (dy c) 4 (by omega), ih (c + 1) _ (by omega) (F.st (by decide)) ?_⟩⟩
        refine ⟨fun e9 he => ?_, fun d hdc => ?_⟩
        · by_cases q : e9 = dy c
          · subst q
            refine Or.inr ⟨dy (zt w h n m c), hdn, zs_self _ _ _ _, ⟨c, by omega, rfl⟩, fun d hdc hde => ?_⟩
            by_cases q : d = c
            · rw [q]
            · exact absurd hde (a2 d (by omega))
          · rw [zs_slot q]
            rcases hz.1 e9 he with ⟨b1, b2⟩ | ⟨v, b0, b1, ⟨d0, b2, b3⟩, b4⟩
            · refine Or.inl ⟨b1, fun d hdc => ?_⟩
              by_cases q2 : d = c
              · rw [q2]; exact fun z => q z.symm
              · exact b2 d (by omega)
            · refine Or.inr ⟨v, b0, b1, ⟨d0, by omega, b3⟩, fun d hdc hde => ?_⟩
              by_cases q2 : d = c
              · rw [q2] at hde; exact absurd hde.symm q
              · exact b4 d (by omega) hde
        · by_cases q : d = c
          · rw [q]; exact ⟨fun z => absurd z e, fun z => absurd z e2⟩
          · exact hz.2 d (by omega)
      · rw [a1]
        refine ⟨fun _ => ⟨pk_in (dy c) 4 (by omega), pk_eq v (dy (zt w h n m c)) (fun e3 => ?_) (fun e3 => ?_)⟩, fun z => absurd z (nI_neg9 (by omega))⟩
        · refine ih (c + 1) u (by omega) F ⟨fun e9 he => ?_, fun d hdc => ?_⟩
          · by_cases q : e9 = dy c
            · subst q
              refine Or.inr ⟨v, a0, a1, ⟨c, by omega, rfl⟩, fun d hdc hde => ?_⟩
              by_cases q : d = c
              · rw [q, e3]
              · exact a4 d (by omega) hde
            · rcases hz.1 e9 he with ⟨b1, b2⟩ | ⟨v, b0, b1, ⟨d0, b2, b3⟩, b4⟩
              · refine Or.inl ⟨b1, fun d hdc => ?_⟩
                by_cases q2 : d = c
                · rw [q2]; exact fun z => q z.symm
                · exact b2 d (by omega)
              · refine Or.inr ⟨v, b0, b1, ⟨d0, by omega, b3⟩, fun d hdc hde => ?_⟩
                by_cases q2 : d = c
                · rw [q2] at hde; exact absurd hde.symm q
                · exact b4 d (by omega) hde
          · by_cases q : d = c
            · rw [q]; exact ⟨fun z => absurd z e, fun z => absurd z e2⟩
            · exact hz.2 d (by omega)
        · refine k0 (fun g hg => ?_) u F
          cases hzk : zkp w h n dy g m with
          | false => rfl
          | true =>
            exfalso
            have b1 := zq_all_iff.mp hzk c (by omega)
            have b2 := zq_all_iff.mp hzk d0 (by omega)
            have b3 := a4 d0 a2 a3
            rw [if_neg e] at b1
            rw [a3, if_neg e] at b2
            have c1 := beq_iff_eq.mp b1
            have c2 := beq_iff_eq.mp b2
            omega
  have first : ∀ f i u, i + f = 4 → zF [7] mem u → (∀ e, e < i → u 7 e = -9) → zm_Z gX4_askFor post 2 [(0, .ref 6), (1, .int (nI m)), (2, .int (nI i))] [] u := by
    intro f
    induction f with
    | zero =>
      intro i u hi F hz
      refine bX4_askFor_2 _ _ _ _ (pk_le 4 i (fun _ => ?_) (fun z => by omega))
      exact cells n 0 u (by omega) F ⟨fun e he => Or.inl ⟨hz e (by omega), fun d hdc => by omega⟩, fun d hdc => by omega⟩
    | succ f ih =>
      intro i u hi F hz
      refine bX4_askFor_2 _ _ _ _ (pk_le 4 i (fun z => by omega) (fun _ => ⟨pk_in i 4 (by omega), ?_⟩))
      rw [nI_clamp (by omega), nI_1]
      refine ih (i + 1) _ (by omega) (F.st (by decide)) (fun e he => ?_)
      by_cases q : e = i
      · rw [q, zs_self]
      · rw [zs_slot q]; exact hz e (by omega)
  exact first 4 0 mem rfl zF.rf (fun e he => by omega)
theorem q_gives (G : zG w h n) (hd : ∀ c, c < n → dy c < k ∨ dy c = 9) (hk : mem 2 3 = nI k) (h1 : 1 ≤ k) (h4 : k ≤ 4) {m p : Nat} (hp : p < zfac k) (hz : zak w h n dy m n mem) (kk : post (zb (zkp w h n dy (zpt k p) m)) 0 mem) : zm_Call gX4_givesWhatIsAsked [.ref 6, .int (nI p)] mem post := by
  refine bX4_givesWhatIsAsked_0 _ _ _ ?_
  have loop : ∀ f i, i + f = k → (∀ e, e < i → mem 7 e = -9 ∨ mem 7 e = nI (zpt k p e)) → zm_Z gX4_givesWhatIsAsked post 2 [(0, .ref 6), (1, .int (nI p)), (2, .int (nI i))] [] mem := by
    intro f
    induction f with
    | zero =>
      intro i hi ha
      refine bX4_givesWhatIsAsked_2 _ _ _ _ (pk_le k i (fun _ => ?_) (fun z => by omega) hk)
      have e : zkp w h n dy (zpt k p) m = true := zq_all_iff.mpr (fun c hc => beq_iff_eq.mpr (by
        rcases hd c hc with q | q
        · rw [if_neg (by omega)]
          have hlt := (zpt_at h1 h4 hp q).2.1
          rcases hz.1 (dy c) (by omega) with ⟨a1, a2⟩ | ⟨v, a0, a1, a2, a4⟩
          · exact absurd rfl (a2 c hc)
          · rw [a4 c hc rfl]
            rcases ha (dy c) (by omega) with b | b
            · rw [a1] at b; exact absurd b (nI_neg9 (by omega))
            · rw [a1] at b; exact (nI_eq (by omega) (by omega)).mp b
        · rw [if_pos q]; exact (hz.2 c hc).mp q))
      rw [e] at kk; exact kk
    | succ f ih =>
      intro i hi ha
      refine bX4_givesWhatIsAsked_2 _ _ _ _ (pk_le k i (fun z => by omega) (fun _ => ⟨pk_in i 4 (by omega), ?_⟩) hk)
      rw [nI_clamp (by omega), nI_1]
      have nx : (mem 7 i = -9 ∨ mem 7 i = nI (zpt k p i)) → zm_Z gX4_givesWhatIsAsked post 2 [(0, .ref 6), (1, .int (nI p)), (2, .int (nI (i + 1)))] [] mem := fun z => ih (i + 1) (by omega) (fun e he => by
        by_cases q : e = i
        · rw [q]; exact z
        · exact ha e (by omega))
      refine ⟨fun z => nx (Or.inl z), fun z => ⟨pk_in i 4 (by omega), q_given hk h1 h4 hp (by omega) ⟨fun z2 => nx (Or.inr z2), fun z2 => ?_⟩⟩⟩
      have e : zkp w h n dy (zpt k p) m = false := by
        rcases hz.1 i (by omega) with ⟨a1, a2⟩ | ⟨v, a0, a1, ⟨d, a2, a3⟩, a4⟩
        · exact absurd a1 z
        · refine zq_no (m := d) a2 (beq_false_of_ne (fun q => z2 ?_))
          rw [a4 d a2 a3, a3, if_neg (by omega)] at q
          rw [a1, q]
      rw [e] at kk; exact kk
  exact loop k 0 (by omega) (fun e he => by omega)
theorem q_leastFor (G : zG w h n) (C : zC w h n mem) (P : zPd n dy mem) (hd : ∀ c, c < n → dy c < k ∨ dy c = 9) (hk : mem 2 3 = nI k) (h1 : 1 ≤ k) (h4 : k ≤ 4) {m : Nat} (hm : m < 8 * n) (kk : ∀ u, zF [7] mem u → post (zfp (fun p => zkp w h n dy (zpt k p) m) (zfac k) 0) 0 u) : zm_Call gX4_leastFor [.ref 6, .int (nI m)] mem post := by
  have h5 := zfac_le h4
  refine bX4_leastFor_0 _ _ _ (q_askFor G C P hd h4 hm (fun no u F => ⟨fun z => absurd rfl z, fun _ => ?_⟩) (fun u F hz => ⟨fun _ => ?_, fun z => absurd z (by decide)⟩))
  · have K := kk u F
    rw [zfp_none _ _ (fun p _ hp => no _ (fun e he => (zpt_at h1 h4 (by omega) he).2.1))] at K
    exact K
  · have hk2 : u 2 3 = nI k := by rw [F 2 (by decide)]; exact hk
    refine q_total hk2 h1 h4 ?_
    have K := kk u F
    have loop : ∀ f i, i + f = zfac k → zfp (fun p => zkp w h n dy (zpt k p) m) f i = zfp (fun p => zkp w h n dy (zpt k p) m) (zfac k) 0 → zm_Z gX4_leastFor post 18 [(0, .ref 6), (2, .int (nI (zfac k))), (3, .int (nI i))] [] u := by
      intro f
      induction f with
      | zero =>
        intro i hi e
        rw [← e] at K
        exact bX4_leastFor_18 _ _ _ _ (pk_le (zfac k) i (fun _ => K) (fun z => by omega))
      | succ f ih =>
        intro i hi e
        refine bX4_leastFor_18 _ _ _ _ (pk_le (zfac k) i (fun z => by omega) (fun _ => q_gives G hd hk2 h1 h4 (by omega) hz (zb_eq0 _ (fun e2 => ?_) (fun e2 => ?_))))
        · rw [nI_1]
          refine ih (i + 1) (by omega) ?_
          rw [zfp, e2] at e
          exact e
        · rw [← e, zfp, e2] at K
          exact K
    exact loop (zfac k) 0 (by omega) rfl
theorem st_paints (J : zJ w h n k dy t mv r mem) : zm_Call gX8_paints [.ref 0] mem (zR gX9_paints [.ref 21]) := by
  refine bX8_paints_0 _ _ (q_total J.k2 J.1.2.1 J.1.2.2.1 (bX9_paints_0 _ _ (r_paintMany J.th.k21 J.1.2.1 J.1.2.2.1 ⟨rfl, rfl, J.th.inv⟩)))
theorem st_paint (J : zJ w h n k dy t mv r mem) (x y : Int32) : zm_Call gX8_paint [.ref 0, .int x, .int y] mem (zR gX9_paint [.ref 21, .int x, .int y]) := by
  have h1 := J.1.2.1
  have h4 := J.1.2.2.1
  have h5 := zfac_le h4
  have eC : ∀ y : Int32, (decide (((0 : Nat) : Int) ≤ y.toInt) && decide (y.toInt ≤ ((k - 1 : Nat) : Int))) = zt_isC k y := fun y => by
    unfold zt_isC
    have : (y.toInt ≤ ((k - 1 : Nat) : Int)) = (y.toInt < (k : Int)) := by apply propext; omega
    simp only [this]
    rfl
  refine bX8_paint_0 _ _ _ _ (q_hasPaint J.k2 h1 h4 x (zb_ne0 _ (fun e => q_isHue J.k2 h4 y (zb_eq0 _ (fun e2 => ?_) (fun e2 => ?_))) (fun e => ?_)))
  · refine bX9_paint_0 _ _ _ _ (r_noPaint J.th.k21 h1 h4 x ?_)
    rw [e]
    refine ⟨fun _ => ?_, fun z => absurd rfl z⟩
    rw [J.th.k21, show (1 : Int32) = nI 1 from rfl, pk_sub (by omega)]
    refine r_inI (lo := 0) (hi := k - 1) (by omega) (by omega) rfl (zl_nI (by omega)) ?_
    rw [eC, e2]
    exact ⟨fun z => absurd rfl z, fun _ => ⟨rfl, rfl, J.th.inv⟩⟩
  · obtain ⟨p, hp, rfl⟩ := zt_isC_of (n := zfac k) (by omega) e
    obtain ⟨c, hc, rfl⟩ := zt_isC_of (n := k) (by omega) e2
    refine q_given J.k2 h1 h4 hp hc (bX9_paint_0 _ _ _ _ (r_noPaint J.th.k21 h1 h4 _ ?_))
    rw [e]
    refine ⟨fun _ => ?_, fun z => absurd rfl z⟩
    rw [J.th.k21, show (1 : Int32) = nI 1 from rfl, pk_sub (by omega)]
    refine r_inI (lo := 0) (hi := k - 1) (by omega) (by omega) rfl (zl_nI (by omega)) ?_
    rw [eC, e2]
    refine ⟨fun _ => r_lay J.th.k21 h1 h4 hp (fun u F hu => ⟨pk_in c 4 (by omega), ?_⟩), fun z => absurd z (by decide)⟩
    rw [nI_clamp (by omega), hu c hc]
    exact ⟨rfl, rfl, (J.th.keep F).inv⟩
  · refine bX9_paint_0 _ _ _ _ (r_noPaint J.th.k21 h1 h4 x ?_)
    rw [e]
    exact ⟨fun z => absurd z (by decide), fun _ => ⟨rfl, rfl, J.th.inv⟩⟩
theorem st_keepsBy (J : zJ w h n k dy t mv r mem) (x y : Int32) : zm_Call gX8_keepsBy [.ref 0, .int x, .int y] mem (zR gX9_keepsBy [.ref 21, .int x, .int y]) := by
  have h1 := J.1.2.1
  have h4 := J.1.2.2.1
  have h5 := zfac_le h4
  refine bX8_keepsBy_0 _ _ _ _ (q_hasMove J.G J.C x (zb_eq0 _ (fun e => ?_) (fun e => q_hasPaint J.k2 h1 h4 y (zb_ne0 _ (fun e2 => ?_) (fun e2 => ?_)))))
  · refine bX9_keepsBy_0 _ _ _ _ (r_noMove J.G J.th.M x ?_)
    rw [e]
    exact ⟨fun _ => ⟨rfl, rfl, J.th.inv⟩, fun z => absurd z (by decide)⟩
  · obtain ⟨m, hm, -, rfl⟩ := zt_isM_of e
    obtain ⟨p, hp, rfl⟩ := zt_isC_of (n := zfac k) (by omega) e2
    refine q_keptPaint J.G J.C J.pd J.1.2.2.2.1 J.k2 h1 h4 hp hm (q_oneIf (bX9_keepsBy_0 _ _ _ _ (r_noMove J.G J.th.M _ ?_)))
    rw [e]
    refine ⟨fun z => absurd rfl z, fun _ => r_noPaint J.th.k21 h1 h4 _ ?_⟩
    rw [e2]
    refine ⟨fun _ => r_lay J.th.k21 h1 h4 hp (fun u F hu => ?_), fun z => absurd rfl z⟩
    have J2 := J.th.keep F
    refine r_keepsPainted J2.G J2.M J2.pm J.1.2.2.2.1 h4 (fun c hc => ⟨hu c hc, (zpt_at h1 h4 hp hc).2.1⟩) hm (zb_eq0 _ (fun e3 => ?_) (fun e3 => ?_))
    · rw [e3]; exact ⟨rfl, rfl, J2.inv⟩
    · rw [e3]; exact ⟨rfl, rfl, J2.inv⟩
  · refine bX9_keepsBy_0 _ _ _ _ (r_noMove J.G J.th.M x ?_)
    rw [e]
    refine ⟨fun z => absurd rfl z, fun _ => r_noPaint J.th.k21 h1 h4 _ ?_⟩
    rw [e2]
    exact ⟨fun z => absurd z (by decide), fun _ => ⟨rfl, rfl, J.th.inv⟩⟩
theorem st_by (J : zJ w h n k dy t mv r mem) (x : Int32) : zm_Call gX8_by [.ref 0, .int x] mem (zR gX9_by [.ref 21, .int x]) := by
  have h1 := J.1.2.1
  have h4 := J.1.2.2.1
  refine bX8_by_0 _ _ _ (q_hasMove J.G J.C x (zb_eq0 _ (fun e => ?_) (fun e => ?_)))
  · refine bX9_by_0 _ _ _ (r_noMove J.G J.th.M x ?_)
    rw [e]
    exact ⟨fun z => absurd z (by decide), fun _ => ⟨rfl, rfl, J.th.inv⟩⟩
  · obtain ⟨m, hm, -, rfl⟩ := zt_isM_of e
    refine q_leastFor J.G J.C J.pd J.1.2.2.2.1 J.k2 h1 h4 hm (fun u F => ?_)
    have J2 := J.keep F
    refine bX9_by_0 _ _ _ (r_noMove J.G J2.th.M _ ?_)
    rw [e]
    refine ⟨fun _ => r_leastPaint J.G J2.th.M J2.th.pm J.1.2.2.2.1 J2.th.k21 h1 h4 hm (fun v Fv => ⟨rfl, rfl, (J2.th.keep Fv).inv⟩), fun z => absurd rfl z⟩
theorem st_swaps (J : zJ w h n k dy t mv r mem) : zm_Call gX8_swaps [.ref 0] mem (zR gX9_swaps [.ref 21]) := by
  have h1 := J.1.2.1
  have h4 := J.1.2.2.1
  have h7 := J.h7
  have hd := J.1.2.2.2.1
  refine bX8_swaps_0 _ _ (bX4_movesWithSome_0 _ _ ?_)
  let S : Nat → Bool := fun m => zt_mv w h n m && !(decide (zfp (fun p => zkp w h n dy (zpt k p) m) (zfac k) 0 = -9))
  have model : ∀ u, zJ w h n k dy t mv r u → ∀ f m v, m + f = 8 * n → zF [31] u v → zm_Z gX9_swaps (fun x' l' u' => nI (zq_ct S (8 * n)) = x' ∧ 0 = l' ∧ zInv u') 9 [(0, .ref 21), (1, .int (nI (zq_ct S m))), (2, .int (nI m))] [] v := by
    intro u Ju f
    induction f with
    | zero =>
      intro m v hm F
      have J2 := Ju.keep F
      refine bX9_swaps_9 _ _ _ _ (r_cells J.G J2.M ?_)
      rw [show (8 : Int32) = nI 8 from rfl, pk_mul]
      refine pk_le (8 * n) m (fun _ => ?_) (fun z => by omega)
      rw [show m = 8 * n by omega]
      exact ⟨rfl, rfl, J2.inv⟩
    | succ f ih =>
      intro m v hm F
      have J2 := Ju.keep F
      refine bX9_swaps_9 _ _ _ _ (r_cells J.G J2.M ?_)
      rw [show (8 : Int32) = nI 8 from rfl, pk_mul]
      refine pk_le (8 * n) m (fun z => by omega) (fun _ => r_noMove J.G J2.M _ ?_)
      have no : S m = false → ∀ v2, zF [31] u v2 → zm_Z gX9_swaps (fun x' l' u' => nI (zq_ct S (8 * n)) = x' ∧ 0 = l' ∧ zInv u') 43 [(0, .ref 21), (2, .int (nI m))] [.int (nI (zq_ct S m))] v2 := by
        intro hS v2 F2
        refine bX9_swaps_43 _ _ _ _ ?_
        have nx := ih (m + 1) v2 (by omega) F2
        rw [zq_ct, hS] at nx
        rw [show (0 : Int32) = nI 0 from rfl, nI_add, nI_1]
        exact nx
      rw [zt_isM_nI (by omega)]
      refine ⟨fun z => no ?_ v F, fun z => r_leastPaint J.G J2.M J2.pm hd J2.k21 h1 h4 (by omega) (fun v2 F2 => ⟨fun z2 => no ?_ v2 (F.trans F2), fun z2 => ?_⟩)⟩
      · show (zt_mv w h n m && _) = false
        cases hq : zt_mv w h n m with
        | false => rfl
        | true => rw [hq] at z; exact absurd rfl z
      · show (_ && !(decide _)) = false
        rw [decide_eq_true z2]; simp
      · have hS : S m = true := by
          show (zt_mv w h n m && !(decide _)) = true
          rw [decide_eq_false z2]
          cases hq : zt_mv w h n m with
          | false => rw [hq] at z; exact absurd z (by decide)
          | true => rfl
        have nx := ih (m + 1) v2 (by omega) (F.trans F2)
        rw [zq_ct, hS] at nx
        rw [nI_1, nI_1]
        exact nx
  have cls : ∀ f m u, m + f = 8 * n → zF [7] mem u → zm_Z gX4_movesWithSome (fun r1 w1 u1 => zR gX9_swaps [.ref 21] r1 0 u1) 4 [(0, .ref 6), (1, .int (nI (zq_ct S m))), (2, .int (nI m))] [] u := by
    intro f
    induction f with
    | zero =>
      intro m u hm F
      have J2 := J.keep F
      refine bX4_movesWithSome_4 _ _ _ _ (q_numbers J2.C (pk_le (8 * n) m (fun _ => ?_) (fun z => by omega)))
      rw [show m = 8 * n by omega]
      exact bX9_swaps_0 _ _ (model _ J2.th (8 * n) 0 _ (by omega) zF.rf)
    | succ f ih =>
      intro m u hm F
      have J2 := J.keep F
      refine bX4_movesWithSome_4 _ _ _ _ (q_numbers J2.C (pk_le (8 * n) m (fun z => by omega) (fun _ => q_hasMove J.G J2.C _ ?_)))
      have no : S m = false → ∀ v2, zF [7] mem v2 → zm_Z gX4_movesWithSome (fun r1 w1 u1 => zR gX9_swaps [.ref 21] r1 0 u1) 4 [(0, .ref 6), (1, .int (nI (zq_ct S m))), (2, .int (nI m + 1))] [] v2 := by
        intro hS v2 F2
        have nx := ih (m + 1) v2 (by omega) F2
        rw [zq_ct, hS] at nx
        rw [nI_1]
        exact nx
      rw [zt_isM_nI (by omega)]
      refine ⟨fun z => no ?_ u F, fun z => q_leastFor J.G J2.C J2.pd hd J2.k2 h1 h4 (by omega) (fun v2 F2 => ⟨fun z2 => no ?_ v2 (F.trans F2), fun z2 => ?_⟩)⟩
      · show (zt_mv w h n m && _) = false
        cases hq : zt_mv w h n m with
        | false => rfl
        | true => rw [hq] at z; exact absurd z (by decide)
      · show (_ && !(decide _)) = false
        rw [decide_eq_true z2]; simp
      · have hS : S m = true := by
          show (zt_mv w h n m && !(decide _)) = true
          rw [decide_eq_false z2]
          cases hq : zt_mv w h n m with
          | false => rw [hq] at z; exact absurd rfl z
          | true => rfl
        have nx := ih (m + 1) v2 (by omega) (F.trans F2)
        rw [zq_ct, hS] at nx
        rw [nI_1, nI_1]
        exact nx
  exact cls (8 * n) 0 mem (by omega) zF.rf
end ZPAINT
