/-! like ones, and the first of them -/
def zlx (f g : Nat → Nat) : Nat → Nat → Bool
  | 0, _ => false
  | j + 1, c => if f c = g c then zlx f g j (c + 1) else decide (f c < g c)
def zbf (w h n : Nat) (dy : Nat → Nat) : Nat → Nat
  | 0 => 0
  | m + 1 => if zt_mv w h n m && zlx (zgo w h n dy m) (zgo w h n dy (zbf w h n dy m)) n 0 then m else zbf w h n dy m
def zei (w h n : Nat) (dy : Nat → Nat) (m m' : Nat) : Bool := zq_all (fun d => zgo w h n dy m d == zgo w h n dy m' d) n
def zne (w h n : Nat) (dy : Nat → Nat) (m : Nat) : Bool := zt_mv w h n m && !(zq_any (fun m' => zt_mv w h n m' && zei w h n dy m' m) m)
/-! sums over pairs -/
theorem zq_sm_add (f g : Nat → Nat) : ∀ n, zq_sm (fun a => f a + g a) n = zq_sm f n + zq_sm g n
  | 0 => rfl
  | n + 1 => by rw [zq_sm, zq_sm, zq_sm, zq_sm_add f g n]; omega
theorem zq_sm_ct (p : Nat → Bool) : ∀ n, zq_sm (fun b => if p b then 1 else 0) n = zq_ct p n
  | 0 => rfl
  | n + 1 => by rw [zq_sm, zq_ct, zq_sm_ct p n]
theorem zq_sm_zero : ∀ n, zq_sm (fun _ => 0) n = 0
  | 0 => rfl
  | n + 1 => by rw [zq_sm, zq_sm_zero n]
theorem zq_swap (P : Nat → Nat → Bool) (B : Nat) : ∀ A, zq_sm (fun a => zq_ct (fun b => P a b) B) A = zq_sm (fun b => zq_ct (fun a => P a b) A) B
  | 0 => (zq_sm_zero B).symm
  | A + 1 => by
    rw [zq_sm, zq_swap P B A, ← zq_sm_ct, ← zq_sm_add]
    rfl
theorem zq_one {N x : Nat} (hx : x < N) (c : Bool) : zq_ct (fun b => c && b == x) N = if c then 1 else 0 := by
  cases c with
  | false => exact zq_ct_zero (fun _ _ => rfl)
  | true =>
    have := zq_ct_set (p := fun _ => false) (d := x) rfl hx
    rw [zq_ct_zero (p := fun _ => false) (fun _ _ => rfl)] at this
    refine Eq.trans (zq_ct_cong (fun b _ => ?_)) this
    by_cases q : b = x <;> simp [q]
theorem zq_bij {N : Nat} {p q : Nat → Bool} {φ ψ : Nat → Nat} (h1 : ∀ a, a < N → p a = true → φ a < N ∧ q (φ a) = true ∧ ψ (φ a) = a) (h2 : ∀ b, b < N → q b = true → ψ b < N ∧ p (ψ b) = true ∧ φ (ψ b) = b) : zq_ct p N = zq_ct q N := by
  have e1 : zq_sm (fun a => zq_ct (fun b => p a && b == φ a) N) N = zq_ct p N := by
    rw [← zq_sm_ct]
    refine zq_sm_cong (fun a ha => ?_)
    cases e : p a with
    | false => exact zq_ct_zero (fun _ _ => rfl)
    | true => exact zq_one (h1 a ha e).1 true
  have e2 : zq_sm (fun b => zq_ct (fun a => p a && b == φ a) N) N = zq_ct q N := by
    rw [← zq_sm_ct]
    refine zq_sm_cong (fun b hb => ?_)
    cases e : q b with
    | false =>
      refine zq_ct_zero (fun a ha => ?_)
      cases e3 : p a with
      | false => rfl
      | true =>
        have := (h1 a ha e3).2.1
        have ne : b ≠ φ a := fun z => by rw [← z, e] at this; cases this
        exact beq_false_of_ne ne
    | true =>
      obtain ⟨g1, g2, g3⟩ := h2 b hb e
      refine Eq.trans (zq_ct_cong (fun a ha => ?_)) (zq_one g1 true)
      show (p a && b == φ a) = (true && a == ψ b)
      by_cases e4 : a = ψ b
      · rw [e4, g2, g3]; simp
      · cases e3 : p a with
        | false => rw [beq_false_of_ne e4]; rfl
        | true =>
          have ne : b ≠ φ a := fun z => e4 (by rw [z]; exact (h1 a ha e3).2.2.symm)
          rw [beq_false_of_ne e4, beq_false_of_ne ne]
  rw [← e1, ← e2]
  exact zq_swap (fun a b => p a && b == φ a) N N
section ZLIKE
variable {w h n k t0 : Nat} {dy mv r : Nat → Nat} {mem : zm_Mem} {post : zm_Post}
theorem zt_eqn {a b : Nat} (h1 : a / n = b / n) (h2 : a % n = b % n) : a = b := by
  rw [← Nat.div_add_mod a n, ← Nat.div_add_mod b n, h1, h2]
theorem zt_as (G : zG w h n) {a b c : Nat} (ha : a < 8 * n) (hb : zt_mv w h n b = true) (hc : zt_mv w h n c = true) : zt_jn w h n (zt_jn w h n a b) c = zt_jn w h n a (zt_jn w h n b c) := by
  have b8 := zt_mv_iff.mp hb
  have c8 := zt_mv_iff.mp hc
  refine zt_eqn (n := n) ?_ ?_
  · rw [(zt_jn_div G _ _).1, (zt_jn_div G _ _).1, (zt_jn_div G _ _).1, (zt_jn_div G _ _).1]
    exact zt_jt_as _ (zt_div ha) _ (zt_div b8.1) _ (zt_div c8.1)
  · rw [(zt_jn_div G _ _).2, (zt_jn_div G _ _).2, (zt_jn_div G _ _).2, zt_comp G b8.1 hc]
theorem zt_j0 (G : zG w h n) {a : Nat} (ha : a < 8 * n) : zt_jn w h n a 0 = a := by
  refine zt_eqn (n := n) ?_ ?_
  · rw [(zt_jn_div G _ _).1, Nat.zero_div]; exact (zt_jt_0 _ (zt_div ha)).1
  · rw [(zt_jn_div G _ _).2, zt_0 G (Nat.mod_lt _ G.2.2.2.2.2.1)]
theorem zei_k (G : zG w h n) {m m' : Nat} (hm : zt_mv w h n m = true) (hm' : zt_mv w h n m' = true) : zei w h n dy m m' = zk w h n dy (zt_jn w h n m' (zt_un w h n m)) := by
  have hu := zt_un_mv G hm
  have l' := zt_mv_iff.mp hm'
  have i1 : zei w h n dy m m' = true ↔ zk w h n dy (zt_jn w h n m' (zt_un w h n m)) = true := by
    unfold zei zk
    rw [zq_all_iff, zq_all_iff]
    constructor
    · intro hh c hc
      have := hh _ (zt_lt G m' c)
      rw [zt_comp G l'.1 hu]
      unfold zgo at this
      rw [(zt_back G hm' hc).1] at this
      exact this
    · intro hh d hd
      have := hh _ (zt_lt G (zt_un w h n m') d)
      rw [zt_comp G l'.1 hu, (zt_back G hm' hd).2] at this
      unfold zgo
      exact this
  cases e1 : zei w h n dy m m' <;> cases e2 : zk w h n dy (zt_jn w h n m' (zt_un w h n m)) <;> simp_all
theorem zcls (G : zG w h n) {m : Nat} (hm : zt_mv w h n m = true) : zq_ct (fun m' => zt_mv w h n m' && zei w h n dy m m') (8 * n) = zq_ct (zkm w h n dy) (8 * n) := by
  have hu := zt_un_mv G hm
  have lm := zt_mv_iff.mp hm
  refine zq_bij (φ := fun m' => zt_jn w h n m' (zt_un w h n m)) (ψ := fun q => zt_jn w h n q m) (fun a ha e => ?_) (fun b hb e => ?_)
  · rw [Bool.and_eq_true] at e
    have hj := zt_jn_mv G e.1 hu
    refine ⟨(zt_mv_iff.mp hj).1, ?_, ?_⟩
    · unfold zkm
      rw [hj, ← zei_k G hm e.1, e.2]; rfl
    · show zt_jn w h n (zt_jn w h n a (zt_un w h n m)) m = a
      rw [zt_as G ha hu hm, zt_un_jn G hm, zt_j0 G ha]
  · unfold zkm at e
    rw [Bool.and_eq_true] at e
    have hj := zt_jn_mv G e.1 hm
    have back : zt_jn w h n (zt_jn w h n b m) (zt_un w h n m) = b := by rw [zt_as G hb hm hu, zt_jn_un G lm.1, zt_j0 G hb]
    refine ⟨(zt_mv_iff.mp hj).1, ?_, back⟩
    show (zt_mv w h n (zt_jn w h n b m) && zei w h n dy m (zt_jn w h n b m)) = true
    rw [hj, zei_k G hm hj, back, e.2]; rfl
theorem zei_rf (m : Nat) : zei w h n dy m m = true := zq_all_iff.mpr (fun d _ => by simp)
theorem zei_sym {m m' : Nat} (e : zei w h n dy m m' = true) : zei w h n dy m' m = true := zq_all_iff.mpr (fun d hd => by have := zq_all_iff.mp e d hd; simp at this ⊢; exact this.symm)
theorem zei_tr {a b c : Nat} (e : zei w h n dy a b = true) (e2 : zei w h n dy b c = true) : zei w h n dy a c = true := zq_all_iff.mpr (fun d hd => by
  have h1 := zq_all_iff.mp e d hd
  have h2 := zq_all_iff.mp e2 d hd
  simp at h1 h2 ⊢
  exact h1.trans h2)
/-- of each that are alike one is new -/
theorem zne_one {m' : Nat} (hm' : zt_mv w h n m' = true) {N : Nat} (hN : m' < N) : zq_ct (fun m => zne w h n dy m && zei w h n dy m m') N = 1 := by
  obtain ⟨a, ⟨a1, a2⟩, a3⟩ := pk_least (fun m => zt_mv w h n m = true ∧ zei w h n dy m m' = true) ⟨m', hm', zei_rf m'⟩
  have aN : a < N := by
    have : ¬ m' < a := fun z => a3 m' z ⟨hm', zei_rf m'⟩
    omega
  have new : zne w h n dy a = true := by
    unfold zne
    rw [a1, Bool.true_and, Bool.not_eq_true']
    cases q : zq_any (fun m' => zt_mv w h n m' && zei w h n dy m' a) a with
    | false => rfl
    | true =>
      obtain ⟨b, hb, e⟩ := zq_any_iff.mp q
      rw [Bool.and_eq_true] at e
      exact absurd ⟨e.1, zei_tr e.2 a2⟩ (a3 b hb)
  refine Eq.trans (zq_ct_cong (fun m hm => ?_)) (zq_one aN true)
  show (zne w h n dy m && zei w h n dy m m') = (true && m == a)
  by_cases e : m = a
  · rw [e, new, a2]; simp
  · rw [beq_false_of_ne e, Bool.and_false]
    cases q1 : zne w h n dy m with
    | false => rfl
    | true =>
      cases q2 : zei w h n dy m m' with
      | false => rfl
      | true =>
        exfalso
        unfold zne at q1
        rw [Bool.and_eq_true, Bool.not_eq_true'] at q1
        have lt : a < m := by
          have : ¬ m < a := fun z => a3 m z ⟨q1.1, q2⟩
          omega
        rw [zq_any_iff.mpr ⟨a, lt, by rw [a1, zei_tr a2 (zei_sym q2)]; rfl⟩] at q1
        cases q1.2
theorem zlike (G : zG w h n) : zmc w h n = zq_ct (zne w h n dy) (8 * n) * zq_ct (zkm w h n dy) (8 * n) := by
  have sw := zq_swap (fun m m' => zne w h n dy m && (zt_mv w h n m' && zei w h n dy m m')) (8 * n) (8 * n)
  have l : zq_sm (fun m => zq_ct (fun m' => zne w h n dy m && (zt_mv w h n m' && zei w h n dy m m')) (8 * n)) (8 * n) = zq_ct (zne w h n dy) (8 * n) * zq_ct (zkm w h n dy) (8 * n) := by
    have gen : ∀ N, zq_sm (fun m => zq_ct (fun m' => zne w h n dy m && (zt_mv w h n m' && zei w h n dy m m')) (8 * n)) N = zq_ct (zne w h n dy) N * zq_ct (zkm w h n dy) (8 * n) := by
      intro N
      induction N with
      | zero => rw [zq_ct, Nat.zero_mul]; rfl
      | succ N ih =>
        rw [zq_sm, ih, zq_ct, Nat.add_mul]
        congr 1
        cases e : zne w h n dy N with
        | false => rw [if_neg (by decide), Nat.zero_mul]; exact zq_ct_zero (fun _ _ => rfl)
        | true =>
          have hv : zt_mv w h n N = true := by unfold zne at e; rw [Bool.and_eq_true] at e; exact e.1
          rw [if_pos rfl, Nat.one_mul]
          exact (zq_ct_cong (fun m' _ => by rw [Bool.true_and])).trans (zcls G hv)
    exact gen _
  have rr : zq_sm (fun m' => zq_ct (fun m => zne w h n dy m && (zt_mv w h n m' && zei w h n dy m m')) (8 * n)) (8 * n) = zmc w h n := by
    rw [← zmc_ct, ← zq_sm_ct]
    refine zq_sm_cong (fun m' hm' => ?_)
    cases e : zt_mv w h n m' with
    | false => exact zq_ct_zero (fun m _ => by rw [Bool.false_and, Bool.and_false])
    | true => exact (zq_ct_cong (fun m _ => by rw [Bool.true_and])).trans (zne_one e hm')
  rw [← l, sw, rr]
theorem zka_pos (G : zG w h n) : 1 ≤ zq_ct (zkm w h n dy) (8 * n) := zq_ct_pos.mpr ⟨0, by have := G.2.2.2.2.2.1; omega, by
  unfold zkm
  rw [zk_0 G, zt_mv_iff.mpr ⟨by have := G.2.2.2.2.2.1; omega, by rw [Nat.zero_div]; simp [zt_trn]⟩]; rfl⟩
theorem zmv0 (G : zG w h n) : zt_mv w h n 0 = true := zt_mv_iff.mpr ⟨by have := G.2.2.2.2.2.1; omega, by rw [Nat.zero_div]; simp [zt_trn]⟩
theorem zbf_mv (G : zG w h n) : ∀ m, zt_mv w h n (zbf w h n dy m) = true
  | 0 => zmv0 G
  | m + 1 => by
    rw [zbf]
    split
    · rename_i e
      rw [Bool.and_eq_true] at e; exact e.1
    · exact zbf_mv G m
theorem zlx_rf (f : Nat → Nat) : ∀ j c, zlx f f j c = false
  | 0, _ => rfl
  | j + 1, c => by rw [zlx, if_pos rfl]; exact zlx_rf f j (c + 1)
theorem zbf_1 : zbf w h n dy 1 = 0 := by
  rw [zbf, show zbf w h n dy 0 = 0 from rfl, zlx_rf, Bool.and_false]; rfl
theorem q_isAhead (G : zG w h n) (C : zC w h n mem) (P : zPd n dy mem) {m o : Nat} (hm : zt_mv w h n m = true) (ho : zt_mv w h n o = true) (kk : post (zb (zlx (zgo w h n dy m) (zgo w h n dy o) n 0)) 0 mem) : zm_Call gX3_isAhead [.ref 15, .int (nI m), .int (nI o)] mem post := by
  have h7 := G.2.2.2.2.2.2
  have um := (zt_mv_iff.mp (zt_un_mv G hm)).1
  have uo := (zt_mv_iff.mp (zt_un_mv G ho)).1
  refine bX3_isAhead_0 _ _ _ _ (q_undoing G C (zt_mv_iff.mp hm).1 (q_undoing G C (zt_mv_iff.mp ho).1 ?_))
  have loop : ∀ j c, c + j = n → post (zb (zlx (zgo w h n dy m) (zgo w h n dy o) j c)) 0 mem → zm_Z gX3_isAhead post 22 [(0, .ref 15), (3, .int (nI (zt_un w h n m))), (4, .int (nI (zt_un w h n o))), (5, .int (nI c))] [] mem := by
    intro j
    induction j with
    | zero =>
      intro c hc k2
      refine bX3_isAhead_22 _ _ _ _ _ ?_
      rw [C.2.2]
      exact pk_le n c (fun _ => k2) (fun z => by omega)
    | succ j ih =>
      intro c hc k2
      have l1 := zt_lt G (zt_un w h n m) c
      have l2 := zt_lt G (zt_un w h n o) c
      have p1 := P _ l1
      have p2 := P _ l2
      rw [zlx] at k2
      refine bX3_isAhead_22 _ _ _ _ _ ?_
      rw [C.2.2]
      refine pk_le n c (fun z => by omega) (fun _ => q_target G C um (by omega) ⟨pk_in (zt w h n (zt_un w h n m) c) 36 (by omega), q_target G C uo (by omega) ⟨pk_in (zt w h n (zt_un w h n o) c) 36 (by omega), ?_⟩⟩)
      rw [nI_clamp (by omega), nI_clamp (by omega), p1.1, p2.1, nI_1]
      refine pk_eq (dy (zt w h n (zt_un w h n m) c)) (dy (zt w h n (zt_un w h n o) c)) (fun e => ih (c + 1) (by omega) ?_) (fun e => pk_le (dy (zt w h n (zt_un w h n o) c)) (dy (zt w h n (zt_un w h n m) c)) (fun e2 => ?_) (fun e2 => ?_))
      · have e3 : zgo w h n dy m c = zgo w h n dy o c := e
        rw [if_pos e3] at k2; exact k2
      · have e3 : ¬ zgo w h n dy m c = zgo w h n dy o c := e
        rw [if_neg e3, show decide (zgo w h n dy m c < zgo w h n dy o c) = false from decide_eq_false (by unfold zgo; omega)] at k2; exact k2
      · have e3 : ¬ zgo w h n dy m c = zgo w h n dy o c := e
        rw [if_neg e3, show decide (zgo w h n dy m c < zgo w h n dy o c) = true from decide_eq_true e2] at k2; exact k2
  exact loop n 0 (by omega) kk
theorem q_moveToFirst (G : zG w h n) (C : zC w h n mem) (P : zPd n dy mem) (kk : post (nI (zbf w h n dy (8 * n))) 0 mem) : zm_Call gX3_moveToFirst [.ref 15] mem post := by
  have h6 := G.2.2.2.2.2.1
  have h7 := G.2.2.2.2.2.2
  refine bX3_moveToFirst_0 _ _ ?_
  have loop : ∀ f m, m + f = 8 * n → zm_Z gX3_moveToFirst post 4 [(0, .ref 15), (1, .int (nI (zbf w h n dy m))), (2, .int (nI m))] [] mem := by
    intro f
    induction f with
    | zero =>
      intro m hm
      refine bX3_moveToFirst_4 _ _ _ _ (q_numbers C (pk_le (8 * n) m (fun _ => ?_) (fun z => by omega)))
      rw [show m = 8 * n by omega]; exact kk
    | succ f ih =>
      intro m hm
      have nx := ih (m + 1) (by omega)
      rw [zbf] at nx
      refine bX3_moveToFirst_4 _ _ _ _ (q_numbers C (pk_le (8 * n) m (fun z => by omega) (fun _ => q_hasMove G C _ ?_)))
      rw [zt_isM_nI (by omega), nI_1]
      refine zb_eq0 _ (fun e => ?_) (fun e => q_isAhead G C P e (zbf_mv G m) (zb_eq0 _ (fun e2 => ?_) (fun e2 => ?_)))
      · rw [e, Bool.false_and] at nx; exact nx
      · rw [e2, Bool.and_false] at nx; exact nx
      · rw [e, e2] at nx; exact nx
  have := loop (8 * n - 1) 1 (by omega)
  rw [zbf_1] at this
  exact this
theorem q_hueInFirst (G : zG w h n) (C : zC w h n mem) (P : zPd n dy mem) {c : Nat} (hc : c < n) (kk : post (nI (zgo w h n dy (zbf w h n dy (8 * n)) c)) 0 mem) : zm_Call gX3_hueInFirst [.ref 15, .int (nI c)] mem post := by
  have h7 := G.2.2.2.2.2.2
  have hb := zbf_mv (dy := dy) G (8 * n)
  have l1 := zt_lt G (zt_un w h n (zbf w h n dy (8 * n))) c
  refine bX3_hueInFirst_0 _ _ _ (q_moveToFirst G C P (q_undoing G C (zt_mv_iff.mp hb).1 (q_target G C (zt_mv_iff.mp (zt_un_mv G hb)).1 hc ⟨pk_in (zt w h n (zt_un w h n (zbf w h n dy (8 * n))) c) 36 (by omega), ?_⟩)))
  rw [nI_clamp (by omega), (P _ l1).1]
  exact kk
theorem r_layFirst (G : zG w h n) (M : zM w h mem) (P : zPm n dy mem) (kk : ∀ u, zF [23, 24] mem u → (∀ d, d < n → u 24 d = nI (zgo w h n dy (zbf w h n dy (8 * n)) d)) → post (nI (zbf w h n dy (8 * n))) 0 u) : zm_Call gX9_layFirst [.ref 21] mem post := by
  have h6 := G.2.2.2.2.2.1
  have h7 := G.2.2.2.2.2.2
  have MM : ∀ u, zF [23, 24] mem u → zM w h u := fun u F => by unfold zM; rw [F 21 (by decide)]; exact M
  have go10 : ∀ m c, zgo w h n dy m c < 10 := fun m c => (P _ (zt_lt G _ _)).2
  -- found: none, or the best so far
  have copy : ∀ (m : Nat) (fd : Int32), zt_mv w h n m = true → m < 8 * n → (∀ u, zF [23, 24] mem u → (∀ d, d < n → u 24 d = nI (zgo w h n dy m d)) → zm_Z gX9_layFirst post 5 [(0, .ref 21), (1, .int (nI m)), (2, .int (nI (m + 1)))] [] u) → ∀ f c u, c + f = n → zF [23, 24] mem u → (∀ d, d < n → u 23 d = nI (zgo w h n dy m d)) → (∀ d, d < c → u 24 d = nI (zgo w h n dy m d)) → zm_Z gX9_layFirst post 138 [(0, .ref 21), (1, .int fd), (2, .int (nI m)), (3, .int (-1)), (4, .int (nI c))] [] u := by
    intro m fd hm hml K f
    induction f with
    | zero =>
      intro c u hc F h3 h4
      refine bX9_layFirst_138 _ _ _ _ _ _ (r_cells G (MM u F) (pk_le n c (fun _ => bX9_layFirst_171 _ _ _ _ _ ⟨fun z => absurd z (by decide), fun _ => ?_⟩) (fun z => by omega)))
      rw [nI_1]
      exact K u F (fun d hd => h4 d (by omega))
    | succ f ih =>
      intro c u hc F h3 h4
      refine bX9_layFirst_138 _ _ _ _ _ _ (r_cells G (MM u F) (pk_le n c (fun z => by omega) (fun _ => ⟨fun z => absurd z (by decide), fun _ => ⟨pk_in c 36 (by omega), pk_in c 36 (by omega), ?_⟩⟩)))
      rw [nI_clamp (by omega), h3 c (by omega), nI_1]
      refine ih (c + 1) _ (by omega) (F.st (by decide)) (fun d hd => by rw [zs_cell (by decide)]; exact h3 d hd) (fun d hd => ?_)
      by_cases q : d = c
      · rw [q, zs_self]
      · rw [zs_slot q]; exact h4 d (by omega)
  have lay : ∀ (m : Nat) (fd : Int32), zt_mv w h n m = true → m < 8 * n → (∀ u, zF [23, 24] mem u → (∀ d, d < n → u 23 d = nI (zgo w h n dy m d)) → (∀ v, zF [23] v u → (¬ fd = (-9) → zm_Z gX9_layFirst post 72 [(0, .ref 21), (1, .int fd), (2, .int (nI m)), (3, .int 0), (4, .int 0)] [] u) ∧ (fd = (-9) → zm_Z gX9_layFirst post 72 [(0, .ref 21), (1, .int fd), (2, .int (nI m)), (3, .int (-1)), (4, .int 0)] [] u))) → False ∨ True := fun _ _ _ _ _ => Or.inr trivial
  have img : ∀ (m : Nat) (fd : Int32) (v : zm_Mem), zt_mv w h n m = true → m < 8 * n → (∀ u, zF [23, 24] mem u → zF [23] v u → (∀ d, d < n → u 23 d = nI (zgo w h n dy m d)) → ((¬ fd = (-9) → zm_Z gX9_layFirst post 72 [(0, .ref 21), (1, .int fd), (2, .int (nI m)), (3, .int 0), (4, .int 0)] [] u) ∧ (fd = (-9) → zm_Z gX9_layFirst post 72 [(0, .ref 21), (1, .int fd), (2, .int (nI m)), (3, .int (-1)), (4, .int 0)] [] u))) → ∀ f c u, c + f = n → zF [23, 24] mem u → zF [23] v u → (∀ d, d < n → zt w h n (zt_un w h n m) d < c → u 23 d = nI (zgo w h n dy m d)) → zm_Z gX9_layFirst post 26 [(0, .ref 21), (1, .int fd), (2, .int (nI m)), (3, .int (nI c))] [] u := by
    intro m fd v hm hml K f
    induction f with
    | zero =>
      intro c u hc F Fv h3
      refine bX9_layFirst_26 _ _ _ _ _ (r_cells G (MM u F) (pk_le n c (fun _ => ?_) (fun z => by omega)))
      exact K u F Fv (fun d hd => h3 d hd (by rw [show c = n by omega]; exact zt_lt G _ _))
    | succ f ih =>
      intro c u hc F Fv h3
      have hl := zt_lt G m c
      refine bX9_layFirst_26 _ _ _ _ _ (r_cells G (MM u F) (pk_le n c (fun z => by omega) (fun _ => r_ledTo G (MM u F) hml (by omega) ⟨pk_in c 36 (by omega), pk_in (zt w h n m c) 36 (by omega), ?_⟩)))
      rw [nI_clamp (by omega), nI_clamp (by omega), show u 22 c = nI (dy c) by rw [F 22 (by decide)]; exact (P c (by omega)).1, nI_1]
      refine ih (c + 1) _ (by omega) (F.st (by decide)) (Fv.st (by decide)) (fun d hd hlt => ?_)
      by_cases q : d = zt w h n m c
      · rw [q, zs_self, zgo, (zt_back G hm (by omega)).1]
      · rw [zs_slot q]
        refine h3 d hd ?_
        have : zt w h n (zt_un w h n m) d ≠ c := fun e => q (by rw [← e]; exact (zt_back G hm hd).2.symm)
        omega
  -- comparing with the best b
  have cmp : ∀ (m b : Nat), zt_mv w h n m = true → m < 8 * n → b < 8 * n → ∀ u, zF [23, 24] mem u → (∀ d, d < n → u 23 d = nI (zgo w h n dy m d)) → (∀ d, d < n → u 24 d = nI (zgo w h n dy b d)) → (zlx (zgo w h n dy m) (zgo w h n dy b) n 0 = true → ∀ u, zF [23, 24] mem u → (∀ d, d < n → u 24 d = nI (zgo w h n dy m d)) → zm_Z gX9_layFirst post 5 [(0, .ref 21), (1, .int (nI m)), (2, .int (nI (m + 1)))] [] u) → (zlx (zgo w h n dy m) (zgo w h n dy b) n 0 = false → zm_Z gX9_layFirst post 5 [(0, .ref 21), (1, .int (nI b)), (2, .int (nI (m + 1)))] [] u) → ∀ j c, c + j = n → zlx (zgo w h n dy m) (zgo w h n dy b) n 0 = zlx (zgo w h n dy m) (zgo w h n dy b) j c → zm_Z gX9_layFirst post 72 [(0, .ref 21), (1, .int (nI b)), (2, .int (nI m)), (3, .int 0), (4, .int (nI c))] [] u := by
    intro m b hm hml hbl u F h3 h4 Kt Kf j
    have ge : ∀ c (x : Int32), c ≤ n → 0 ≤ x → zlx (zgo w h n dy m) (zgo w h n dy b) n 0 = false → zm_Z gX9_layFirst post 138 [(0, .ref 21), (1, .int (nI b)), (2, .int (nI m)), (3, .int x), (4, .int 0)] [] u := by
      intro c x hc hx e
      have fin : zm_Z gX9_layFirst post 171 [(0, .ref 21), (1, .int (nI b)), (2, .int (nI m)), (3, .int x)] [] u := bX9_layFirst_171 _ _ _ _ _ ⟨fun _ => by rw [nI_1]; exact Kf e, fun z => absurd hx z⟩
      exact bX9_layFirst_138 _ _ _ _ _ _ (r_cells G (MM u F) (pk_le n 0 (fun _ => fin) (fun _ => ⟨fun _ => fin, fun z => absurd hx z⟩)))
    have out : ∀ (x : Int32) c, c ≤ n → ¬ x = 0 → (x = 1 ∧ zlx (zgo w h n dy m) (zgo w h n dy b) n 0 = false) ∨ (x = -1 ∧ zlx (zgo w h n dy m) (zgo w h n dy b) n 0 = true) → zm_Z gX9_layFirst post 72 [(0, .ref 21), (1, .int (nI b)), (2, .int (nI m)), (3, .int x), (4, .int (nI c))] [] u := by
      intro x c hc hx hh
      have fin : zm_Z gX9_layFirst post 138 [(0, .ref 21), (1, .int (nI b)), (2, .int (nI m)), (3, .int x), (4, .int 0)] [] u := by
        rcases hh with ⟨rfl, e⟩ | ⟨rfl, e⟩
        · exact ge 0 1 (by omega) (by decide) e
        · exact copy m (nI b) hm hml (fun v Fv hv => Kt e v Fv hv) n 0 u (by omega) F h3 (fun d hd => by omega)
      exact bX9_layFirst_72 _ _ _ _ _ _ (r_cells G (MM u F) (pk_le n c (fun _ => fin) (fun _ => ⟨fun _ => fin, fun z => absurd z hx⟩)))
    induction j with
    | zero =>
      intro c hc e
      refine bX9_layFirst_72 _ _ _ _ _ _ (r_cells G (MM u F) (pk_le n c (fun _ => ge c 0 (by omega) (by decide) e) (fun z => by omega)))
    | succ j ih =>
      intro c hc e
      have b1 := go10 m c
      have b2 := go10 b c
      rw [zlx] at e
      refine bX9_layFirst_72 _ _ _ _ _ _ (r_cells G (MM u F) (pk_le n c (fun z => by omega) (fun _ => ⟨fun z => absurd rfl z, fun _ => ⟨pk_in c 36 (by omega), pk_in c 36 (by omega), ?_⟩⟩)))
      rw [nI_clamp (by omega), h3 c (by omega), h4 c (by omega), nI_1]
      refine pk_le (zgo w h n dy b c) (zgo w h n dy m c) (fun q => ⟨pk_in c 36 (by omega), pk_in c 36 (by omega), pk_le (zgo w h n dy m c) (zgo w h n dy b c) (fun q2 => ih (c + 1) (by omega) ?_) (fun q2 => out 1 (c + 1) (by omega) (by decide) (Or.inl ⟨rfl, ?_⟩))⟩) (fun q => out (-1) (c + 1) (by omega) (by decide) (Or.inr ⟨rfl, ?_⟩))
      · rw [if_pos (by omega)] at e; exact e
      · rw [if_neg (by omega), decide_eq_false (by omega)] at e; exact e
      · rw [if_neg (by omega), decide_eq_true q] at e; exact e
  have loop : ∀ f m u, m + f = 8 * n → 1 ≤ m → zF [23, 24] mem u → (∀ d, d < n → u 24 d = nI (zgo w h n dy (zbf w h n dy m) d)) → zm_Z gX9_layFirst post 5 [(0, .ref 21), (1, .int (nI (zbf w h n dy m))), (2, .int (nI m))] [] u := by
    intro f
    induction f with
    | zero =>
      intro m u hm h1 F h4
      refine bX9_layFirst_5 _ _ _ _ (r_cells G (MM u F) ?_)
      rw [show (8 : Int32) = nI 8 from rfl, pk_mul]
      refine pk_le (8 * n) m (fun _ => ?_) (fun z => by omega)
      have e : m = 8 * n := by omega
      subst e
      exact kk u F h4
    | succ f ih =>
      intro m u hm h1 F h4
      have bl := (zt_mv_iff.mp (zbf_mv (dy := dy) G m)).1
      have nx := ih (m + 1)
      rw [zbf] at nx
      refine bX9_layFirst_5 _ _ _ _ (r_cells G (MM u F) ?_)
      rw [show (8 : Int32) = nI 8 from rfl, pk_mul]
      refine pk_le (8 * n) m (fun z => by omega) (fun _ => r_noMove G (MM u F) _ ?_)
      rw [zt_isM_nI (by omega), nI_1]
      refine zb_ne0 _ (fun e => ?_) (fun e => ?_)
      · simp at e
        rw [e, Bool.false_and] at nx
        exact nx u (by omega) (by omega) F h4
      · simp at e
        rw [e, Bool.true_and] at nx
        refine img m _ u e (by omega) (fun v Fv Fuv h3 => ⟨fun _ => ?_, fun z => absurd z (zrv_ne (by omega))⟩) n 0 u (by omega) F zF.rf (fun d hd hlt => by omega)
        have v4 : ∀ d, d < n → v 24 d = nI (zgo w h n dy (zbf w h n dy m) d) := fun d hd => by rw [Fuv 24 (by decide)]; exact h4 d hd
        refine cmp m (zbf w h n dy m) e (by omega) bl v Fv h3 v4 (fun q s Fs hs => ?_) (fun q => ?_) n 0 (by omega) rfl
        · rw [q] at nx
          exact nx s (by omega) (by omega) Fs hs
        · rw [q] at nx
          exact nx v (by omega) (by omega) Fv v4
  refine bX9_layFirst_0 _ _ (bX9_layFirst_5 _ _ _ _ (r_cells G M ?_))
  rw [show (8 : Int32) = nI 8 from rfl, pk_mul]
  refine pk_le (8 * n) 0 (fun z => by omega) (fun _ => r_noMove G M (nI 0) ?_)
  rw [zt_isM_nI (by decide), zmv0 G]
  refine ⟨fun z => absurd rfl z, fun _ => img 0 _ mem (zmv0 G) (by omega) (fun v Fv _ h3 => ⟨fun z => absurd rfl z, fun _ => ?_⟩) n 0 mem (by omega) zF.rf zF.rf (fun d hd hlt => by omega)⟩
  have fin : zm_Z gX9_layFirst post 138 [(0, .ref 21), (1, .int (-9)), (2, .int (nI 0)), (3, .int (-1)), (4, .int (nI 0))] [] v := copy 0 (-9) (zmv0 G) (by omega) (fun s Fs hs => by
    have := loop (8 * n - 1) 1 s (by omega) (by omega) Fs
    rw [zbf_1] at this
    exact this hs) n 0 v (by omega) Fv h3 (fun d hd => by omega)
  exact bX9_layFirst_72 _ _ _ _ _ _ (r_cells G (MM v Fv) (pk_le n 0 (fun z => by omega) (fun _ => ⟨fun _ => fin, fun z => absurd z (by decide)⟩)))
theorem st_toFirst (J : zJ w h n k dy t0 mv r mem) : zm_Call gX8_toFirst [.ref 0] mem (zR gX9_toFirst [.ref 21]) :=
  bX8_toFirst_0 _ _ (q_moveToFirst J.G J.C J.pd (bX9_toFirst_0 _ _ (r_layFirst J.G J.th.M J.th.pm (fun u F _ => ⟨rfl, rfl, (J.th.keep F).inv⟩))))
theorem st_first (J : zJ w h n k dy t0 mv r mem) (x : Int32) : zm_Call gX8_first [.ref 0, .int x] mem (zR gX9_first [.ref 21, .int x]) := by
  have h7 := J.h7
  refine bX8_first_0 _ _ _ (q_hasCell J.G J.C x (zb_eq0 _ (fun e => ?_) (fun e => ?_)))
  · refine bX9_first_0 _ _ _ (r_noCell J.G J.th.M x ?_)
    rw [e]
    exact ⟨fun z => absurd z (by decide), fun _ => ⟨rfl, rfl, J.th.inv⟩⟩
  · obtain ⟨c, hc, rfl⟩ := zt_isC_of h7 e
    refine q_hueInFirst J.G J.C J.pd hc (bX9_first_0 _ _ _ (r_noCell J.G J.th.M _ ?_))
    rw [e]
    refine ⟨fun _ => r_layFirst J.G J.th.M J.th.pm (fun u F hu => ⟨pk_in c 36 (by omega), ?_, rfl, (J.th.keep F).inv⟩), fun z => absurd rfl z⟩
    rw [nI_clamp (by omega), hu c hc]
end ZLIKE
