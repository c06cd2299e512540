/-! the reference's walk -/
def zdx (d : Nat) : Int := if d = 0 then 1 else if d = 2 then -1 else 0
def zdy (d : Nat) : Int := if d = 1 then 1 else if d = 3 then -1 else 0
def zov (w : Nat) (x : Int) : Int := if x < 0 then -1 else if x = w then 1 else 0
theorem zov_eq {w : Nat} {x : Int} (h0 : 1 ≤ w) (h1 : -1 ≤ x) (h2 : x ≤ w) : x = x % (w : Int) + (w : Int) * zov w x := by
  unfold zov
  split
  · have e : x = (w : Int) - 1 + (w : Int) * (-1) := by rw [Int.mul_neg_one]; omega
    have e2 : x % (w : Int) = (w : Int) - 1 := by
      rw [e, Int.add_mul_emod_self_left, Int.emod_eq_of_lt (by omega) (by omega)]
    rw [e2]; exact e
  · split
    · rename_i h3
      rw [h3, Int.emod_self, Int.mul_one, Int.zero_add]
    · rw [Int.emod_eq_of_lt (by omega) (by omega), Int.mul_zero, Int.add_zero]
def zWm (w h n mm : Nat) (O Ru : Nat → Int32) (S : Nat → Bool) (px py : Nat → Int) (ln : Nat → Nat) (en : Nat) (b : Bool) (u : zm_Mem) : Prop := u 21 20 = nI mm ∧ (∀ j, j < en → u 36 j = nI (ln j)) ∧ (∀ e, e < n → u 32 e = if S e = true then nI mm else O e) ∧ (∀ e, e < n → S e = true → ∃ ox oy : Int, u 33 e = zi ox ∧ u 34 e = zi oy ∧ px e = ((e % w : Nat) : Int) + (w : Int) * ox ∧ py e = ((e / w : Nat) : Int) + (h : Int) * oy ∧ (-(7 + (en : Int)) ≤ ox ∧ ox ≤ 7 + (en : Int)) ∧ (-(7 + (en : Int)) ≤ oy ∧ oy ≤ 7 + (en : Int))) ∧ u 35 mm = zb b ∧ ∀ j, j < n → j ≠ mm → u 35 j = Ru j
theorem zt_ca_nI {w h n : Nat} (G : zG w h n) (X Y : Int) : zi (Y % (h : Int)) * nI w + zi (X % (w : Int)) = nI (zt_ca w h X Y) := by
  obtain ⟨h1, h2, h3, h4, h5, h6, h7⟩ := G
  have a1 := Int.emod_nonneg X (show (w : Int) ≠ 0 by omega)
  have a3 := Int.emod_nonneg Y (show (h : Int) ≠ 0 by omega)
  rw [← zi_nI, ← zi_nI, zi_mul, zi_add]
  congr 1
  unfold zt_ca
  rw [Int.natCast_add, Int.natCast_mul, Int.toNat_of_nonneg a1, Int.toNat_of_nonneg a3]
theorem nI_neg9b {v : Nat} (h : v < 36) : ¬ nI v = (-9 : Int32) := by
  have := (by decide : ∀ v : Fin 36, ¬ nI v.val = (-9 : Int32)) ⟨v, h⟩
  exact this
section ZMWALK
variable {w h n k t : Nat} {dy mv r : Nat → Nat} {mem : zm_Mem} {post : zm_Post} {c mm : Nat} {O Ru : Nat → Int32} {S : Nat → Bool} {px py : Nat → Int} {ln : Nat → Nat} {en : Nat} {b : Bool}
theorem r_dir (G : zG w h n) (M : zM w h mem) (P : zPm n dy mem) (hc : c < n) (hmm : mm < n) (hO : ∀ d, zcc w h dy c d → O d = -9) (B : zB w h n dy c S px py ln en b) (Wm : zWm w h n mm O Ru S px py ln en b mem) {i d : Nat} (hi : i < en) (hd : d < 4)
    (K : ∀ S' px' py' ln' en' b' u, zB w h n dy c S' px' py' ln' en' b' → zwg S px py ln en b S' px' py' ln' en' b' → zcl w h dy c S' px' py' b' (px (ln i) + zdx d) (py (ln i) + zdy d) → zWm w h n mm O Ru S' px' py' ln' en' b' u → zF [32, 33, 34, 35, 36] mem u → zm_Z gX9_layPieces post 111 [(0, .ref 21), (1, .int (nI c)), (2, .int (nI en')), (3, .int (nI i)), (4, .int (nI (d + 1)))] [] u) : zm_Z gX9_layPieces post 111 [(0, .ref 21), (1, .int (nI c)), (2, .int (nI en)), (3, .int (nI i)), (4, .int (nI d))] [] mem := by
  have h7 := G.2.2.2.2.2.2
  obtain ⟨g1, g2, g3, g4, g5, g6, -⟩ := id G
  have hct := zq_ct_le S n
  have hen : en ≤ n := by rw [← B.2.2.2.2.1]; exact hct
  obtain ⟨heN, hS⟩ := B.2.2.1 i hi
  have hln := Wm.2.1 i hi
  generalize ln i = e at *
  have q1 := B.1 e heN hS
  obtain ⟨ox, oy, o1, o2, o3, o4, o5, o6⟩ := Wm.2.2.2.1 e heN hS
  have m1 : e % w < w := Nat.mod_lt _ (by omega)
  have m2 : e / w < h := by rw [Nat.div_lt_iff_lt_mul (by omega), Nat.mul_comm, ← g5]; exact heN
  have nn := Int.natCast_nonneg (e / w)
  have nn2 := Int.natCast_nonneg (e % w)
  have dx3 : zdx d = 1 ∨ zdx d = -1 ∨ zdx d = 0 := by unfold zdx; split; exact Or.inl rfl; split; exact Or.inr (Or.inl rfl); exact Or.inr (Or.inr rfl)
  have dy3 : zdy d = 1 ∨ zdy d = -1 ∨ zdy d = 0 := by unfold zdy; split; exact Or.inl rfl; split; exact Or.inr (Or.inl rfl); exact Or.inr (Or.inr rfl)
  have hn : znb (px e) (py e) (px e + zdx d) (py e + zdy d) := by
    unfold znb zdx zdy
    rcases (show d = 0 ∨ d = 1 ∨ d = 2 ∨ d = 3 by omega) with q | q | q | q <;> subst q <;> simp <;> omega
  obtain ⟨x, hx⟩ : ∃ x : Int, x = ((e % w : Nat) : Int) + zdx d := ⟨_, rfl⟩
  obtain ⟨y, hy⟩ : ∃ y : Int, y = ((e / w : Nat) : Int) + zdy d := ⟨_, rfl⟩
  have ex := zov_eq (w := w) (x := x) (by omega) (by omega) (by omega)
  have ey := zov_eq (w := h) (x := y) (by omega) (by omega) (by omega)
  obtain ⟨X, hX⟩ : ∃ X : Int, X = px e + zdx d := ⟨_, rfl⟩
  obtain ⟨Y, hY⟩ : ∃ Y : Int, Y = py e + zdy d := ⟨_, rfl⟩
  have eX : X = x % (w : Int) + (w : Int) * (ox + zov w x) := by rw [hX, o3, Int.mul_add]; omega
  have eY : Y = y % (h : Int) + (h : Int) * (oy + zov h y) := by rw [hY, o4, Int.mul_add]; omega
  rw [← hX, ← hY] at hn K
  have ca : zt_ca w h x y = zt_ca w h X Y := by
    unfold zt_ca
    rw [eX, eY, Int.add_mul_emod_self_left, Int.add_mul_emod_self_left, Int.emod_emod, Int.emod_emod]
  have hlt := zt_ca_lt G X Y
  have qx : ((zt_ca w h X Y % w : Nat) : Int) = x % (w : Int) := by
    have z := (zt_ca_x G x y).mod
    rw [ca] at z
    have m5 : zt_ca w h X Y % w < w := Nat.mod_lt _ (by omega)
    rw [Int.emod_eq_of_lt (by omega) (by omega)] at z
    exact z
  have qy : ((zt_ca w h X Y / w : Nat) : Int) = y % (h : Int) := by
    have z := (zt_ca_y G x y).mod
    rw [ca] at z
    have m6 : zt_ca w h X Y / w < h := by rw [Nat.div_lt_iff_lt_mul (by omega), Nat.mul_comm, ← g5]; exact hlt
    have nn3 := Int.natCast_nonneg (zt_ca w h X Y / w)
    rw [Int.emod_eq_of_lt (by omega) (by omega)] at z
    exact z
  have ov1 : zov w x = 1 ∨ zov w x = -1 ∨ zov w x = 0 := by unfold zov; split; exact Or.inr (Or.inl rfl); split; exact Or.inl rfl; exact Or.inr (Or.inr rfl)
  have ov2 : zov h y = 1 ∨ zov h y = -1 ∨ zov h y = 0 := by unfold zov; split; exact Or.inr (Or.inl rfl); split; exact Or.inl rfl; exact Or.inr (Or.inr rfl)
  have K357 : (dy (zt_ca w h X Y) = dy c → S (zt_ca w h X Y) = true) → zm_Z gX9_layPieces post 357 [(0, .ref 21), (1, .int (nI c)), (2, .int (nI en)), (3, .int (nI i)), (4, .int (nI d)), (7, .int (zi (ox + zov w x))), (8, .int (zi (oy + zov h y))), (9, .int (nI (zt_ca w h X Y)))] [] mem := by
    intro hs
    have d1 := (P _ hlt).2
    have d2 := (P c hc).2
    refine bX9_layPieces_357 _ _ _ _ _ _ _ _ _ ⟨pk_in (zt_ca w h X Y) 36 (by omega), pk_in c 36 (by omega), ?_⟩
    rw [nI_clamp (by omega), nI_clamp (by omega), (P _ hlt).1, (P c hc).1, nI_1]
    refine zn_ne (dy (zt_ca w h X Y)) (dy c) (fun ed => K S px py ln en b mem B zwg.rf (fun z => absurd z ed) Wm zF.rf) (fun ed => ⟨pk_in (zt_ca w h X Y) 36 (by omega), ?_⟩)
    have es := hs ed
    obtain ⟨ox2, oy2, p1, p2, p3, p4, p5, p6⟩ := Wm.2.2.2.1 _ hlt es
    rw [p1, p2, zi_eq (by omega) (by omega) (by omega) (by omega), zi_eq (by omega) (by omega) (by omega) (by omega)]
    have iffx : ox2 = ox + zov w x ↔ px (zt_ca w h X Y) = X := by
      rw [p3, qx, eX]
      constructor
      · intro z; rw [z]
      · intro z
        exact Int.eq_of_mul_eq_mul_left (a := (w : Int)) (by omega) (Int.add_left_cancel z)
    have iffy : oy2 = oy + zov h y ↔ py (zt_ca w h X Y) = Y := by
      rw [p4, qy, eY]
      constructor
      · intro z; rw [z]
      · intro z
        exact Int.eq_of_mul_eq_mul_left (a := (h : Int)) (by omega) (Int.add_left_cancel z)
    have run : ¬ (px (zt_ca w h X Y) = X ∧ py (zt_ca w h X Y) = Y) → zm_Z gX9_layPieces post 397 [(0, .ref 21), (1, .int (nI c)), (2, .int (nI en)), (3, .int (nI i)), (4, .int (nI d))] [] mem := by
      intro hne
      obtain ⟨B2, g2, c2⟩ := zB_run G B heN hS hn ed es hne
      refine bX9_layPieces_397 _ _ _ _ _ _ ?_
      rw [Wm.1, nI_clamp (by omega), nI_1]
      refine ⟨pk_in mm 36 (by omega), K _ _ _ _ _ _ _ B2 g2 c2 ?_ (zF.rf.st (by decide))⟩
      refine ⟨?_, ?_, ?_, ?_, zs_self _ _ _ _, fun j hj hne => ?_⟩
      · rw [zs_cell (by decide)]; exact Wm.1
      · rw [zs_cell (by decide)]; exact Wm.2.1
      · rw [zs_cell (by decide)]; exact Wm.2.2.1
      · rw [zs_cell (by decide), zs_cell (by decide)]; exact Wm.2.2.2.1
      · rw [zs_slot hne]; exact Wm.2.2.2.2.2 j hj hne
    rw [iffx, iffy]
    exact ⟨fun z => run (fun z2 => z z2.1), fun z => ⟨pk_in (zt_ca w h X Y) 36 (by omega), fun z2 => K S px py ln en b mem B zwg.rf (fun _ => ⟨es, Or.inr ⟨z, z2⟩⟩) Wm zF.rf, fun z2 => run (fun z3 => z2 z3.2)⟩⟩
  have K257 : zm_Z gX9_layPieces post 257 [(0, .ref 21), (1, .int (nI c)), (2, .int (nI en)), (3, .int (nI i)), (4, .int (nI d)), (5, .int (zi x)), (6, .int (zi y)), (7, .int (zi (ox + zov w x)))] [.int (zi (zov h y)), .int (mem 34 e)] mem := by
    refine bX9_layPieces_257 _ _ _ _ _ _ _ _ _ _ _ ?_
    rw [M.2]
    refine r_rest (by omega) (by omega) ⟨by omega, by omega⟩ ?_
    rw [M.1]
    refine r_rest (by omega) (by omega) ⟨by omega, by omega⟩ ?_
    rw [zt_ca_nI G x y, ca, nI_clamp (by omega), nI_clamp (by omega), (P _ hlt).1, (P c hc).1, o2, zi_add, nI_1, nI_1]
    have d1 := (P _ hlt).2
    have d2 := (P c hc).2
    refine ⟨pk_in (zt_ca w h X Y) 36 (by omega), pk_in c 36 (by omega), zn_ne (dy (zt_ca w h X Y)) (dy c) (fun ed => K357 (fun z => absurd z ed)) (fun ed => ⟨pk_in (zt_ca w h X Y) 36 (by omega), ?_⟩)⟩
    have hq : zcc w h dy c (zt_ca w h X Y) := (q1.1.on hn ed).cc G hc
    rw [Wm.2.2.1 _ hlt, hO _ hq, Wm.1]
    cases es : S (zt_ca w h X Y) with
    | true =>
      rw [if_pos rfl]
      exact ⟨fun _ => K357 (fun _ => es), fun z => absurd z (nI_neg9b (by omega))⟩
    | false =>
      rw [if_neg (by decide)]
      refine ⟨fun z => absurd rfl z, fun _ => ?_⟩
      obtain ⟨B2, g2, c2, hen2⟩ := zB_add G B heN hS hn ed es (px' := fun d => if d = zt_ca w h X Y then X else px d) (py' := fun d => if d = zt_ca w h X Y then Y else py d) (ln' := fun j => if j = en then zt_ca w h X Y else ln j) (S' := fun d => if d = zt_ca w h X Y then true else S d) (fun _ => rfl) (fun _ => rfl) (fun _ => rfl) (fun _ => rfl)
      rw [nI_clamp (by omega)]
      refine ⟨pk_in (zt_ca w h X Y) 36 (by omega), pk_in (zt_ca w h X Y) 36 (by omega), pk_in (zt_ca w h X Y) 36 (by omega), pk_in en 36 (by omega), K _ _ _ _ _ _ _ B2 g2 c2 ?_ ((((zF.rf.st (by decide)).st (by decide)).st (by decide)).st (by decide))⟩
      refine ⟨?_, fun j hj => ?_, fun e2 he2 => ?_, fun e2 he2 hs2 => ?_, ?_, fun j hj hne => ?_⟩
      · rw [zs_cell (by decide), zs_cell (by decide), zs_cell (by decide), zs_cell (by decide)]; exact Wm.1
      · dsimp only
        by_cases q : j = en
        · rw [q, zs_self, if_pos rfl]
        · rw [zs_slot q, zs_cell (by decide), zs_cell (by decide), zs_cell (by decide), if_neg q]
          exact Wm.2.1 j (by omega)
      · dsimp only
        rw [zs_cell (by decide), zs_cell (by decide), zs_cell (by decide)]
        by_cases q : e2 = zt_ca w h X Y
        · rw [q, zs_self]; simp
        · rw [zs_slot q]
          simp only [if_neg q]
          exact Wm.2.2.1 e2 he2
      · dsimp only at hs2 ⊢
        rw [zs_cell (q := 33) (k := 36) (by decide), zs_cell (q := 33) (k := 34) (by decide), zs_cell (q := 34) (k := 36) (by decide)]
        by_cases q : e2 = zt_ca w h X Y
        · rw [q, if_pos rfl, if_pos rfl]
          refine ⟨ox + zov w x, oy + zov h y, zs_self _ _ _ _, zs_self _ _ _ _, ?_, ?_, ⟨by omega, by omega⟩, ⟨by omega, by omega⟩⟩
          · rw [qx]; exact eX
          · rw [qy]; exact eY
        · rw [if_neg q] at hs2
          rw [if_neg q, if_neg q]
          obtain ⟨ox2, oy2, p1, p2, p3, p4, p5, p6⟩ := Wm.2.2.2.1 e2 he2 hs2
          refine ⟨ox2, oy2, ?_, ?_, p3, p4, ⟨by omega, by omega⟩, ⟨by omega, by omega⟩⟩
          · rw [zs_slot q, zs_cell (by decide)]; exact p1
          · rw [zs_slot q, zs_cell (by decide), zs_cell (by decide)]; exact p2
      · rw [zs_cell (by decide), zs_cell (by decide), zs_cell (by decide), zs_cell (by decide)]; exact Wm.2.2.2.2.1
      · rw [zs_cell (by decide), zs_cell (by decide), zs_cell (by decide), zs_cell (by decide)]; exact Wm.2.2.2.2.2 j hj hne
  have K220 : zm_Z gX9_layPieces post 220 [(0, .ref 21), (1, .int (nI c)), (2, .int (nI en)), (3, .int (nI i)), (4, .int (nI d)), (5, .int (zi x)), (6, .int (zi y))] [.int (zi (zov w x)), .int (mem 33 e)] mem := by
    refine bX9_layPieces_220 _ _ _ _ _ _ _ _ _ _ ?_
    rw [nI_clamp (by omega), hln, nI_clamp (by omega), M.2, o1, zi_add]
    refine ⟨pk_in i 36 (by omega), pk_in e 36 (by omega), ?_⟩
    rw [show (0 : Int32) = zi 0 from rfl, ← zi_nI h, zi_le (by omega) (by omega) (by omega) (by omega), zi_eq (by omega) (by omega) (by omega) (by omega)]
    refine ⟨fun z => ⟨fun z2 => ?_, fun z2 => ?_⟩, fun z => ?_⟩
    · rw [show zov h y = 0 by unfold zov; rw [if_neg (by omega), if_neg z2]] at K257; exact K257
    · rw [show zov h y = 1 by unfold zov; rw [if_neg (by omega), if_pos z2]] at K257; exact K257
    · rw [show zov h y = -1 by unfold zov; rw [if_pos (by omega)]] at K257; exact K257
  have K183 : zm_Z gX9_layPieces post 183 [(0, .ref 21), (1, .int (nI c)), (2, .int (nI en)), (3, .int (nI i)), (4, .int (nI d)), (5, .int (zi x))] [.int (zi (zdy d)), .int (nI (e / w))] mem := by
    refine bX9_layPieces_183 _ _ _ _ _ _ _ _ _ ?_
    rw [nI_clamp (by omega), hln, nI_clamp (by omega), M.1, ← zi_nI (e / w), zi_add, ← hy]
    refine ⟨pk_in i 36 (by omega), pk_in e 36 (by omega), ?_⟩
    rw [show (0 : Int32) = zi 0 from rfl, ← zi_nI w, zi_le (by omega) (by omega) (by omega) (by omega), zi_eq (by omega) (by omega) (by omega) (by omega)]
    refine ⟨fun z => ⟨fun z2 => ?_, fun z2 => ?_⟩, fun z => ?_⟩
    · rw [show zov w x = 0 by unfold zov; rw [if_neg (by omega), if_neg z2]] at K220; exact K220
    · rw [show zov w x = 1 by unfold zov; rw [if_neg (by omega), if_pos z2]] at K220; exact K220
    · rw [show zov w x = -1 by unfold zov; rw [if_pos (by omega)]] at K220; exact K220
  have K148 : zm_Z gX9_layPieces post 148 [(0, .ref 21), (1, .int (nI c)), (2, .int (nI en)), (3, .int (nI i)), (4, .int (nI d))] [.int (zi (zdx d)), .int (nI (e % w))] mem := by
    refine bX9_layPieces_148 _ _ _ _ _ _ _ _ ?_
    rw [nI_clamp (by omega), hln, M.1, pk_div (by omega) (by omega) (by omega), ← zi_nI (e % w), zi_add, ← hx]
    refine ⟨pk_in i 36 (by omega), nI_ne0 g1 (by omega), zn_ne d 1 (fun z => zn_ne d 3 (fun z2 => ?_) (fun z2 => ?_)) (fun z => ?_)⟩
    · rw [show zdy d = 0 by unfold zdy; rw [if_neg z, if_neg z2]] at K183; exact K183
    · rw [show zdy d = -1 by unfold zdy; rw [if_neg z, if_pos z2]] at K183; exact K183
    · rw [show zdy d = 1 by unfold zdy; rw [if_pos z]] at K183; exact K183
  refine bX9_layPieces_111 _ _ _ _ _ _ (pk_le 4 d (fun z => by omega) (fun _ => ?_))
  rw [nI_clamp (by omega), hln, M.1, pk_rem (by omega) g1 (by omega)]
  refine ⟨pk_in i 36 (by omega), nI_ne0 g1 (by omega), zn_ne d 0 (fun z => zn_ne d 2 (fun z2 => ?_) (fun z2 => ?_)) (fun z => ?_)⟩
  · rw [show zdx d = 0 by unfold zdx; rw [if_neg z, if_neg z2]] at K148; exact K148
  · rw [show zdx d = -1 by unfold zdx; rw [if_neg z, if_pos z2]] at K148; exact K148
  · rw [show zdx d = 1 by unfold zdx; rw [if_pos z]] at K148; exact K148
/-- the walk from c, up to its end -/
theorem r_walk (G : zG w h n) (M : zM w h mem) (P : zPm n dy mem) (hc : c < n) (hmm : mm < n) (hO : ∀ d, zcc w h dy c d → O d = -9)
    (kk : ∀ u, zF [32, 33, 34, 35, 36] mem u → (∀ e, e < n → u 32 e = if zccB w h dy c e = true then nI mm else O e) → u 35 mm = zb (zwrB w h dy c) → (∀ j, j < n → j ≠ mm → u 35 j = Ru j) → zm_Z gX9_layPieces post 38 [(0, .ref 21), (1, .int (nI (c + 1)))] [] (zm_st u 21 20 (nI (mm + 1)))) :
    ∀ f i S px py ln en b u, i + f = n → i ≤ en → zF [32, 33, 34, 35, 36] mem u → zB w h n dy c S px py ln en b → zWm w h n mm O Ru S px py ln en b u → (∀ j, j < i → ∀ X Y : Int, znb (px (ln j)) (py (ln j)) X Y → zcl w h dy c S px py b X Y) → zm_Z gX9_layPieces post 103 [(0, .ref 21), (1, .int (nI c)), (2, .int (nI en)), (3, .int (nI i))] [] u := by
  have h7 := G.2.2.2.2.2.2
  have MM : ∀ u, zF [32, 33, 34, 35, 36] mem u → zM w h u := fun u F => by unfold zM; rw [F 21 (by decide)]; exact M
  have PP : ∀ u, zF [32, 33, 34, 35, 36] mem u → zPm n dy u := fun u F => by unfold zPm; rw [F 22 (by decide)]; exact P
  have stop : ∀ i S px py ln en b u, i = en → zF [32, 33, 34, 35, 36] mem u → zB w h n dy c S px py ln en b → zWm w h n mm O Ru S px py ln en b u → (∀ j, j < i → ∀ X Y : Int, znb (px (ln j)) (py (ln j)) X Y → zcl w h dy c S px py b X Y) → zm_Z gX9_layPieces post 38 [(0, .ref 21), (1, .int (nI c + 1))] [] (zm_st u 21 20 (u 21 20 + 1)) := by
    intro i S px py ln en b u hi F B Wm cl
    subst hi
    obtain ⟨z1, z2, z3⟩ := zB_end G hc B cl
    rw [Wm.1, nI_1, nI_1]
    refine kk u F (fun e he => ?_) ?_ Wm.2.2.2.2.2
    · rw [Wm.2.2.1 e he, z1 e he]
    · rw [Wm.2.2.2.2.1, z2]
  intro f
  induction f with
  | zero =>
    intro i S px py ln en b u hi hie F B Wm cl
    have hct := zq_ct_le S n
    rw [B.2.2.2.2.1] at hct
    exact bX9_layPieces_103 _ _ _ _ _ (pk_le en i (fun z => stop i S px py ln en b u (by omega) F B Wm cl) (fun z => by omega))
  | succ f ih =>
    intro i S px py ln en b u hi hie F B Wm cl
    have hct := zq_ct_le S n
    rw [B.2.2.2.2.1] at hct
    refine bX9_layPieces_103 _ _ _ _ _ (pk_le en i (fun z => stop i S px py ln en b u (by omega) F B Wm cl) (fun z => ?_))
    have l0 := B.2.2.1 i z
    refine r_dir (d := 0) G (MM u F) (PP u F) hc hmm hO B Wm z (by decide) (fun S1 px1 py1 ln1 en1 b1 u1 B1 g1 c1 W1 F1 => ?_)
    have F1' := F.trans F1
    have n1 := g1.2.2.2
    have s1 := g1.1 _ l0.2
    refine r_dir (d := 1) G (MM u1 F1') (PP u1 F1') hc hmm hO B1 W1 (by omega) (by decide) (fun S2 px2 py2 ln2 en2 b2 u2 B2 g2 c2 W2 F2 => ?_)
    have F2' := F1'.trans F2
    have g2' := g1.trans g2
    have n2 := g2'.2.2.2
    have s2 := g2'.1 _ l0.2
    refine r_dir (d := 2) G (MM u2 F2') (PP u2 F2') hc hmm hO B2 W2 (by omega) (by decide) (fun S3 px3 py3 ln3 en3 b3 u3 B3 g3 c3 W3 F3 => ?_)
    have F3' := F2'.trans F3
    have g3' := g2'.trans g3
    have n3 := g3'.2.2.2
    have s3 := g3'.1 _ l0.2
    refine r_dir (d := 3) G (MM u3 F3') (PP u3 F3') hc hmm hO B3 W3 (by omega) (by decide) (fun S4 px4 py4 ln4 en4 b4 u4 B4 g4 c4 W4 F4 => ?_)
    have g4' := g3'.trans g4
    have hee := g4'.2.2.2
    rw [g1.2.2.1 i z, s1.2.1, s1.2.2] at c2
    rw [g2'.2.2.1 i z, s2.2.1, s2.2.2] at c3
    rw [g3'.2.2.1 i z, s3.2.1, s3.2.2] at c4
    refine bX9_layPieces_111 _ _ _ _ _ _ (pk_le 4 4 (fun _ => ?_) (fun z => by omega))
    rw [nI_1]
    refine ih (i + 1) S4 px4 py4 ln4 en4 b4 u4 (by omega) (by omega) (F3'.trans F4) B4 W4 (fun j hj X Y hn => ?_)
    have hlj := g4'.2.2.1 j (by omega)
    rw [hlj] at hn
    have hlS := B.2.2.1 j (by omega)
    have sj := g4'.1 _ hlS.2
    rw [sj.2.1, sj.2.2] at hn
    by_cases q : j = i
    · subst q
      have o1 := ((c1.on g2).on g3).on g4
      have o2 := (c2.on g3).on g4
      have o3 := c3.on g4
      rcases hn with ⟨e1, e2⟩ | ⟨e1, e2⟩ | ⟨e1, e2⟩ | ⟨e1, e2⟩
      · rw [show X = px (ln j) + zdx 0 from e1, show Y = py (ln j) + zdy 0 by rw [e2]; exact (Int.add_zero _).symm]; exact o1
      · rw [show X = px (ln j) + zdx 2 from e1, show Y = py (ln j) + zdy 2 by rw [e2]; exact (Int.add_zero _).symm]; exact o3
      · rw [show X = px (ln j) + zdx 1 by rw [e1]; exact (Int.add_zero _).symm, show Y = py (ln j) + zdy 1 from e2]; exact o2
      · rw [show X = px (ln j) + zdx 3 by rw [e1]; exact (Int.add_zero _).symm, show Y = py (ln j) + zdy 3 from e2]; exact c4
    · exact (cl j (by omega) X Y hn).on g4'
end ZMWALK
