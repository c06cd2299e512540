/-! the class's walk -/
def zWc (n : Nat) (R S : Nat → Bool) (px py : Nat → Int) (ln : Nat → Nat) (en : Nat) (b : Bool) (u : zm_Mem) : Prop := u 16 6 = nI en ∧ u 16 7 = zb b ∧ (∀ j, j < en → u 17 j = nI (ln j)) ∧ (∀ e, e < n → u 18 e = zb (R e || S e)) ∧ ∀ e, e < n → S e = true → u 19 e = zi (px e) ∧ u 20 e = zi (py e)
section ZCWALK
variable {w h n k t : Nat} {dy mv r : Nat → Nat} {mem : zm_Mem} {post : zm_Post} {c : Nat} {R S : Nat → Bool} {px py : Nat → Int} {ln : Nat → Nat} {en : Nat} {b : Bool}
theorem q_arrive {q en : Nat} {x y : Int32} (hq : q < 36) (he : mem 16 6 = nI en) (hen : en < 36) (kk : post 0 0 (zm_st (zm_st (zm_st (zm_st (zm_st mem 18 q 1) 19 q x) 20 q y) 17 en (nI q)) 16 6 (nI (en + 1)))) : zm_Call gX6_arrive [.ref 16, .int (nI q), .int x, .int y] mem post := by
  refine bX6_arrive_0 _ _ _ _ _ ⟨pk_in q 36 hq, pk_in q 36 hq, pk_in q 36 hq, ?_⟩
  have e1 : (zm_st (zm_st (zm_st mem 18 (Int32.toNatClampNeg (nI q)) 1) 19 (Int32.toNatClampNeg (nI q)) x) 20 (Int32.toNatClampNeg (nI q)) y) 16 6 = nI en := by
    rw [zs_cell (by decide), zs_cell (by decide), zs_cell (by decide), he]
  rw [e1]
  refine ⟨pk_in en 36 hen, ?_⟩
  rw [zs_cell (q := 16) (k := 17) (by decide), e1, nI_1, nI_clamp (by omega), nI_clamp (by omega)]
  exact kk
theorem q_step (G : zG w h n) (C : zC w h n mem) (P : zPd n dy mem) (hc : c < n) (hR : ∀ d, zcc w h dy c d → R d = false) (B : zB w h n dy c S px py ln en b) (Wc : zWc n R S px py ln en b mem) {e : Nat} (he : e < n) (hS : S e = true) {X Y : Int} (hn : znb (px e) (py e) X Y)
    (K : ∀ S' px' py' ln' en' b' u, zB w h n dy c S' px' py' ln' en' b' → zwg S px py ln en b S' px' py' ln' en' b' → zcl w h dy c S' px' py' b' X Y → zWc n R S' px' py' ln' en' b' u → zF [16, 17, 18, 19, 20] mem u → post 0 0 u) : zm_Call gX6_step [.ref 16, .int (nI e), .int (zi X), .int (zi Y)] mem post := by
  have h7 := G.2.2.2.2.2.2
  have hct := zq_ct_le S n
  have hen : en ≤ n := by rw [← B.2.2.2.2.1]; exact hct
  have q1 := B.1 e he hS
  have hce : zcc w h dy c e := by have := q1.1.cc G hc; rw [q1.2.1] at this; exact this
  have hlt := zt_ca_lt G X Y
  have hXY : (-1000 ≤ X ∧ X ≤ 1000) ∧ (-1000 ≤ Y ∧ Y ≤ 1000) := by
    obtain ⟨-, -, a1, a2⟩ := q1
    unfold znb at hn
    omega
  refine bX6_step_0 _ _ _ _ _ (q_cellAt G C hXY.1 hXY.2 ⟨pk_in (zt_ca w h X Y) 36 (by omega), pk_in e 36 (by omega), ?_⟩)
  rw [nI_clamp (by omega), nI_clamp (by omega), (P _ hlt).1, (P e he).1, hce.col]
  have d1 := (P _ hlt).2
  have d2 := (P c hc).2
  refine pk_eq (dy (zt_ca w h X Y)) (dy c) (fun ed => ⟨pk_in (zt_ca w h X Y) 36 (by omega), ?_⟩) (fun ed => K S px py ln en b mem B zwg.rf (fun z => absurd z ed) Wc zF.rf)
  have hq : zcc w h dy c (zt_ca w h X Y) := (q1.1.on hn ed).cc G hc
  rw [Wc.2.2.2.1 _ hlt, hR _ hq, Bool.false_or]
  refine zb_ne0 _ (fun es => ?_) (fun es => ?_)
  · have w2 := Wc.2.2.2.2 _ hlt es
    have q2 := B.1 _ hlt es
    refine ⟨pk_in (zt_ca w h X Y) 36 (by omega), ?_⟩
    rw [w2.1, w2.2, zi_eq (by omega) (by omega) (by omega) (by omega), zi_eq (by omega) (by omega) (by omega) (by omega)]
    have run : ¬ (px (zt_ca w h X Y) = X ∧ py (zt_ca w h X Y) = Y) → post 0 0 (zm_st mem 16 7 1) := by
      intro hne
      obtain ⟨B2, g2, c2⟩ := zB_run G B he hS hn ed es hne
      refine K _ _ _ _ _ _ _ B2 g2 c2 ?_ (zF.rf.st (by decide))
      refine ⟨?_, zs_self _ _ _ _, ?_, ?_, ?_⟩
      · rw [zs_slot (by decide)]; exact Wc.1
      · rw [zs_cell (by decide)]; exact Wc.2.2.1
      · rw [zs_cell (by decide)]; exact Wc.2.2.2.1
      · rw [zs_cell (by decide), zs_cell (by decide)]; exact Wc.2.2.2.2
    exact ⟨fun z => run (fun z2 => z z2.1), fun z => ⟨pk_in (zt_ca w h X Y) 36 (by omega), fun z2 => K S px py ln en b mem B zwg.rf (fun _ => ⟨es, Or.inr ⟨z, z2⟩⟩) Wc zF.rf, fun z2 => run (fun z3 => z2 z3.2)⟩⟩
  · obtain ⟨B2, g2, c2, hen2⟩ := zB_add G B he hS hn ed es (px' := fun d => if d = zt_ca w h X Y then X else px d) (py' := fun d => if d = zt_ca w h X Y then Y else py d) (ln' := fun j => if j = en then zt_ca w h X Y else ln j) (S' := fun d => if d = zt_ca w h X Y then true else S d) (fun _ => rfl) (fun _ => rfl) (fun _ => rfl) (fun _ => rfl)
    refine q_arrive (by omega) Wc.1 (by omega) (K _ _ _ _ _ _ _ B2 g2 c2 ?_ (((((zF.rf.st (by decide)).st (by decide)).st (by decide)).st (by decide)).st (by decide)))
    refine ⟨zs_self _ _ _ _, ?_, fun j hj => ?_, fun d hd => ?_, fun d hd hs => ?_⟩
    · rw [zs_slot (by decide), zs_cell (by decide), zs_cell (by decide), zs_cell (by decide), zs_cell (by decide)]; exact Wc.2.1
    · rw [zs_cell (by decide)]
      by_cases q : j = en
      · rw [q, zs_self]; dsimp only; rw [if_pos rfl]
      · rw [zs_slot q, zs_cell (by decide), zs_cell (by decide), zs_cell (by decide)]; dsimp only; rw [if_neg q]
        exact Wc.2.2.1 j (by omega)
    · rw [zs_cell (by decide), zs_cell (by decide), zs_cell (by decide), zs_cell (by decide)]
      by_cases q : d = zt_ca w h X Y
      · rw [q, zs_self]; dsimp only; rw [if_pos rfl, Bool.or_true]; rfl
      · rw [zs_slot q]; dsimp only; rw [if_neg q]
        exact Wc.2.2.2.1 d hd
    · rw [zs_cell (q := 19) (k := 16) (by decide), zs_cell (q := 19) (k := 17) (by decide), zs_cell (q := 19) (k := 20) (by decide), zs_cell (q := 20) (k := 16) (by decide), zs_cell (q := 20) (k := 17) (by decide)]
      by_cases q : d = zt_ca w h X Y
      · rw [q, zs_self, zs_self]; dsimp only; rw [if_pos rfl, if_pos rfl]
        exact ⟨rfl, rfl⟩
      · dsimp only at hs ⊢
        rw [if_neg q] at hs
        rw [if_neg q, if_neg q]
        refine ⟨?_, ?_⟩
        · rw [zs_slot q, zs_cell (by decide)]; exact (Wc.2.2.2.2 d hd hs).1
        · rw [zs_slot q, zs_cell (by decide), zs_cell (by decide)]; exact (Wc.2.2.2.2 d hd hs).2
theorem q_walk (G : zG w h n) (C : zC w h n mem) (P : zPd n dy mem) (hc : c < n) (hR : ∀ d, zcc w h dy c d → R d = false) (h18 : ∀ e, e < n → mem 18 e = zb (R e)) (kk : ∀ u, zF [16, 17, 18, 19, 20] mem u → (∀ e, e < n → u 18 e = zb (R e || zccB w h dy c e)) → u 16 6 = nI (zq_ct (zccB w h dy c) n) → u 16 7 = zb (zwrB w h dy c) → post 0 0 u) : zm_Call gX6_walk [.ref 16, .int (nI c)] mem post := by
  have h7 := G.2.2.2.2.2.2
  have CC : ∀ u, zF [16, 17, 18, 19, 20] mem u → zC w h n u := fun u F => by unfold zC; rw [F 1 (by decide)]; exact C
  have PP : ∀ u, zF [16, 17, 18, 19, 20] mem u → zPd n dy u := fun u F => by unfold zPd; rw [F 3 (by decide)]; exact P
  have F1 : zF [16, 17, 18, 19, 20] mem (zm_st (zm_st mem 16 6 0) 16 7 0) := (zF.rf.st (by decide)).st (by decide)
  have loop : ∀ f i S px py ln en b u, i + f = n → i ≤ en → zF [16, 17, 18, 19, 20] mem u → zB w h n dy c S px py ln en b → zWc n R S px py ln en b u → (∀ j, j < i → ∀ X Y : Int, znb (px (ln j)) (py (ln j)) X Y → zcl w h dy c S px py b X Y) → zm_Z gX6_walk post 33 [(0, .ref 16), (2, .int (nI i))] [] u := by
    have stop : ∀ i S px py ln en b u, i = en → zF [16, 17, 18, 19, 20] mem u → zB w h n dy c S px py ln en b → zWc n R S px py ln en b u → (∀ j, j < i → ∀ X Y : Int, znb (px (ln j)) (py (ln j)) X Y → zcl w h dy c S px py b X Y) → post 0 0 u := by
      intro i S px py ln en b u hi F B Wc cl
      subst hi
      obtain ⟨z1, z2, z3⟩ := zB_end G hc B cl
      refine kk u F (fun e he => ?_) ?_ ?_
      · rw [Wc.2.2.2.1 e he, z1 e he]
      · rw [Wc.1, ← z3]
      · rw [Wc.2.1, z2]
    intro f
    induction f with
    | zero =>
      intro i S px py ln en b u hi hie F B Wc cl
      have hct := zq_ct_le S n
      rw [B.2.2.2.2.1] at hct
      refine bX6_walk_33 _ _ _ (pk_le en i (fun z => stop i S px py ln en b u (by omega) F B Wc cl) (fun z => by omega) Wc.1)
    | succ f ih =>
      intro i S px py ln en b u hi hie F B Wc cl
      have hct := zq_ct_le S n
      rw [B.2.2.2.2.1] at hct
      refine bX6_walk_33 _ _ _ (pk_le en i (fun z => stop i S px py ln en b u (by omega) F B Wc cl) (fun z => pk_le 36 i (fun z2 => by omega) (fun _ => ?_)) Wc.1)
      have l0 := B.2.2.1 i z
      have w0 := Wc.2.2.2.2 _ l0.1 l0.2
      have q0 := B.1 _ l0.1 l0.2
      rw [nI_clamp (by omega), Wc.2.2.1 i z, nI_clamp (by omega), w0.1, w0.2, show (1 : Int32) = zi 1 from rfl, zi_add]
      refine ⟨pk_in i 36 (by omega), pk_in (ln i) 36 (by omega), pk_in (ln i) 36 (by omega), ?_⟩
      refine q_step G (CC u F) (PP u F) hc hR B Wc l0.1 l0.2 (Or.inl ⟨rfl, rfl⟩) (fun S1 px1 py1 ln1 en1 b1 u1 B1 g1 c1 W1 F1 => ?_)
      have F1' := F.trans F1
      have s1 := g1.1 _ l0.2
      have w1 := W1.2.2.2.2 _ l0.1 s1.1
      rw [w1.1, w1.2, s1.2.1, s1.2.2, zi_sub]
      refine ⟨pk_in (ln i) 36 (by omega), pk_in (ln i) 36 (by omega), ?_⟩
      refine q_step G (CC u1 F1') (PP u1 F1') hc hR B1 W1 l0.1 s1.1 (Or.inr (Or.inl ⟨by rw [s1.2.1], by rw [s1.2.2]⟩)) (fun S2 px2 py2 ln2 en2 b2 u2 B2 g2 c2 W2 F2 => ?_)
      have F2' := F1'.trans F2
      have g2' := g1.trans g2
      have s2 := g2'.1 _ l0.2
      have w2 := W2.2.2.2.2 _ l0.1 s2.1
      rw [w2.1, w2.2, s2.2.1, s2.2.2, zi_add]
      refine ⟨pk_in (ln i) 36 (by omega), pk_in (ln i) 36 (by omega), ?_⟩
      refine q_step G (CC u2 F2') (PP u2 F2') hc hR B2 W2 l0.1 s2.1 (Or.inr (Or.inr (Or.inl ⟨by rw [s2.2.1], by rw [s2.2.2]⟩))) (fun S3 px3 py3 ln3 en3 b3 u3 B3 g3 c3 W3 F3 => ?_)
      have F3' := F2'.trans F3
      have g3' := g2'.trans g3
      have s3 := g3'.1 _ l0.2
      have w3 := W3.2.2.2.2 _ l0.1 s3.1
      rw [w3.1, w3.2, s3.2.1, s3.2.2, zi_sub]
      refine ⟨pk_in (ln i) 36 (by omega), pk_in (ln i) 36 (by omega), ?_⟩
      refine q_step G (CC u3 F3') (PP u3 F3') hc hR B3 W3 l0.1 s3.1 (Or.inr (Or.inr (Or.inr ⟨by rw [s3.2.1], by rw [s3.2.2]⟩))) (fun S4 px4 py4 ln4 en4 b4 u4 B4 g4 c4 W4 F4 => ?_)
      have g4' := g3'.trans g4
      have hee := g4'.2.2.2
      rw [show zi 1 = (1 : Int32) from rfl, nI_1]
      refine ih (i + 1) S4 px4 py4 ln4 en4 b4 u4 (by omega) (by omega) (F3'.trans F4) B4 W4 (fun j hj X Y hn => ?_)
      have hlj := g4'.2.2.1 j (by omega)
      rw [hlj] at hn
      have hlS := B.2.2.1 j (by omega)
      have sj := g4'.1 _ hlS.2
      rw [sj.2.1, sj.2.2] at hn
      by_cases q : j = i
      · subst q
        rcases hn with ⟨e1, e2⟩ | ⟨e1, e2⟩ | ⟨e1, e2⟩ | ⟨e1, e2⟩
        · subst e1 e2; exact ((c1.on g2).on g3).on g4
        · subst e1 e2; exact (c2.on g3).on g4
        · subst e1 e2; exact c3.on g4
        · subst e1 e2; exact c4
      · exact (cl j (by omega) X Y hn).on g4'
  refine bX6_walk_0 _ _ _ (q_columnOf G (CC _ F1) (by omega) (q_rowOf G (CC _ F1) (by omega) (q_arrive (en := 0) (by omega) ?_ (by decide) ?_)))
  · rw [zs_slot (by decide), zs_self]; rfl
  · refine loop n 0 (fun e => decide (e = c)) (fun _ => ((c % w : Nat) : Int)) (fun _ => ((c / w : Nat) : Int)) (fun _ => c) 1 false _ (by omega) (by omega) (((((F1.st (by decide)).st (by decide)).st (by decide)).st (by decide)).st (by decide)) (zB_0 G hc (fun _ => rfl) rfl rfl rfl) ?_ (fun j hj => by omega)
    refine ⟨zs_self _ _ _ _, ?_, fun j hj => ?_, fun d hd => ?_, fun d hd hs => ?_⟩
    · rw [zs_slot (by decide), zs_cell (by decide), zs_cell (by decide), zs_cell (by decide), zs_cell (by decide), zs_self]; rfl
    · rw [show j = 0 by omega, zs_cell (by decide), zs_self]
    · rw [zs_cell (by decide), zs_cell (by decide), zs_cell (by decide), zs_cell (by decide)]
      by_cases q : d = c
      · rw [q, zs_self]; simp
      · rw [zs_slot q, zs_cell (by decide), zs_cell (by decide), h18 d hd]; simp [q]
    · have q := of_decide_eq_true hs
      subst q
      rw [zs_cell (q := 19) (k := 16) (by decide), zs_cell (q := 19) (k := 17) (by decide), zs_cell (q := 19) (k := 20) (by decide), zs_self, zs_cell (q := 20) (k := 16) (by decide), zs_cell (q := 20) (k := 17) (by decide), zs_self, zi_nI, zi_nI]
      exact ⟨rfl, rfl⟩
/-- c is the first of its piece -/
noncomputable def zfs (w h : Nat) (dy : Nat → Nat) (c : Nat) : Bool := !(decide (dy c = 9)) && !(zq_any (fun d => zccB w h dy d c) c)
/-- d is in a piece that has a first before c -/
noncomputable def zrd (w h : Nat) (dy : Nat → Nat) (c d : Nat) : Bool := zq_any (fun s => zfs w h dy s && zccB w h dy s d) c
theorem zfs_of (G : zG w h n) {d : Nat} (hd : d < n) (h9 : ¬ dy d = 9) : ∃ s, s ≤ d ∧ zfs w h dy s = true ∧ zcc w h dy s d := by
  obtain ⟨s, h1, h2⟩ := pk_least (fun s => zcc w h dy s d) ⟨d, zcc.rf⟩
  have hsd : s ≤ d := by
    rcases Nat.lt_or_ge d s with q | q
    · exact absurd zcc.rf (h2 d q)
    · exact q
  refine ⟨s, hsd, ?_, h1⟩
  unfold zfs
  have e1 : decide (dy s = 9) = false := decide_eq_false (by rw [← h1.col]; exact h9)
  rw [e1]
  cases hz : zq_any (fun d => zccB w h dy d s) s with
  | false => rfl
  | true =>
    obtain ⟨i, i1, i2⟩ := zq_any_iff.mp hz
    exact absurd ((zccB_iff.mp i2).trans h1) (h2 i i1)
theorem zfs_one (G : zG w h n) {s s' d : Nat} (hs : s < n) (hs' : s' < n) (f1 : zfs w h dy s = true) (f2 : zfs w h dy s' = true) (c1 : zcc w h dy s d) (c2 : zcc w h dy s' d) : s = s' := by
  have key : ∀ {s s' : Nat}, s < n → s' < n → zfs w h dy s' = true → zcc w h dy s d → zcc w h dy s' d → ¬ s < s' := by
    intro s s' hs hs' f2 c1 c2 hlt
    unfold zfs at f2
    rw [zq_yes (p := fun d => zccB w h dy d s') (m := s) hlt (zccB_iff.mpr (c1.trans (c2.symm G hs')))] at f2
    simp at f2
  have k1 := key hs hs' f2 c1 c2
  have k2 := key hs' hs f1 c2 c1
  omega
/-- whether c begins a piece: it is not hidden, and no piece before has it -/
theorem zfs_rd (G : zG w h n) (hc : c < n) : zfs w h dy c = (!(decide (dy c = 9)) && !(zrd w h dy c c)) := by
  unfold zfs
  by_cases h9 : dy c = 9
  · simp [h9]
  · congr 2
    refine zbool ⟨fun z => ?_, fun z => ?_⟩
    · obtain ⟨i, i1, i2⟩ := zq_any_iff.mp z
      have i3 := zccB_iff.mp i2
      have hi9 : ¬ dy i = 9 := by rw [← i3.col]; exact h9
      obtain ⟨s, s1, s2, s3⟩ := zfs_of G (d := i) (by omega) hi9
      exact zq_any_iff.mpr ⟨s, by omega, by rw [s2, zccB_iff.mpr (s3.trans i3)]; rfl⟩
    · obtain ⟨i, i1, i2⟩ := zq_any_iff.mp z
      rw [Bool.and_eq_true] at i2
      exact zq_any_iff.mpr ⟨i, i1, i2.2⟩
theorem zrd_no (G : zG w h n) (hc : c < n) (h9 : ¬ dy c = 9) (hr : zrd w h dy c c = false) : ∀ d, zcc w h dy c d → zrd w h dy c d = false := by
  intro d hd
  cases hz : zrd w h dy c d with
  | false => rfl
  | true =>
    obtain ⟨i, i1, i2⟩ := zq_any_iff.mp hz
    rw [Bool.and_eq_true] at i2
    have : zrd w h dy c c = true := zq_any_iff.mpr ⟨i, i1, by rw [i2.1, zccB_iff.mpr ((zccB_iff.mp i2.2).trans (hd.symm G hc))]; rfl⟩
    rw [hr] at this; cases this
theorem q_leaveAll (C : zC w h n mem) (h7 : n ≤ 36) (kk : ∀ u, zF [18] mem u → (∀ e, e < n → u 18 e = 0) → post 0 0 u) : zm_Call gX6_leaveAll [.ref 16] mem post := by
  refine bX6_leaveAll_0 _ _ ?_
  have loop : ∀ f c u, c + f = n → zF [18] mem u → (∀ e, e < c → u 18 e = 0) → zm_Z gX6_leaveAll post 2 [(0, .ref 16), (1, .int (nI c))] [] u := by
    intro f
    induction f with
    | zero =>
      intro c u hc F hz
      refine bX6_leaveAll_2 _ _ _ (pk_le n c (fun _ => kk u F (fun e he => hz e (by omega))) (fun z => by omega) (by rw [F 1 (by decide)]; exact C.2.2))
    | succ f ih =>
      intro c u hc F hz
      refine bX6_leaveAll_2 _ _ _ (pk_le n c (fun z => by omega) (fun _ => ⟨pk_in c 36 (by omega), ?_⟩) (by rw [F 1 (by decide)]; exact C.2.2))
      rw [nI_clamp (by omega), nI_1]
      refine ih (c + 1) _ (by omega) (F.st (by decide)) (fun e he => ?_)
      by_cases q : e = c
      · rw [q, zs_self]
      · rw [zs_slot q]; exact hz e (by omega)
  exact loop n 0 mem (by omega) zF.rf (fun e he => by omega)
theorem q_sizeAt (G : zG w h n) (C : zC w h n mem) (P : zPd n dy mem) (hc : c < n) (kk : ∀ u, zF [16, 17, 18, 19, 20] mem u → post (nI (zq_ct (zccB w h dy c) n)) 0 u) : zm_Call gX6_sizeAt [.ref 16, .int (nI c)] mem post := by
  refine bX6_sizeAt_0 _ _ _ (q_leaveAll C G.2.2.2.2.2.2 (fun u F hz => ?_))
  refine q_walk (R := fun _ => false) G (by unfold zC; rw [F 1 (by decide)]; exact C) (by unfold zPd; rw [F 3 (by decide)]; exact P) hc (fun _ _ => rfl) (fun e he => hz e he) (fun v Fv _ h6 _ => ?_)
  rw [h6]
  exact kk v ((F.wide (by decide)).trans Fv)
theorem q_total6 (G : zG w h n) (C : zC w h n mem) (P : zPd n dy mem) (on : Bool) (kk : ∀ u, zF [16, 17, 18, 19, 20] mem u → post (nI (zq_ct (fun s => zfs w h dy s && (zwrB w h dy s || !on)) n)) 0 u) : zm_Call gX6_total [.ref 16, .int (zb on)] mem post := by
  have h7 := G.2.2.2.2.2.2
  refine bX6_total_0 _ _ _ (q_leaveAll C h7 (fun u0 F0 hz0 => ?_))
  have loop : ∀ f c u, c + f = n → zF [16, 17, 18, 19, 20] mem u → (∀ e, e < n → u 18 e = zb (zrd w h dy c e)) → zm_Z gX6_total post 8 [(0, .ref 16), (1, .int (zb on)), (2, .int (nI (zq_ct (fun s => zfs w h dy s && (zwrB w h dy s || !on)) c))), (3, .int (nI c))] [] u := by
    intro f
    induction f with
    | zero =>
      intro c u hc F hz
      refine bX6_total_8 _ _ _ _ _ (pk_le n c (fun _ => ?_) (fun z => by omega) (by rw [F 1 (by decide)]; exact C.2.2))
      rw [show c = n by omega]
      exact kk u F
    | succ f ih =>
      intro c u hc F hz
      have hcn : c < n := by omega
      have C2 : zC w h n u := by unfold zC; rw [F 1 (by decide)]; exact C
      have P2 : zPd n dy u := by unfold zPd; rw [F 3 (by decide)]; exact P
      have hfs := zfs_rd (dy := dy) G hcn
      have skip : zfs w h dy c = false → zm_Z gX6_total post 8 [(0, .ref 16), (1, .int (zb on)), (2, .int (nI (zq_ct (fun s => zfs w h dy s && (zwrB w h dy s || !on)) c))), (3, .int (nI (c + 1)))] [] u := by
        intro e
        have nx := ih (c + 1) u (by omega) F (fun d hd => by
          rw [hz d hd]
          unfold zrd
          rw [zq_any, e, Bool.false_and, Bool.or_false])
        rw [zq_ct, e] at nx
        exact nx
      refine bX6_total_8 _ _ _ _ _ (pk_le n c (fun z => by omega) (fun _ => ⟨pk_in c 36 (by omega), ?_⟩) C2.2.2)
      rw [nI_clamp (by omega), hz c hcn, (P2 c hcn).1, nI_1]
      have d1 := (P2 c hcn).2
      refine zb_ne0 _ (fun e => skip (by rw [hfs, e]; simp)) (fun e => ⟨pk_in c 36 (by omega), pk_eq (dy c) 9 (fun e9 => skip (by rw [hfs, decide_eq_true e9]; rfl)) (fun e9 => ?_)⟩)
      have fs : zfs w h dy c = true := by rw [hfs, e, decide_eq_false e9]; rfl
      refine q_walk (R := zrd w h dy c) G C2 P2 hcn (zrd_no G hcn e9 e) hz (fun v Fv v18 _ v7 => ?_)
      have nx := ih (c + 1) v (by omega) (F.trans Fv) (fun d hd => by
        rw [v18 d hd]
        unfold zrd
        rw [zq_any, fs, Bool.true_and])
      rw [zq_ct, fs, Bool.true_and] at nx
      rw [v7, nI_1]
      refine zb_ne0 _ (fun q => ?_) (fun q => zb_ne0 _ (fun q2 => ?_) (fun q2 => ?_))
      · rw [q, Bool.true_or] at nx; exact nx
      · rw [q, q2] at nx
        rw [q2]; exact nx
      · rw [q, q2] at nx
        rw [q2]; exact nx
  exact loop n 0 u0 (by omega) (F0.wide (by decide)) (fun e he => by rw [hz0 e he]; rfl)
end ZCWALK
