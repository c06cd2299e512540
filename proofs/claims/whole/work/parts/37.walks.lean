/-! PIECES: walking on by neighbours of one colour, over the paper (places) and over the patch (cells) -/
/-- (X', Y') is next to (X, Y) -/
def znb (X Y X' Y' : Int) : Prop := (X' = X + 1 ∧ Y' = Y) ∨ (X' = X - 1 ∧ Y' = Y) ∨ (X' = X ∧ Y' = Y + 1) ∨ (X' = X ∧ Y' = Y - 1)
/-- cells that can be come to from c -/
def zcc (w h : Nat) (dy : Nat → Nat) (c e : Nat) : Prop := ∀ K : Nat → Prop, K c → (∀ X Y X' Y' : Int, K (zt_ca w h X Y) → znb X Y X' Y' → dy (zt_ca w h X' Y') = dy c → K (zt_ca w h X' Y')) → K e
/-- places that can be come to from c's own -/
def zrc (w h : Nat) (dy : Nat → Nat) (c : Nat) (X Y : Int) : Prop := ∀ K : Int → Int → Prop, K ((c % w : Nat) : Int) ((c / w : Nat) : Int) → (∀ X Y X' Y' : Int, K X Y → znb X Y X' Y' → dy (zt_ca w h X' Y') = dy c → K X' Y') → K X Y
/-- two places of one cell can be come to -/
def zwr (w h : Nat) (dy : Nat → Nat) (c : Nat) : Prop := ∃ X Y X' Y' : Int, zrc w h dy c X Y ∧ zrc w h dy c X' Y' ∧ zt_ca w h X Y = zt_ca w h X' Y' ∧ ¬ (X = X' ∧ Y = Y')
noncomputable def zccB (w h : Nat) (dy : Nat → Nat) (c e : Nat) : Bool := @decide (zcc w h dy c e) (Classical.propDecidable _)
noncomputable def zwrB (w h : Nat) (dy : Nat → Nat) (c : Nat) : Bool := @decide (zwr w h dy c) (Classical.propDecidable _)
theorem zccB_iff {w h : Nat} {dy : Nat → Nat} {c e : Nat} : zccB w h dy c e = true ↔ zcc w h dy c e := by
  unfold zccB
  exact @decide_eq_true_iff _ (Classical.propDecidable _)
theorem zwrB_iff {w h : Nat} {dy : Nat → Nat} {c : Nat} : zwrB w h dy c = true ↔ zwr w h dy c := by
  unfold zwrB
  exact @decide_eq_true_iff _ (Classical.propDecidable _)
theorem zbool {a b : Bool} (h : a = true ↔ b = true) : a = b := by
  cases a <;> cases b <;> simp_all
theorem znb.back {X Y X' Y' : Int} (hn : znb X Y X' Y') : znb X' Y' X Y := by
  unfold znb at *
  omega
section ZWALK
variable {w h n : Nat} {dy : Nat → Nat} {c : Nat}
theorem zt_ca_on (G : zG w h n) {X Y X' Y' : Int} (e : zt_ca w h X Y = zt_ca w h X' Y') (a b : Int) : zt_ca w h (X + a) (Y + b) = zt_ca w h (X' + a) (Y' + b) := by
  have h1 := zt_ca_x G X Y
  have h2 := zt_ca_x G X' Y'
  have h3 := zt_ca_y G X Y
  have h4 := zt_ca_y G X' Y'
  rw [e] at h1 h3
  exact zt_ca_congr ((h1.symm.trans h2).add zc.rf) ((h3.symm.trans h4).add zc.rf)
theorem zcc.rf : zcc w h dy c c := fun _ h0 _ => h0
theorem zcc.on {X Y X' Y' : Int} (h1 : zcc w h dy c (zt_ca w h X Y)) (hn : znb X Y X' Y') (hd : dy (zt_ca w h X' Y') = dy c) : zcc w h dy c (zt_ca w h X' Y') := fun K h0 hs => hs X Y X' Y' (h1 K h0 hs) hn hd
theorem zcc.col {e : Nat} (h1 : zcc w h dy c e) : dy e = dy c := h1 (fun e => dy e = dy c) rfl (fun _ _ _ _ _ _ hd => hd)
theorem zcc.lt (G : zG w h n) (hc : c < n) {e : Nat} (h1 : zcc w h dy c e) : e < n := h1 (fun e => e < n) hc (fun _ _ _ _ _ _ _ => zt_ca_lt G _ _)
theorem zcc.trans {e d : Nat} (h1 : zcc w h dy c e) (h2 : zcc w h dy e d) : zcc w h dy c d := h2 (fun d => zcc w h dy c d) h1 (fun _ _ _ _ k hn hd => k.on hn (hd.trans h1.col))
theorem zcc.symm (G : zG w h n) (hc : c < n) {e : Nat} (h1 : zcc w h dy c e) : zcc w h dy e c := by
  have := h1 (fun e => dy e = dy c ∧ zcc w h dy e c) ⟨rfl, zcc.rf⟩ (fun X Y X' Y' k hn hd => ⟨hd, ?_⟩)
  · exact this.2
  · have s : zcc w h dy (zt_ca w h X' Y') (zt_ca w h X Y) := zcc.on zcc.rf hn.back (by rw [k.1, hd])
    exact s.trans k.2
theorem zrc.rf : zrc w h dy c ((c % w : Nat) : Int) ((c / w : Nat) : Int) := fun _ h0 _ => h0
theorem zrc.on {X Y X' Y' : Int} (h1 : zrc w h dy c X Y) (hn : znb X Y X' Y') (hd : dy (zt_ca w h X' Y') = dy c) : zrc w h dy c X' Y' := fun K h0 hs => hs X Y X' Y' (h1 K h0 hs) hn hd
theorem zrc.cc (G : zG w h n) (hc : c < n) {X Y : Int} (h1 : zrc w h dy c X Y) : zcc w h dy c (zt_ca w h X Y) := h1 (fun X Y => zcc w h dy c (zt_ca w h X Y)) (by rw [zt_ca_cell G hc]; exact zcc.rf) (fun _ _ _ _ k hn hd => k.on hn hd)
/-- a walk under way: the cells come to, their places, the line of them, whether another print was seen -/
def zB (w h n : Nat) (dy : Nat → Nat) (c : Nat) (S : Nat → Bool) (px py : Nat → Int) (ln : Nat → Nat) (en : Nat) (b : Bool) : Prop :=
  (∀ e, e < n → S e = true → zrc w h dy c (px e) (py e) ∧ zt_ca w h (px e) (py e) = e ∧ (-(7 + (en : Int)) ≤ px e ∧ px e ≤ 7 + (en : Int)) ∧ (-(7 + (en : Int)) ≤ py e ∧ py e ≤ 7 + (en : Int))) ∧
  (S c = true ∧ px c = ((c % w : Nat) : Int) ∧ py c = ((c / w : Nat) : Int)) ∧
  (∀ j, j < en → ln j < n ∧ S (ln j) = true) ∧ (∀ e, e < n → S e = true → ∃ j, j < en ∧ ln j = e) ∧ zq_ct S n = en ∧ (b = true → zwr w h dy c)
/-- this place has been looked at -/
def zcl (w h : Nat) (dy : Nat → Nat) (c : Nat) (S : Nat → Bool) (px py : Nat → Int) (b : Bool) (X Y : Int) : Prop := dy (zt_ca w h X Y) = dy c → S (zt_ca w h X Y) = true ∧ (b = true ∨ (px (zt_ca w h X Y) = X ∧ py (zt_ca w h X Y) = Y))
def zwg (S : Nat → Bool) (px py : Nat → Int) (ln : Nat → Nat) (en : Nat) (b : Bool) (S' : Nat → Bool) (px' py' : Nat → Int) (ln' : Nat → Nat) (en' : Nat) (b' : Bool) : Prop := (∀ e, S e = true → S' e = true ∧ px' e = px e ∧ py' e = py e) ∧ (b = true → b' = true) ∧ (∀ j, j < en → ln' j = ln j) ∧ en ≤ en'
variable {S S' S2 : Nat → Bool} {px py px' py' px2 py2 : Nat → Int} {ln ln' ln2 : Nat → Nat} {en en' en2 : Nat} {b b' b2 : Bool}
theorem zwg.rf : zwg S px py ln en b S px py ln en b := ⟨fun _ h => ⟨h, rfl, rfl⟩, fun h => h, fun _ _ => rfl, Nat.le_refl _⟩
theorem zwg.trans (h1 : zwg S px py ln en b S' px' py' ln' en' b') (h2 : zwg S' px' py' ln' en' b' S2 px2 py2 ln2 en2 b2) : zwg S px py ln en b S2 px2 py2 ln2 en2 b2 := by
  refine ⟨fun e he => ?_, fun hb => h2.2.1 (h1.2.1 hb), fun j hj => ?_, Nat.le_trans h1.2.2.2 h2.2.2.2⟩
  · obtain ⟨a1, a2, a3⟩ := h1.1 e he
    obtain ⟨b1, b2, b3⟩ := h2.1 e a1
    exact ⟨b1, b2.trans a2, b3.trans a3⟩
  · have := h1.2.2.2
    rw [h2.2.2.1 j (by omega), h1.2.2.1 j hj]
theorem zcl.on {X Y : Int} (k : zcl w h dy c S px py b X Y) (g : zwg S px py ln en b S' px' py' ln' en' b') : zcl w h dy c S' px' py' b' X Y := by
  intro hd
  obtain ⟨k1, k2⟩ := k hd
  obtain ⟨a1, a2, a3⟩ := g.1 _ k1
  refine ⟨a1, ?_⟩
  rcases k2 with k2 | k2
  · exact Or.inl (g.2.1 k2)
  · exact Or.inr ⟨a2.trans k2.1, a3.trans k2.2⟩
/-- the walk begins -/
theorem zB_0 (G : zG w h n) (hc : c < n) {S : Nat → Bool} {px py : Nat → Int} {ln : Nat → Nat} (hS : ∀ e, S e = decide (e = c)) (hx : px c = ((c % w : Nat) : Int)) (hy : py c = ((c / w : Nat) : Int)) (hl : ln 0 = c) : zB w h n dy c S px py ln 1 false := by
  obtain ⟨g1, g2, g3, g4, g5, g6, g7⟩ := id G
  have m1 : c % w < w := Nat.mod_lt _ (by omega)
  have m2 : c / w < h := by
    rw [Nat.div_lt_iff_lt_mul (by omega), Nat.mul_comm, ← g5]; exact hc
  refine ⟨fun e he hs => ?_, ⟨by rw [hS]; simp, hx, hy⟩, fun j hj => ?_, fun e he hs => ⟨0, by omega, ?_⟩, ?_, fun z => by cases z⟩
  · rw [hS] at hs
    have e1 := of_decide_eq_true hs
    subst e1
    rw [hx, hy]
    have nn := Int.natCast_nonneg (e / w)
    refine ⟨zrc.rf, zt_ca_cell G hc, ⟨by omega, by omega⟩, ⟨by omega, by omega⟩⟩
  · rw [show j = 0 by omega, hl, hS]; exact ⟨hc, by simp⟩
  · rw [hS] at hs
    rw [hl]
    exact (of_decide_eq_true hs).symm
  · have z := zq_ct_set (p := fun _ => false) (d := c) rfl (n := n) hc
    rw [zq_ct_zero (fun _ _ => rfl)] at z
    refine Eq.trans (zq_ct_cong (fun e _ => by rw [hS]; simp)) z
/-- a new cell -/
theorem zB_add (G : zG w h n) (B : zB w h n dy c S px py ln en b) {e : Nat} (he : e < n) (hS : S e = true) {X Y : Int} (hn : znb (px e) (py e) X Y) (hd : dy (zt_ca w h X Y) = dy c) (hq : S (zt_ca w h X Y) = false) {px' py' : Nat → Int} {ln' : Nat → Nat} (hx : ∀ d, px' d = if d = zt_ca w h X Y then X else px d) (hy : ∀ d, py' d = if d = zt_ca w h X Y then Y else py d) (hl : ∀ j, ln' j = if j = en then zt_ca w h X Y else ln j) {S' : Nat → Bool} (hS' : ∀ d, S' d = if d = zt_ca w h X Y then true else S d) : zB w h n dy c S' px' py' ln' (en + 1) b ∧ zwg S px py ln en b S' px' py' ln' (en + 1) b ∧ zcl w h dy c S' px' py' b X Y ∧ en < n := by
  have hlt := zt_ca_lt G X Y
  obtain ⟨b1, b2, b3, b4, b5, b6⟩ := B
  have q1 := b1 e he hS
  have ct : zq_ct S' n = en + 1 := by
    rw [← b5, ← zq_ct_set hq hlt]
    exact zq_ct_cong (fun d _ => by rw [hS'])
  have hle := zq_ct_le S' n
  refine ⟨⟨fun d hdn hs => ?_, ?_, fun j hj => ?_, fun d hdn hs => ?_, ct, b6⟩, ⟨fun d hs => ?_, fun z => z, fun j hj => ?_, by omega⟩, fun _ => ?_, by omega⟩
  · rw [hx, hy]
    by_cases q : d = zt_ca w h X Y
    · rw [if_pos q, if_pos q]
      refine ⟨q1.1.on hn hd, q.symm, ?_⟩
      unfold znb at hn
      omega
    · rw [if_neg q, if_neg q]
      rw [hS', if_neg q] at hs
      obtain ⟨p1, p2, p3, p4⟩ := b1 d hdn hs
      exact ⟨p1, p2, ⟨by omega, by omega⟩, ⟨by omega, by omega⟩⟩
  · have q : ¬ c = zt_ca w h X Y := fun z => by rw [← z, b2.1] at hq; cases hq
    rw [hS', hx, hy, if_neg q, if_neg q, if_neg q]
    exact b2
  · rw [hl]
    by_cases q : j = en
    · rw [if_pos q, hS', if_pos rfl]; exact ⟨hlt, rfl⟩
    · rw [if_neg q]
      have := b3 j (by omega)
      refine ⟨this.1, ?_⟩
      rw [hS']
      split
      · rfl
      · exact this.2
  · rw [hS'] at hs
    by_cases q : d = zt_ca w h X Y
    · exact ⟨en, by omega, by rw [hl, if_pos rfl, q]⟩
    · rw [if_neg q] at hs
      obtain ⟨j, j1, j2⟩ := b4 d hdn hs
      exact ⟨j, by omega, by rw [hl, if_neg (by omega), j2]⟩
  · have q : ¬ d = zt_ca w h X Y := fun z => by rw [← z, hs] at hq; cases hq
    rw [hS', hx, hy, if_neg q, if_neg q, if_neg q]
    exact ⟨hs, rfl, rfl⟩
  · rw [hl, if_neg (by omega)]
  · rw [hS', hx, hy, if_pos rfl, if_pos rfl, if_pos rfl]
    exact ⟨rfl, Or.inr ⟨rfl, rfl⟩⟩
/-- another print -/
theorem zB_run (G : zG w h n) (B : zB w h n dy c S px py ln en b) {e : Nat} (he : e < n) (hS : S e = true) {X Y : Int} (hn : znb (px e) (py e) X Y) (hd : dy (zt_ca w h X Y) = dy c) (hq : S (zt_ca w h X Y) = true) (hne : ¬ (px (zt_ca w h X Y) = X ∧ py (zt_ca w h X Y) = Y)) : zB w h n dy c S px py ln en true ∧ zwg S px py ln en b S px py ln en true ∧ zcl w h dy c S px py true X Y := by
  have hlt := zt_ca_lt G X Y
  have q1 := B.1 e he hS
  have q2 := B.1 _ hlt hq
  refine ⟨⟨B.1, B.2.1, B.2.2.1, B.2.2.2.1, B.2.2.2.2.1, fun _ => ⟨_, _, X, Y, q2.1, q1.1.on hn hd, q2.2.1, hne⟩⟩, ⟨fun _ hs => ⟨hs, rfl, rfl⟩, fun _ => rfl, fun _ _ => rfl, Nat.le_refl _⟩, fun _ => ⟨hq, Or.inl rfl⟩⟩
/-- the walk is at its end -/
theorem zB_end (G : zG w h n) (hc : c < n) (B : zB w h n dy c S px py ln en b) (hcl : ∀ j, j < en → ∀ X Y : Int, znb (px (ln j)) (py (ln j)) X Y → zcl w h dy c S px py b X Y) : (∀ e, e < n → S e = zccB w h dy c e) ∧ b = zwrB w h dy c ∧ en = zq_ct (zccB w h dy c) n := by
  obtain ⟨b1, b2, b3, b4, b5, b6⟩ := B
  have key : ∀ e, zcc w h dy c e → S e = true := by
    intro e he
    refine he (fun e => S e = true) b2.1 (fun X Y X' Y' k hn hd => ?_)
    have hl := zt_ca_lt G X Y
    obtain ⟨j, j1, j2⟩ := b4 _ hl k
    have p2 := (b1 _ hl k).2.1
    have hn2 : ∃ a b, X' = X + a ∧ Y' = Y + b ∧ znb (px (zt_ca w h X Y)) (py (zt_ca w h X Y)) (px (zt_ca w h X Y) + a) (py (zt_ca w h X Y) + b) := ⟨X' - X, Y' - Y, by omega, by omega, by unfold znb at *; omega⟩
    obtain ⟨a, b', e1, e2, hn3⟩ := hn2
    have e3 := zt_ca_on G p2 a b'
    rw [← e1, ← e2] at e3
    rw [← j2] at hn3 e3
    have z := (hcl j j1 _ _ hn3 (by rw [e3]; exact hd)).1
    rw [e3] at z
    exact z
  have main : ∀ e, e < n → S e = zccB w h dy c e := fun e he => zbool ⟨fun z => zccB_iff.mpr (by
    have q := b1 e he z
    rw [← q.2.1]
    exact q.1.cc G hc), fun z => key e (zccB_iff.mp z)⟩
  refine ⟨main, zbool ⟨fun z => zwrB_iff.mpr (b6 z), fun z => ?_⟩, ?_⟩
  · cases hb : b with
    | true => rfl
    | false =>
      exfalso
      have all : ∀ X Y, zrc w h dy c X Y → S (zt_ca w h X Y) = true ∧ px (zt_ca w h X Y) = X ∧ py (zt_ca w h X Y) = Y := by
        intro X Y hr
        refine hr (fun X Y => S (zt_ca w h X Y) = true ∧ px (zt_ca w h X Y) = X ∧ py (zt_ca w h X Y) = Y) ?_ (fun X Y X' Y' k hn hd => ?_)
        · rw [zt_ca_cell G hc]; exact b2
        · obtain ⟨j, j1, j2⟩ := b4 _ (zt_ca_lt G X Y) k.1
          have z := hcl j j1 X' Y' (by rw [j2, k.2.1, k.2.2]; exact hn) hd
          refine ⟨z.1, ?_⟩
          rcases z.2 with z2 | z2
          · rw [hb] at z2; cases z2
          · exact z2
      obtain ⟨X, Y, X', Y', r1, r2, r3, r4⟩ := zwrB_iff.mp z
      have a1 := all X Y r1
      have a2 := all X' Y' r2
      rw [r3] at a1
      exact r4 ⟨a1.2.1.symm.trans a2.2.1, a1.2.2.symm.trans a2.2.2⟩
  · rw [← b5]
    exact zq_ct_cong main
end ZWALK
