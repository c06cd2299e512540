/-! moves one behind the other, and undone -/
def zt_fj (X Y : Int) : Nat → Nat → Nat
  | 0, _ => 0
  | f + 1, i => if zt_x i 1 2 = X ∧ zt_y i 1 2 = Y then i else zt_fj X Y f (i + 1)
def zt_jt (t u : Nat) : Nat := zt_fj (zt_x u (zt_x t 1 2) (zt_y t 1 2)) (zt_y u (zt_x t 1 2) (zt_y t 1 2)) 8 0
def zt_ut (t : Nat) : Nat := if t = 1 then 3 else if t = 3 then 1 else t
def zt_jn (w h n a b : Nat) : Nat := zt_jt (a / n) (b / n) * n + zt w h n b (a % n)
def zt_un (w h n m : Nat) : Nat := zt_ut (m / n) * n + zt_ca w h (-(zt_x (zt_ut (m / n)) ((m % n % w : Nat) : Int) ((m % n / w : Nat) : Int))) (-(zt_y (zt_ut (m / n)) ((m % n % w : Nat) : Int) ((m % n / w : Nat) : Int)))
/-- alike but for a multiple -/
def zc (w : Nat) (a b : Int) : Prop := ∃ k : Int, a = b + (w : Int) * k
theorem zc.rf {w : Nat} {a : Int} : zc w a a := ⟨0, by simp⟩
theorem zc.of {w : Nat} {a b : Int} (h : a = b) : zc w a b := h ▸ zc.rf
theorem zc.symm {w : Nat} {a b : Int} (h : zc w a b) : zc w b a := by
  obtain ⟨k, hk⟩ := h
  exact ⟨-k, by rw [hk, Int.mul_neg]; omega⟩
theorem zc.trans {w : Nat} {a b c : Int} (h : zc w a b) (h2 : zc w b c) : zc w a c := by
  obtain ⟨k, hk⟩ := h
  obtain ⟨j, hj⟩ := h2
  exact ⟨j + k, by rw [hk, hj, Int.mul_add]; omega⟩
theorem zc.add {w : Nat} {a b c d : Int} (h : zc w a b) (h2 : zc w c d) : zc w (a + c) (b + d) := by
  obtain ⟨k, hk⟩ := h
  obtain ⟨j, hj⟩ := h2
  exact ⟨k + j, by rw [hk, hj, Int.mul_add]; omega⟩
theorem zc.neg {w : Nat} {a b : Int} (h : zc w a b) : zc w (-a) (-b) := by
  obtain ⟨k, hk⟩ := h
  exact ⟨-k, by rw [hk, Int.mul_neg]; omega⟩
theorem zc.mod {w : Nat} {a b : Int} (h : zc w a b) : a % (w : Int) = b % (w : Int) := by
  obtain ⟨k, hk⟩ := h
  rw [hk, Int.add_mul_emod_self_left]
theorem zc.emod {w : Nat} (a : Int) : zc w (a % (w : Int)) a := ⟨-(a / (w : Int)), by
  have := Int.mul_ediv_add_emod a w
  rw [Int.mul_neg]; omega⟩
theorem zc.mul {w : Nat} {a b : Int} (h : zc w a b) (c : Int) : zc w (c * a) (c * b) := by
  obtain ⟨k, hk⟩ := h
  exact ⟨c * k, by rw [hk, Int.mul_add, ← Int.mul_assoc, ← Int.mul_assoc, Int.mul_comm c (w : Int)]⟩
section ZGRP
variable {w h n : Nat}
theorem zt_ca_congr {X Y X' Y' : Int} (h1 : zc w X X') (h2 : zc h Y Y') : zt_ca w h X Y = zt_ca w h X' Y' := by
  unfold zt_ca
  rw [h1.mod, h2.mod]
theorem zt_ca_x (G : zG w h n) (X Y : Int) : zc w ((zt_ca w h X Y % w : Nat) : Int) X := by
  obtain ⟨h1, h2, h3, h4, h5, h6, h7⟩ := G
  have a1 := Int.emod_nonneg X (show (w : Int) ≠ 0 by omega)
  have a2 := Int.emod_lt_of_pos X (show (0 : Int) < w by omega)
  have e : zt_ca w h X Y % w = (X % (w : Int)).toNat := by
    unfold zt_ca
    rw [Nat.add_comm, Nat.add_mul_mod_self_right, Nat.mod_eq_of_lt (by omega)]
  rw [e, Int.toNat_of_nonneg a1]
  exact zc.emod X
theorem zt_ca_y (G : zG w h n) (X Y : Int) : zc h ((zt_ca w h X Y / w : Nat) : Int) Y := by
  obtain ⟨h1, h2, h3, h4, h5, h6, h7⟩ := G
  have a1 := Int.emod_nonneg X (show (w : Int) ≠ 0 by omega)
  have a2 := Int.emod_lt_of_pos X (show (0 : Int) < w by omega)
  have a3 := Int.emod_nonneg Y (show (h : Int) ≠ 0 by omega)
  have e : zt_ca w h X Y / w = (Y % (h : Int)).toNat := by
    unfold zt_ca
    rw [Nat.add_comm, Nat.add_mul_div_right _ _ (by omega), Nat.div_eq_of_lt (by omega), Nat.zero_add]
  rw [e, Int.toNat_of_nonneg a3]
  exact zc.emod Y
theorem zt_ca_cell (G : zG w h n) {c : Nat} (hc : c < n) : zt_ca w h ((c % w : Nat) : Int) ((c / w : Nat) : Int) = c := by
  have hr := zt_row G hc
  obtain ⟨h1, h2, h3, h4, h5, h6, h7⟩ := G
  have hm := Nat.mod_lt c h1
  unfold zt_ca
  rw [Int.emod_eq_of_lt (Int.natCast_nonneg _) (by omega), Int.emod_eq_of_lt (Int.natCast_nonneg _) (by omega), Int.toNat_natCast, Int.toNat_natCast, Nat.mul_comm]
  exact Nat.div_add_mod c w
theorem zt_x_add (t : Nat) (x y x' y' : Int) : zt_x t (x + x') (y + y') = zt_x t x y + zt_x t x' y' := by
  unfold zt_x; split <;> omega
theorem zt_y_add (t : Nat) (x y x' y' : Int) : zt_y t (x + x') (y + y') = zt_y t x y + zt_y t x' y' := by
  unfold zt_y; split <;> omega
theorem zt_x_neg (t : Nat) (x y : Int) : zt_x t (-x) (-y) = -(zt_x t x y) := by
  unfold zt_x; split <;> omega
theorem zt_y_neg (t : Nat) (x y : Int) : zt_y t (-x) (-y) = -(zt_y t x y) := by
  unfold zt_y; split <;> omega
theorem zt_8 {P : Nat → Prop} (h0 : P 0) (h1 : P 1) (h2 : P 2) (h3 : P 3) (h4 : P 4) (h5 : P 5) (h6 : P 6) (h7 : P 7) (t : Nat) (ht : t < 8) : P t := by
  rcases (show t = 0 ∨ t = 1 ∨ t = 2 ∨ t = 3 ∨ t = 4 ∨ t = 5 ∨ t = 6 ∨ t = 7 by omega) with rfl | rfl | rfl | rfl | rfl | rfl | rfl | rfl <;> assumption
theorem zt_x_congr {t : Nat} (ht : zt_trn w h t = true) {x y x' y' : Int} (hx : zc w x x') (hy : zc h y y') : zc w (zt_x t x y) (zt_x t x' y') := by
  unfold zt_trn at ht
  simp at ht
  unfold zt_x
  by_cases e : w = h
  · subst e
    split <;> first | exact hx | exact hy | exact hx.neg | exact hy.neg
  · rcases ht with (((q | q) | q) | q) | q
    · exact absurd q e
    all_goals (subst q; first | exact hx | exact hx.neg)
theorem zt_y_congr {t : Nat} (ht : zt_trn w h t = true) {x y x' y' : Int} (hx : zc w x x') (hy : zc h y y') : zc h (zt_y t x y) (zt_y t x' y') := by
  unfold zt_trn at ht
  simp at ht
  unfold zt_y
  by_cases e : w = h
  · subst e
    split <;> first | exact hx | exact hy | exact hx.neg | exact hy.neg
  · rcases ht with (((q | q) | q) | q) | q
    · exact absurd q e
    all_goals (subst q; first | exact hy | exact hy.neg)
theorem zt_jt_lt : ∀ t, t < 8 → ∀ u, u < 8 → zt_jt t u < 8 := by decide +kernel
theorem zt_jt_ut : ∀ t, t < 8 → zt_jt t (zt_ut t) = 0 ∧ zt_jt (zt_ut t) t = 0 ∧ zt_ut t < 8 := by decide +kernel
theorem zt_jt_one : ∀ t, t < 8 → ∀ u, u < 8 → zt_jt t u = 0 → u = zt_ut t := by decide +kernel
theorem zt_jt_4 : ∀ t, t < 8 → zt_jt (zt_jt (zt_jt t t) t) t = 0 := by decide +kernel
theorem zt_jt_0 : ∀ t, t < 8 → zt_jt t 0 = t ∧ zt_jt 0 t = t := by decide +kernel
theorem zt_jt_as : ∀ t, t < 8 → ∀ u, u < 8 → ∀ v, v < 8 → zt_jt (zt_jt t u) v = zt_jt t (zt_jt u v) := by decide +kernel
theorem zt_jt_trn' : ∀ t, t < 8 → ∀ u, u < 8 → zt_trn 1 2 t = true → zt_trn 1 2 u = true → zt_trn 1 2 (zt_jt t u) = true := by decide +kernel
theorem zt_ut_trn' : ∀ t, t < 8 → zt_trn 1 2 t = true → zt_trn 1 2 (zt_ut t) = true := by decide +kernel
theorem zt_trn_ne (e : ¬ w = h) (t : Nat) : zt_trn w h t = zt_trn 1 2 t := by simp [zt_trn, e]
theorem zt_trn_eq (e : w = h) (t : Nat) : zt_trn w h t = true := by simp [zt_trn, e]
theorem zt_jt_trn {t u : Nat} (ht : t < 8) (hu : u < 8) (h1 : zt_trn w h t = true) (h2 : zt_trn w h u = true) : zt_trn w h (zt_jt t u) = true := by
  by_cases e : w = h
  · exact zt_trn_eq e _
  · rw [zt_trn_ne e] at h1 h2 ⊢
    exact zt_jt_trn' t ht u hu h1 h2
theorem zt_ut_trn {t : Nat} (ht : t < 8) (h1 : zt_trn w h t = true) : zt_trn w h (zt_ut t) = true := by
  by_cases e : w = h
  · exact zt_trn_eq e _
  · rw [zt_trn_ne e] at h1 ⊢
    exact zt_ut_trn' t ht h1
theorem zt_jt_x : ∀ t, t < 8 → ∀ u, u < 8 → ∀ x y : Int, zt_x (zt_jt t u) x y = zt_x u (zt_x t x y) (zt_y t x y) := by
  refine zt_8 ?_ ?_ ?_ ?_ ?_ ?_ ?_ ?_ <;> refine zt_8 ?_ ?_ ?_ ?_ ?_ ?_ ?_ ?_ <;> intro x y <;> first | rfl | exact (Int.neg_neg _).symm | exact Int.neg_neg _
theorem zt_jt_y : ∀ t, t < 8 → ∀ u, u < 8 → ∀ x y : Int, zt_y (zt_jt t u) x y = zt_y u (zt_x t x y) (zt_y t x y) := by
  refine zt_8 ?_ ?_ ?_ ?_ ?_ ?_ ?_ ?_ <;> refine zt_8 ?_ ?_ ?_ ?_ ?_ ?_ ?_ ?_ <;> intro x y <;> first | rfl | exact (Int.neg_neg _).symm | exact Int.neg_neg _
theorem zt_mv_iff {m : Nat} : zt_mv w h n m = true ↔ m < 8 * n ∧ zt_trn w h (m / n) = true := by simp [zt_mv]
theorem zt_jn_div (G : zG w h n) (a b : Nat) : zt_jn w h n a b / n = zt_jt (a / n) (b / n) ∧ zt_jn w h n a b % n = zt w h n b (a % n) := by
  have hl := zt_lt G b (a % n)
  obtain ⟨h1, h2, h3, h4, h5, h6, h7⟩ := G
  unfold zt_jn
  constructor
  · rw [Nat.add_comm, Nat.add_mul_div_right _ _ (by omega), Nat.div_eq_of_lt hl, Nat.zero_add]
  · rw [Nat.add_comm, Nat.add_mul_mod_self_right, Nat.mod_eq_of_lt hl]
theorem zt_un_div (G : zG w h n) (m : Nat) : zt_un w h n m / n = zt_ut (m / n) ∧ zt_un w h n m % n = zt_ca w h (-(zt_x (zt_ut (m / n)) ((m % n % w : Nat) : Int) ((m % n / w : Nat) : Int))) (-(zt_y (zt_ut (m / n)) ((m % n % w : Nat) : Int) ((m % n / w : Nat) : Int))) := by
  have hl := zt_ca_lt G (-(zt_x (zt_ut (m / n)) ((m % n % w : Nat) : Int) ((m % n / w : Nat) : Int))) (-(zt_y (zt_ut (m / n)) ((m % n % w : Nat) : Int) ((m % n / w : Nat) : Int)))
  obtain ⟨h1, h2, h3, h4, h5, h6, h7⟩ := G
  unfold zt_un
  constructor
  · rw [Nat.add_comm, Nat.add_mul_div_right _ _ (by omega), Nat.div_eq_of_lt hl, Nat.zero_add]
  · rw [Nat.add_comm, Nat.add_mul_mod_self_right, Nat.mod_eq_of_lt hl]
theorem zt_of_div (G : zG w h n) {m t : Nat} (h1 : m / n = t) (ht : t < 8) : m < 8 * n := by
  obtain ⟨a1, a2, a3, a4, a5, h6, h7⟩ := G
  have := Nat.div_add_mod m n
  have := Nat.mod_lt m h6
  have : n * (m / n) ≤ n * 7 := Nat.mul_le_mul_left n (by omega)
  omega
theorem zt_jn_mv (G : zG w h n) {a b : Nat} (ha : zt_mv w h n a = true) (hb : zt_mv w h n b = true) : zt_mv w h n (zt_jn w h n a b) = true := by
  rw [zt_mv_iff] at *
  have e := (zt_jn_div G a b).1
  exact ⟨zt_of_div G e (zt_jt_lt _ (zt_div ha.1) _ (zt_div hb.1)), by rw [e]; exact zt_jt_trn (zt_div ha.1) (zt_div hb.1) ha.2 hb.2⟩
theorem zt_un_mv (G : zG w h n) {m : Nat} (hm : zt_mv w h n m = true) : zt_mv w h n (zt_un w h n m) = true := by
  rw [zt_mv_iff] at *
  have e := (zt_un_div G m).1
  exact ⟨zt_of_div G e (zt_jt_ut _ (zt_div hm.1)).2.2, by rw [e]; exact zt_ut_trn (zt_div hm.1) hm.2⟩
theorem zt_0 (G : zG w h n) {c : Nat} (hc : c < n) : zt w h n 0 c = c := by
  have := zt_ca_cell G hc
  unfold zt
  simp only [Nat.zero_div, Nat.zero_mod]
  simpa [zt_x, zt_y] using this
/-- one behind the other -/
theorem zt_comp (G : zG w h n) {a b c : Nat} (ha : a < 8 * n) (hb : zt_mv w h n b = true) : zt w h n (zt_jn w h n a b) c = zt w h n b (zt w h n a c) := by
  rw [zt_mv_iff] at hb
  obtain ⟨e1, e2⟩ := zt_jn_div G a b
  have hd : ∀ X Y : Int, zt w h n b (zt_ca w h X Y) = zt_ca w h (zt_x (b / n) X Y + ((b % n % w : Nat) : Int)) (zt_y (b / n) X Y + ((b % n / w : Nat) : Int)) := fun X Y =>
    zt_ca_congr ((zt_x_congr hb.2 (zt_ca_x G X Y) (zt_ca_y G X Y)).add zc.rf) ((zt_y_congr hb.2 (zt_ca_x G X Y) (zt_ca_y G X Y)).add zc.rf)
  have hr : zt w h n b (zt w h n a c) = _ := hd _ _
  rw [hr]
  unfold zt
  rw [e1, e2]
  unfold zt
  rw [zt_jt_x _ (zt_div ha) _ (zt_div hb.1), zt_jt_y _ (zt_div ha) _ (zt_div hb.1), zt_x_add, zt_y_add]
  refine zt_ca_congr ?_ ?_
  · refine ((zc.rf).add (zt_ca_x G _ _)).trans (zc.of ?_)
    omega
  · refine ((zc.rf).add (zt_ca_y G _ _)).trans (zc.of ?_)
    omega
theorem zt_ca_00 (G : zG w h n) : zt_ca w h 0 0 = 0 := by
  unfold zt_ca
  simp
theorem zt_jn_un (G : zG w h n) {m : Nat} (hm : m < 8 * n) : zt_jn w h n m (zt_un w h n m) = 0 := by
  obtain ⟨e1, e2⟩ := zt_un_div G m
  unfold zt_jn zt
  rw [e1, e2, (zt_jt_ut _ (zt_div hm)).1, Nat.zero_mul, Nat.zero_add]
  refine (zt_ca_congr (X' := 0) (Y' := 0) ?_ ?_).trans (zt_ca_00 G)
  · exact ((zc.rf).add (zt_ca_x G _ _)).trans (zc.of (by omega))
  · exact ((zc.rf).add (zt_ca_y G _ _)).trans (zc.of (by omega))
theorem zt_un_jn (G : zG w h n) {m : Nat} (hm : zt_mv w h n m = true) : zt_jn w h n (zt_un w h n m) m = 0 := by
  rw [zt_mv_iff] at hm
  obtain ⟨e1, e2⟩ := zt_un_div G m
  have h8 := zt_div hm.1
  have hu := zt_jt_ut _ h8
  unfold zt_jn
  rw [e1, e2, hu.2.1, Nat.zero_mul, Nat.zero_add]
  unfold zt
  have k1 := zt_jt_x _ hu.2.2 _ h8 ((m % n % w : Nat) : Int) ((m % n / w : Nat) : Int)
  have k2 := zt_jt_y _ hu.2.2 _ h8 ((m % n % w : Nat) : Int) ((m % n / w : Nat) : Int)
  rw [hu.2.1] at k1 k2
  refine (zt_ca_congr (X' := 0) (Y' := 0) ?_ ?_).trans (zt_ca_00 G)
  · refine ((zt_x_congr hm.2 (zt_ca_x G _ _) (zt_ca_y G _ _)).add zc.rf).trans (zc.of ?_)
    rw [zt_x_neg, ← k1]
    simp only [zt_x]
    omega
  · refine ((zt_y_congr hm.2 (zt_ca_x G _ _) (zt_ca_y G _ _)).add zc.rf).trans (zc.of ?_)
    rw [zt_y_neg, ← k2]
    simp only [zt_y]
    omega
theorem zt_un_one (G : zG w h n) {m k : Nat} (hm : m < 8 * n) (hk : k < 8 * n) (e : zt_jn w h n m k = 0) : k = zt_un w h n m := by
  obtain ⟨e1, e2⟩ := zt_jn_div G m k
  rw [e, Nat.zero_div] at e1
  rw [e, Nat.zero_mod] at e2
  have hu := zt_jt_one _ (zt_div hm) _ (zt_div hk) e1.symm
  have hkn := Nat.mod_lt k (show 0 < n from G.2.2.2.2.2.1)
  have q := zt_ca_cell G hkn
  have x1 : zc w (zt_x (k / n) ((m % n % w : Nat) : Int) ((m % n / w : Nat) : Int) + ((k % n % w : Nat) : Int)) 0 := by
    have := zt_ca_x G (zt_x (k / n) ((m % n % w : Nat) : Int) ((m % n / w : Nat) : Int) + ((k % n % w : Nat) : Int)) (zt_y (k / n) ((m % n % w : Nat) : Int) ((m % n / w : Nat) : Int) + ((k % n / w : Nat) : Int))
    have e3 : zt_ca w h (zt_x (k / n) ((m % n % w : Nat) : Int) ((m % n / w : Nat) : Int) + ((k % n % w : Nat) : Int)) (zt_y (k / n) ((m % n % w : Nat) : Int) ((m % n / w : Nat) : Int) + ((k % n / w : Nat) : Int)) = 0 := e2.symm
    rw [e3, Nat.zero_mod] at this
    exact this.symm
  have y1 : zc h (zt_y (k / n) ((m % n % w : Nat) : Int) ((m % n / w : Nat) : Int) + ((k % n / w : Nat) : Int)) 0 := by
    have := zt_ca_y G (zt_x (k / n) ((m % n % w : Nat) : Int) ((m % n / w : Nat) : Int) + ((k % n % w : Nat) : Int)) (zt_y (k / n) ((m % n % w : Nat) : Int) ((m % n / w : Nat) : Int) + ((k % n / w : Nat) : Int))
    have e3 : zt_ca w h (zt_x (k / n) ((m % n % w : Nat) : Int) ((m % n / w : Nat) : Int) + ((k % n % w : Nat) : Int)) (zt_y (k / n) ((m % n % w : Nat) : Int) ((m % n / w : Nat) : Int) + ((k % n / w : Nat) : Int)) = 0 := e2.symm
    rw [e3, Nat.zero_div] at this
    exact this.symm
  rw [hu] at x1 y1
  have q2 : k % n = zt_ca w h (-(zt_x (zt_ut (m / n)) ((m % n % w : Nat) : Int) ((m % n / w : Nat) : Int))) (-(zt_y (zt_ut (m / n)) ((m % n % w : Nat) : Int) ((m % n / w : Nat) : Int))) := by
    rw [← q]
    refine zt_ca_congr ?_ ?_
    · have z := x1.add (zc.rf (w := w) (a := -(zt_x (zt_ut (m / n)) ((m % n % w : Nat) : Int) ((m % n / w : Nat) : Int))))
      refine (zc.of ?_).trans (z.trans (zc.of ?_)) <;> omega
    · have z := y1.add (zc.rf (w := h) (a := -(zt_y (zt_ut (m / n)) ((m % n % w : Nat) : Int) ((m % n / w : Nat) : Int))))
      refine (zc.of ?_).trans (z.trans (zc.of ?_)) <;> omega
  have := Nat.div_add_mod k n
  unfold zt_un
  rw [← q2, ← hu, Nat.mul_comm]
  exact this.symm
/-- it leads back -/
theorem zt_back (G : zG w h n) {m c : Nat} (hm : zt_mv w h n m = true) (hc : c < n) : zt w h n (zt_un w h n m) (zt w h n m c) = c ∧ zt w h n m (zt w h n (zt_un w h n m) c) = c := by
  have hu := zt_un_mv G hm
  have h1 := zt_mv_iff.mp hm
  have h2 := zt_mv_iff.mp hu
  constructor
  · rw [← zt_comp G h1.1 hu, zt_jn_un G h1.1, zt_0 G hc]
  · rw [← zt_comp G h2.1 hm, zt_un_jn G hm, zt_0 G hc]
theorem zt_inj (G : zG w h n) {m c d : Nat} (hm : zt_mv w h n m = true) (hc : c < n) (hd : d < n) (e : zt w h n m c = zt w h n m d) : c = d := by
  have h1 := (zt_back G hm hc).1
  have h2 := (zt_back G hm hd).1
  rw [e] at h1
  exact h1.symm.trans h2
/-! a move again and again -/
def zt_it (w h n m : Nat) : Nat → Nat → Nat
  | 0, c => c
  | k + 1, c => zt w h n m (zt_it w h n m k c)
theorem zt_it_lt (G : zG w h n) (m : Nat) {c : Nat} (hc : c < n) : ∀ k, zt_it w h n m k c < n
  | 0 => hc
  | _ + 1 => zt_lt G _ _
theorem zt_it_add (m c : Nat) : ∀ j k, zt_it w h n m (j + k) c = zt_it w h n m k (zt_it w h n m j c)
  | _, 0 => rfl
  | j, k + 1 => by
    show zt w h n m (zt_it w h n m (j + k) c) = _
    rw [zt_it_add m c j k]
    rfl
def zt_pw (w h n m : Nat) : Nat → Nat
  | 0 => m
  | k + 1 => zt_jn w h n (zt_pw w h n m k) m
theorem zt_pw_mv (G : zG w h n) {m : Nat} (hm : zt_mv w h n m = true) : ∀ k, zt_mv w h n (zt_pw w h n m k) = true
  | 0 => hm
  | k + 1 => zt_jn_mv G (zt_pw_mv G hm k) hm
theorem zt_pw_it (G : zG w h n) {m : Nat} (hm : zt_mv w h n m = true) (c : Nat) : ∀ k, zt w h n (zt_pw w h n m k) c = zt_it w h n m (k + 1) c
  | 0 => rfl
  | k + 1 => by
    show zt w h n (zt_jn w h n (zt_pw w h n m k) m) c = zt w h n m (zt_it w h n m (k + 1) c)
    rw [zt_comp G (zt_mv_iff.mp (zt_pw_mv G hm k)).1 hm, zt_pw_it G hm c k]
theorem zt_pw_turn (G : zG w h n) {m : Nat} (hm : zt_mv w h n m = true) : zt_pw w h n m 3 / n = 0 := by
  have h8 := zt_div (zt_mv_iff.mp hm).1
  show zt_jn w h n (zt_jn w h n (zt_jn w h n m m) m) m / n = 0
  rw [(zt_jn_div G _ _).1, (zt_jn_div G _ _).1, (zt_jn_div G _ _).1]
  exact zt_jt_4 _ h8
theorem zt_shift (G : zG w h n) {q c : Nat} (hq : q / n = 0) : zc w ((zt w h n q c % w : Nat) : Int) (((c % w : Nat) : Int) + ((q % n % w : Nat) : Int)) ∧ zc h ((zt w h n q c / w : Nat) : Int) (((c / w : Nat) : Int) + ((q % n / w : Nat) : Int)) := by
  have e : zt w h n q c = zt_ca w h (((c % w : Nat) : Int) + ((q % n % w : Nat) : Int)) (((c / w : Nat) : Int) + ((q % n / w : Nat) : Int)) := by
    unfold zt
    rw [hq]
    rfl
  rw [e]
  exact ⟨zt_ca_x G _ _, zt_ca_y G _ _⟩
theorem zt_60 {w : Nat} (h1 : 1 ≤ w) (h2 : w ≤ 6) (a : Int) : zc w ((60 : Int) * a) 0 := by
  rcases (show w = 1 ∨ w = 2 ∨ w = 3 ∨ w = 4 ∨ w = 5 ∨ w = 6 by omega) with rfl | rfl | rfl | rfl | rfl | rfl
  · exact ⟨60 * a, by omega⟩
  · exact ⟨30 * a, by omega⟩
  · exact ⟨20 * a, by omega⟩
  · exact ⟨15 * a, by omega⟩
  · exact ⟨12 * a, by omega⟩
  · exact ⟨10 * a, by omega⟩
theorem zt_240 (G : zG w h n) {m : Nat} (hm : zt_mv w h n m = true) {c : Nat} (hc : c < n) : zt_it w h n m 240 c = c := by
  have hq := zt_pw_turn G hm
  have h4 : ∀ d, zt_it w h n m 4 d = zt w h n (zt_pw w h n m 3) d := fun d => (zt_pw_it G hm d 3).symm
  generalize zt_pw w h n m 3 = q at hq h4
  have key : ∀ j : Nat, zc w ((zt_it w h n m (4 * j) c % w : Nat) : Int) (((c % w : Nat) : Int) + (j : Int) * ((q % n % w : Nat) : Int)) ∧ zc h ((zt_it w h n m (4 * j) c / w : Nat) : Int) (((c / w : Nat) : Int) + (j : Int) * ((q % n / w : Nat) : Int)) := by
    intro j
    induction j with
    | zero => exact ⟨zc.of (by simp [zt_it]), zc.of (by simp [zt_it])⟩
    | succ j ih =>
      rw [Nat.mul_succ, zt_it_add, h4]
      obtain ⟨s1, s2⟩ := zt_shift G (c := zt_it w h n m (4 * j) c) hq
      refine ⟨s1.trans ((ih.1.add zc.rf).trans (zc.of ?_)), s2.trans ((ih.2.add zc.rf).trans (zc.of ?_))⟩
      · rw [Int.natCast_add, Int.add_mul]; omega
      · rw [Int.natCast_add, Int.add_mul]; omega
  obtain ⟨k1, k2⟩ := key 60
  have hl := zt_it_lt G m hc (4 * 60)
  have e1 := zt_ca_cell G hl
  have e2 := zt_ca_cell G hc
  show zt_it w h n m (4 * 60) c = c
  rw [← e1]
  refine (zt_ca_congr ?_ ?_).trans e2
  · refine k1.trans ((zc.rf.add (zt_60 G.1 G.2.1 _)).trans (zc.of (by omega)))
  · refine k2.trans ((zc.rf.add (zt_60 G.2.2.1 G.2.2.2.1 _)).trans (zc.of (by omega)))
end ZGRP
