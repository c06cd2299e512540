/-! numbers of the machine as whole numbers -/
abbrev zi (z : Int) : Int32 := Int32.ofInt z
theorem zi_rng (x : Int32) : -2147483648 ≤ x.toInt ∧ x.toInt < 2147483648 := by
  have h1 := Int32.le_toInt x
  have h2 := Int32.toInt_lt x
  omega
theorem zi_bmod {z : Int} (h1 : -2147483648 ≤ z) (h2 : z < 2147483648) : z.bmod (2 ^ 32) = z := by
  rw [Int.bmod_eq_of_le (by omega) (by omega)]
theorem zi_toInt {z : Int} (h1 : -2147483648 ≤ z) (h2 : z < 2147483648) : (zi z).toInt = z := by
  rw [Int32.toInt_ofInt, zi_bmod h1 h2]
theorem zi_nI (n : Nat) : zi (n : Int) = nI n := by
  apply Int32.toInt_inj.mp
  rw [Int32.toInt_ofInt]
  show _ = (Int32.ofNat n).toInt
  rw [Int32.toInt_ofNat']
theorem zi_add (a b : Int) : zi a + zi b = zi (a + b) := (Int32.ofInt_add a b).symm
theorem zi_sub (a b : Int) : zi a - zi b = zi (a - b) := (Int32.ofInt_sub a b).symm
theorem zi_mul (a b : Int) : zi a * zi b = zi (a * b) := (Int32.ofInt_mul a b).symm
theorem zi_neg (a : Int) : -(zi a) = zi (-a) := (Int32.ofInt_neg a).symm
theorem zi_le {a b : Int} (h1 : -2147483648 ≤ a) (h2 : a < 2147483648) (h3 : -2147483648 ≤ b) (h4 : b < 2147483648) : zi a ≤ zi b ↔ a ≤ b := by
  rw [Int32.le_iff_toInt_le, zi_toInt h1 h2, zi_toInt h3 h4]
theorem zi_lt {a b : Int} (h1 : -2147483648 ≤ a) (h2 : a < 2147483648) (h3 : -2147483648 ≤ b) (h4 : b < 2147483648) : zi a < zi b ↔ a < b := by
  rw [Int32.lt_iff_toInt_lt, zi_toInt h1 h2, zi_toInt h3 h4]
theorem zi_eq {a b : Int} (h1 : -2147483648 ≤ a) (h2 : a < 2147483648) (h3 : -2147483648 ≤ b) (h4 : b < 2147483648) : zi a = zi b ↔ a = b := by
  rw [← Int32.toInt_inj, zi_toInt h1 h2, zi_toInt h3 h4]
/-- the rest of a division, as the machine has it -/
theorem zi_rem {a : Int} {d : Nat} (h1 : -2147483648 ≤ a) (h2 : a < 2147483648) (h0 : 0 < d) (hd : d < 2147483648) : zi a - zi a / nI d * nI d = zi (Int.tmod a d) := by
  have hq : zi a / nI d = zi (Int.tdiv a d) := by
    apply Int32.toInt_inj.mp
    rw [Int32.toInt_div, zi_toInt h1 h2, nI_toInt (by omega), Int32.toInt_ofInt]
  rw [hq, ← zi_nI, zi_mul, zi_sub, Int.tmod_def]
  congr 1
  rw [Int.mul_comm]
/-- ... and brought up into 0 .. d - 1 -/
theorem zi_up {a : Int} {d : Nat} (h0 : 0 < d) : (if 0 ≤ Int.tmod a d then Int.tmod a d else Int.tmod a d + d) = a % d := by
  have h3 := Int.tmod_eq_emod (a := a) (b := (d : Int))
  have h4 := Int.emod_nonneg a (show (d : Int) ≠ 0 by omega)
  have h5 := Int.emod_lt_of_pos a (show (0 : Int) < d by omega)
  split at h3
  · rw [h3]; simp [h4]
  · rw [h3]
    have h6 : ((d : Int)).natAbs = d := by omega
    split
    · omega
    · omega
theorem zn_ne {x y : Int32} {A B : Prop} (a b : Nat) (g : a ≠ b → A) (f : a = b → B) (hx : x = nI a := by rfl) (hy : y = nI b := by rfl) (ha : a < 2 ^ 31 := by omega) (hb : b < 2 ^ 31 := by omega) : (¬ x = y → A) ∧ (x = y → B) := by
  subst hx hy
  rw [nI_eq ha hb]
  exact ⟨g, f⟩
/-- 1 or 0 -/
abbrev zb (b : Bool) : Int32 := if b then 1 else 0
theorem zb_01 (b : Bool) : zb b = 0 ∨ zb b = 1 := by cases b <;> simp [zb]
theorem zb_eq0 {A B : Prop} (b : Bool) (f : b = false → A) (g : b = true → B) : (zb b = 0 → A) ∧ (¬ zb b = 0 → B) := by
  cases b
  · exact ⟨fun _ => f rfl, fun h => absurd rfl h⟩
  · exact ⟨fun h => absurd h (by decide), fun _ => g rfl⟩
theorem zb_ne0 {A B : Prop} (b : Bool) (g : b = true → A) (f : b = false → B) : (¬ zb b = 0 → A) ∧ (zb b = 0 → B) := ⟨(zb_eq0 b f g).2, (zb_eq0 b f g).1⟩
/-- counting, and all, and some -/
def zq_ct (p : Nat → Bool) : Nat → Nat
  | 0 => 0
  | n + 1 => zq_ct p n + (if p n then 1 else 0)
def zq_all (p : Nat → Bool) : Nat → Bool
  | 0 => true
  | n + 1 => zq_all p n && p n
def zq_any (p : Nat → Bool) : Nat → Bool
  | 0 => false
  | n + 1 => zq_any p n || p n
theorem zq_all_iff {p : Nat → Bool} : ∀ {n : Nat}, zq_all p n = true ↔ ∀ i, i < n → p i = true
  | 0 => ⟨fun _ i h => absurd h (Nat.not_lt_zero i), fun _ => rfl⟩
  | n + 1 => by
    rw [zq_all, Bool.and_eq_true, zq_all_iff]
    constructor
    · intro h i hi
      rcases Nat.lt_succ_iff_lt_or_eq.mp hi with q | q
      · exact h.1 i q
      · rw [q]; exact h.2
    · intro h
      exact ⟨fun i hi => h i (by omega), h n (by omega)⟩
theorem zq_any_iff {p : Nat → Bool} : ∀ {n : Nat}, zq_any p n = true ↔ ∃ i, i < n ∧ p i = true
  | 0 => ⟨fun h => by simp [zq_any] at h, fun ⟨i, h, _⟩ => absurd h (Nat.not_lt_zero i)⟩
  | n + 1 => by
    rw [zq_any, Bool.or_eq_true, zq_any_iff]
    constructor
    · rintro (⟨i, h1, h2⟩ | h)
      · exact ⟨i, by omega, h2⟩
      · exact ⟨n, by omega, h⟩
    · rintro ⟨i, h1, h2⟩
      rcases Nat.lt_succ_iff_lt_or_eq.mp h1 with q | q
      · exact Or.inl ⟨i, q, h2⟩
      · exact Or.inr (q ▸ h2)
theorem zq_ct_le (p : Nat → Bool) : ∀ n, zq_ct p n ≤ n
  | 0 => Nat.le_refl _
  | n + 1 => by
    have h := zq_ct_le p n
    rw [zq_ct]
    split <;> omega
theorem zq_ct_cong {p q : Nat → Bool} : ∀ {n : Nat}, (∀ k, k < n → p k = q k) → zq_ct p n = zq_ct q n
  | 0, _ => rfl
  | n + 1, h => by rw [zq_ct, zq_ct, zq_ct_cong (fun k hk => h k (by omega)), h n (by omega)]
theorem zq_all_cong {p q : Nat → Bool} : ∀ {n : Nat}, (∀ k, k < n → p k = q k) → zq_all p n = zq_all q n
  | 0, _ => rfl
  | n + 1, h => by rw [zq_all, zq_all, zq_all_cong (fun k hk => h k (by omega)), h n (by omega)]
theorem zq_any_cong {p q : Nat → Bool} : ∀ {n : Nat}, (∀ k, k < n → p k = q k) → zq_any p n = zq_any q n
  | 0, _ => rfl
  | n + 1, h => by rw [zq_any, zq_any, zq_any_cong (fun k hk => h k (by omega)), h n (by omega)]
theorem zq_ct_pos {p : Nat → Bool} : ∀ {n : Nat}, 0 < zq_ct p n ↔ ∃ k, k < n ∧ p k = true
  | 0 => ⟨fun h => absurd h (Nat.lt_irrefl 0), fun ⟨k, h, _⟩ => absurd h (Nat.not_lt_zero k)⟩
  | n + 1 => by
    have ih := zq_ct_pos (p := p) (n := n)
    rw [zq_ct]
    constructor
    · intro h
      by_cases hp : p n = true
      · exact ⟨n, by omega, hp⟩
      · rw [if_neg hp] at h
        obtain ⟨k, h1, h2⟩ := ih.mp (by omega)
        exact ⟨k, by omega, h2⟩
    · rintro ⟨k, h1, h2⟩
      rcases Nat.lt_succ_iff_lt_or_eq.mp h1 with q | q
      · have := ih.mpr ⟨k, q, h2⟩
        omega
      · rw [← q, if_pos h2]; omega
theorem zq_all_le {p : Nat → Bool} {m n : Nat} (h : m ≤ n) (ha : zq_all p n = true) : zq_all p m = true := zq_all_iff.mpr (fun i hi => zq_all_iff.mp ha i (by omega))
theorem zq_no {p : Nat → Bool} {m n : Nat} (h : m < n) (hp : p m = false) : zq_all p n = false := by
  cases ha : zq_all p n with
  | false => rfl
  | true => rw [zq_all_iff.mp ha m h] at hp; cases hp
theorem zq_yes {p : Nat → Bool} {m n : Nat} (h : m < n) (hp : p m = true) : zq_any p n = true := zq_any_iff.mpr ⟨m, h, hp⟩
/-- reading behind a writing -/
theorem zs_self (mem : zm_Mem) (k i : Nat) (x : Int32) : zm_st mem k i x k i = x := by simp [zm_st]
theorem zs_cell {mem : zm_Mem} {k i q : Nat} {x : Int32} (h : q ≠ k) : zm_st mem k i x q = mem q := by funext j; simp [zm_st, h]
theorem zs_slot {mem : zm_Mem} {k i q j : Nat} {x : Int32} (h : j ≠ i) : zm_st mem k i x q j = mem q j := by simp [zm_st, h]
