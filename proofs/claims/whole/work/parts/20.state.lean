/-! THE STATE, of both: w by h, n cells, k colours, what cells have, told moves, rings -/
/-- r is the least cell of each ring -/
def zIv (w h n t : Nat) (mv : Nat → Nat) (f : Nat → Nat) : Prop := ∀ c, c < n → ∀ j, j < t → f (zt w h n (mv j) c) = f c
def zIR (w h n t : Nat) (mv r : Nat → Nat) : Prop := (∀ c, c < n → r c ≤ c) ∧ zIv w h n t mv r ∧ ∀ f : Nat → Nat, zIv w h n t mv f → ∀ c, c < n → f (r c) = f c
theorem zIR.one {w h n t : Nat} {mv r r' : Nat → Nat} (h1 : zIR w h n t mv r) (h2 : zIR w h n t mv r') {c : Nat} (hc : c < n) : r c = r' c := by
  have a1 := h1.1 c hc
  have a2 := h2.1 c hc
  have b1 := h1.2.2 r' h2.2.1 c hc
  have b2 := h2.2.2 r h1.2.1 c hc
  have c1 := h2.1 (r c) (by omega)
  have c2 := h1.1 (r' c) (by omega)
  omega
theorem zIR.idem {w h n t : Nat} {mv r : Nat → Nat} (h1 : zIR w h n t mv r) {c : Nat} (hc : c < n) : r (r c) = r c := h1.2.2 r h1.2.1 c hc
def zA (w h n k : Nat) (dy : Nat → Nat) (t : Nat) (mv r : Nat → Nat) : Prop := zG w h n ∧ 1 ≤ k ∧ k ≤ 4 ∧ (∀ c, c < n → dy c < k ∨ dy c = 9) ∧ t ≤ 4 ∧ (∀ j, j < t → zt_mv w h n (mv j) = true) ∧ zIR w h n t mv r
def zCS (w h n k : Nat) (dy : Nat → Nat) (t : Nat) (mv r : Nat → Nat) (mem : zm_Mem) : Prop := zC w h n mem ∧ mem 2 3 = nI k ∧ (∀ c, c < n → mem 3 c = nI (dy c)) ∧ mem 8 6 = nI t ∧ (∀ j, j < t → mem 9 j = nI (mv j)) ∧ ∀ c, c < n → mem 10 c = nI (r c)
def zMS (w h n k : Nat) (dy : Nat → Nat) (t : Nat) (mv : Nat → Nat) (mem : zm_Mem) : Prop := zM w h mem ∧ mem 21 3 = nI k ∧ (∀ c, c < n → mem 22 c = nI (dy c)) ∧ mem 21 10 = nI t ∧ ∀ j, j < t → mem 27 j = nI (mv j)
/-- nothing but these cells has changed -/
def zF (S : List Nat) (mem u : zm_Mem) : Prop := ∀ q, q ∉ S → u q = mem q
theorem zF.rf {S : List Nat} {mem : zm_Mem} : zF S mem mem := fun _ _ => rfl
theorem zF.trans {S : List Nat} {mem u v : zm_Mem} (h1 : zF S mem u) (h2 : zF S u v) : zF S mem v := fun q hq => (h2 q hq).trans (h1 q hq)
theorem zF.st {S : List Nat} {mem u : zm_Mem} (h1 : zF S mem u) {k i : Nat} {x : Int32} (hk : k ∈ S) : zF S mem (zm_st u k i x) := fun q hq => by
  have hne : q ≠ k := fun e => hq (by rw [e]; exact hk)
  rw [zs_cell hne]
  exact h1 q hq
theorem zF.wide {S S' : List Nat} {mem u : zm_Mem} (h1 : zF S mem u) (h : ∀ q ∈ S, q ∈ S') : zF S' mem u := fun q hq => h1 q (fun z => hq (h q z))
section ZSTATE
variable {w h n k t : Nat} {dy mv r : Nat → Nat} {mem u : zm_Mem}
theorem zA.dy10 (A : zA w h n k dy t mv r) {c : Nat} (hc : c < n) : dy c < 10 := by
  rcases A.2.2.2.1 c hc with q | q
  · have := A.2.2.1; omega
  · omega
theorem zCS.pd (A : zA w h n k dy t mv r) (S : zCS w h n k dy t mv r mem) : zPd n dy mem := fun c hc => ⟨S.2.2.1 c hc, A.dy10 hc⟩
theorem zMS.pm (A : zA w h n k dy t mv r) (S : zMS w h n k dy t mv mem) : zPm n dy mem := fun c hc => ⟨S.2.2.1 c hc, A.dy10 hc⟩
theorem zCS.keep {L : List Nat} (S : zCS w h n k dy t mv r mem) (F : zF L mem u) (hL : 1 ∉ L ∧ 2 ∉ L ∧ 3 ∉ L ∧ 8 ∉ L ∧ 9 ∉ L ∧ 10 ∉ L := by decide) : zCS w h n k dy t mv r u := by
  obtain ⟨a1, a2, a3, a4, a5, a6⟩ := hL
  unfold zCS zC at *
  rw [F 1 a1, F 2 a2, F 3 a3, F 8 a4, F 9 a5, F 10 a6]
  exact S
theorem zMS.keep {L : List Nat} (S : zMS w h n k dy t mv mem) (F : zF L mem u) (hL : 21 ∉ L ∧ 22 ∉ L ∧ 27 ∉ L := by decide) : zMS w h n k dy t mv u := by
  obtain ⟨a1, a2, a3⟩ := hL
  unfold zMS zM at *
  rw [F 21 a1, F 22 a2, F 27 a3]
  exact S
/-- 'thrown' and the number of pieces are nobody's business -/
theorem zMS.st0 (S : zMS w h n k dy t mv mem) {i : Nat} {x : Int32} (hi : i = 0 ∨ i = 20) : zMS w h n k dy t mv (zm_st mem 21 i x) := by
  have e : ∀ j, j ≠ i → zm_st mem 21 i x 21 j = mem 21 j := fun j hj => zs_slot hj
  unfold zMS zM at *
  rw [e 1 (by omega), e 2 (by omega), e 3 (by omega), e 10 (by omega), zs_cell (by decide), zs_cell (by decide)]
  exact S
end ZSTATE
/-- the class's cells; the reference's -/
def zLc : List Nat := [0, 1, 2, 3, 4, 5, 6, 7, 8, 9, 10, 11, 12, 13, 14, 15, 16, 17, 18, 19, 20]
def zLm : List Nat := [21, 22, 23, 24, 25, 26, 27, 28, 29, 30, 31, 32, 33, 34, 35, 36, 37]
