/-! rings, in the class -/
def zrv (o : Option Nat) : Int32 := match o with
  | some a => nI a
  | none => -9
theorem zrv_ne {a : Nat} (h : a < 2 ^ 31) : ¬ nI a = (-9 : Int32) := by
  intro e
  have h1 : (nI a).toInt = (-9 : Int32).toInt := by rw [e]
  rw [nI_toInt h, show (-9 : Int32).toInt = -9 from rfl] at h1
  omega
theorem zq_ct_set {p : Nat → Bool} {d : Nat} (hp : p d = false) : ∀ {n : Nat}, d < n → zq_ct (fun x => if x = d then true else p x) n = zq_ct p n + 1
  | 0, h => absurd h (Nat.not_lt_zero _)
  | n + 1, h => by
    rw [zq_ct, zq_ct]
    by_cases e : d = n
    · have : zq_ct (fun x => if x = d then true else p x) n = zq_ct p n := zq_ct_cong (fun x hx => by rw [if_neg (by omega)])
      rw [this, if_pos (by simp [e]), if_neg (by rw [← e, hp]; decide)]
    · rw [zq_ct_set hp (by omega)]
      have : (if n = d then true else p n) = p n := if_neg (by omega)
      rw [this]
      omega
/-- marked so far: closed under told moves, each by a lesser cell that goes with it -/
def zMk (w h n t : Nat) (mv : Nat → Nat) (ρ : Nat → Option Nat) : Prop := (∀ d, d < n → ∀ a, ρ d = some a → ∀ j, j < t → ρ (zt w h n (mv j) d) = some a) ∧ ∀ d, d < n → ∀ a, ρ d = some a → a ≤ d ∧ ∀ f, zIv w h n t mv f → f a = f d
section ZRING
variable {w h n t : Nat} {mv : Nat → Nat} {mem : zm_Mem} {post : zm_Post}
theorem zMk.it {ρ : Nat → Option Nat} (G : zG w h n) (H : zMk w h n t mv ρ) {d a j : Nat} (hd : d < n) (hj : j < t) (e : ρ d = some a) : ∀ k, ρ (zt_it w h n (mv j) k d) = some a
  | 0 => e
  | k + 1 => H.1 _ (zt_it_lt G _ hd k) a (H.it G hd hj e k) j hj
/-- what isn't marked leads to what isn't -/
theorem zMk.back {ρ : Nat → Option Nat} (G : zG w h n) (H : zMk w h n t mv ρ) (hv : ∀ j, j < t → zt_mv w h n (mv j) = true) {d j : Nat} (hd : d < n) (hj : j < t) (e : ρ d = none) : ρ (zt w h n (mv j) d) = none := by
  cases q : ρ (zt w h n (mv j) d) with
  | none => rfl
  | some a =>
    have h1 := H.it G (zt_lt G _ _) hj q 239
    have h2 : zt_it w h n (mv j) 239 (zt w h n (mv j) d) = zt_it w h n (mv j) 240 d := (zt_it_add (w := w) (h := h) (n := n) (mv j) d 1 239).symm
    rw [h2, zt_240 G (hv j hj) hd, e] at h1
    cases h1
theorem q_markRing (G : zG w h n) (C : zC w h n mem) (ht : t ≤ 4) (hv : ∀ j, j < t → zt_mv w h n (mv j) = true) (h8 : mem 8 6 = nI t) (h9 : ∀ j, j < t → mem 9 j = nI (mv j)) {ρ : Nat → Option Nat} (H : zMk w h n t mv ρ) (hρ : ∀ d, d < n → mem 10 d = zrv (ρ d)) {c : Nat} (hc : c < n) (hc0 : ρ c = none) (hlow : ∀ d, d < c → ρ d ≠ none)
    (kk : ∀ u ρ', zF [10, 11] mem u → (∀ d, d < n → u 10 d = zrv (ρ' d)) → zMk w h n t mv ρ' → (∀ d, d < n → ρ d ≠ none → ρ' d ≠ none) → ρ' c ≠ none → post 0 0 u) : zm_Call gX7_markRing [.ref 8, .int (nI c)] mem post := by
  have h7 := G.2.2.2.2.2.2
  have low : ∀ d, d < n → ρ d = none → c ≤ d := fun d hd e => Nat.le_of_not_lt (fun z => hlow d z e)
  -- the invariant: the new ones ν, in the line L
  have stop : ∀ (ν : Nat → Bool) (L : Nat → Nat) (u : zm_Mem), zF [10, 11] mem u → (∀ d, d < n → ν d = true → ρ d = none ∧ ∀ f, zIv w h n t mv f → f c = f d) → (∀ d, d < n → u 10 d = if ν d then nI c else zrv (ρ d)) → ν c = true → (∀ d, d < n → ν d = true → ∃ s, s < zq_ct ν n ∧ L s = d) → (∀ s, s < zq_ct ν n → ∀ j, j < t → ν (zt w h n (mv j) (L s)) = true) → post 0 0 u := by
    intro ν L u F hν hu hcν hL hcl
    refine kk u (fun d => if ν d then some c else ρ d) F (fun d hd => ?_) ⟨fun d hd a ha j hj => ?_, fun d hd a ha => ?_⟩ (fun d hd hne => ?_) (by simp [hcν])
    · rw [hu d hd]; (try dsimp only); split <;> rfl
    · try dsimp only at ha ⊢
      by_cases q : ν d = true
      · obtain ⟨s, hs, rfl⟩ := hL d hd q
        rw [if_pos q] at ha
        rw [if_pos (hcl s hs j hj)]
        exact ha
      · rw [if_neg q] at ha
        have h1 := H.1 d hd a ha j hj
        have h2 : ¬ ν (zt w h n (mv j) d) = true := fun z => by rw [(hν _ (zt_lt G _ _) z).1] at h1; cases h1
        rw [if_neg h2]; exact h1
    · try dsimp only at ha
      by_cases q : ν d = true
      · rw [if_pos q] at ha
        cases ha
        exact ⟨low d hd (hν d hd q).1, (hν d hd q).2⟩
      · rw [if_neg q] at ha
        exact H.2 d hd a ha
    · try dsimp only
      split
      · simp
      · exact hne
  have inner : ∀ (i : Nat), (∀ (ν : Nat → Bool) (L : Nat → Nat) (u : zm_Mem), zF [10, 11] mem u → (∀ d, d < n → ν d = true → ρ d = none ∧ ∀ f, zIv w h n t mv f → f c = f d) → (∀ d, d < n → u 10 d = if ν d then nI c else zrv (ρ d)) → ν c = true → (∀ d, d < n → ν d = true → ∃ s, s < zq_ct ν n ∧ L s = d) → (∀ s, s < zq_ct ν n → L s < n ∧ ν (L s) = true ∧ u 11 s = nI (L s)) → i < zq_ct ν n → (∀ s, s < i + 1 → ∀ j, j < t → ν (zt w h n (mv j) (L s)) = true) → zm_Z gX7_markRing post 18 [(0, .ref 8), (1, .int (nI c)), (2, .int (nI (zq_ct ν n))), (3, .int (nI (i + 1)))] [] u) →
      ∀ f j (ν : Nat → Bool) (L : Nat → Nat) (u : zm_Mem), j + f = t → zF [10, 11] mem u → (∀ d, d < n → ν d = true → ρ d = none ∧ ∀ f, zIv w h n t mv f → f c = f d) → (∀ d, d < n → u 10 d = if ν d then nI c else zrv (ρ d)) → ν c = true → (∀ d, d < n → ν d = true → ∃ s, s < zq_ct ν n ∧ L s = d) → (∀ s, s < zq_ct ν n → L s < n ∧ ν (L s) = true ∧ u 11 s = nI (L s)) → i < zq_ct ν n → (∀ s, s < i → ∀ j, j < t → ν (zt w h n (mv j) (L s)) = true) → (∀ j', j' < j → ν (zt w h n (mv j') (L i)) = true) → zm_Z gX7_markRing post 32 [(0, .ref 8), (1, .int (nI c)), (2, .int (nI (zq_ct ν n))), (3, .int (nI i)), (4, .int (nI j))] [] u := by
    intro i K f
    induction f with
    | zero =>
      intro j ν L u hj F hν hu hcν hL hLn hi hcl hcj
      have hct := zq_ct_le ν n
      refine bX7_markRing_32 _ _ _ _ _ _ ?_
      rw [show u 8 6 = nI t by rw [F 8 (by decide)]; exact h8]
      refine pk_le t j (fun _ => ?_) (fun z => by omega)
      rw [nI_1]
      refine K ν L u F hν hu hcν hL hLn hi (fun s hs j' hj' => ?_)
      by_cases q : s = i
      · rw [q]; exact hcj j' (by omega)
      · exact hcl s (by omega) j' hj'
    | succ f ih =>
      intro j ν L u hj F hν hu hcν hL hLn hi hcl hcj
      have hct := zq_ct_le ν n
      obtain ⟨l1, l2, l3⟩ := hLn i hi
      have hm := zt_mv_iff.mp (hv j (by omega))
      have hl := zt_lt G (mv j) (L i)
      have hg := hν _ l1 l2
      have hT : ρ (zt w h n (mv j) (L i)) = none := H.back G hv l1 (by omega) hg.1
      refine bX7_markRing_32 _ _ _ _ _ _ ?_
      rw [show u 8 6 = nI t by rw [F 8 (by decide)]; exact h8]
      refine pk_le t j (fun z => by omega) (fun _ => ⟨pk_in j 4 (by omega), pk_in i 288 (by omega), ?_⟩)
      rw [nI_clamp (by omega), nI_clamp (by omega), l3, show u 9 j = nI (mv j) by rw [F 9 (by decide)]; exact h9 j (by omega)]
      refine q_target G (by unfold zC; rw [F 1 (by decide)]; exact C) hm.1 l1 ⟨pk_in (zt w h n (mv j) (L i)) 36 (by omega), ?_⟩
      rw [nI_clamp (by omega), hu _ hl, nI_1, nI_clamp (by omega)]
      by_cases q : ν (zt w h n (mv j) (L i)) = true
      · rw [if_pos q]
        refine ⟨fun _ => ih (j + 1) ν L u (by omega) F hν hu hcν hL hLn hi hcl (fun j' hj' => ?_), fun z => absurd z (zrv_ne (by omega))⟩
        by_cases q2 : j' = j
        · rw [q2]; exact q
        · exact hcj j' (by omega)
      · rw [if_neg q, hT]
        refine ⟨fun z => absurd rfl z, fun _ => ⟨pk_in (zt w h n (mv j) (L i)) 36 (by omega), ?_⟩⟩
        have hq : ν (zt w h n (mv j) (L i)) = false := by simpa using q
        have es := zq_ct_set hq hl
        have hct2 := zq_ct_le (fun x => if x = zt w h n (mv j) (L i) then true else ν x) n
        refine ⟨pk_in (zq_ct ν n) 288 (by omega), ?_⟩
        rw [nI_1, ← es]
        have nx := ih (j + 1) (fun x => if x = zt w h n (mv j) (L i) then true else ν x) (fun s => if s = zq_ct ν n then zt w h n (mv j) (L i) else L s) (zm_st (zm_st u 10 (zt w h n (mv j) (L i)) (nI c)) 11 (zq_ct ν n) (nI (zt w h n (mv j) (L i)))) (by omega) ((F.st (by decide)).st (by decide)) (fun d hd hd2 => ?_) (fun d hd => ?_) (by simp [hcν]) (fun d hd hd2 => ?_) (fun s hs => ?_) (by omega) (fun s hs j' hj' => ?_) (fun j' hj' => ?_)
        · exact nx
        · try dsimp only at hd2
          by_cases q2 : d = zt w h n (mv j) (L i)
          · rw [q2]
            exact ⟨hT, fun f hf => (hg.2 f hf).trans (hf _ l1 j (by omega)).symm⟩
          · rw [if_neg q2] at hd2
            exact hν d hd hd2
        · try dsimp only
          rw [zs_cell (by decide)]
          by_cases q2 : d = zt w h n (mv j) (L i)
          · rw [q2, zs_self, if_pos rfl, if_pos rfl]
          · rw [zs_slot q2, if_neg q2]; exact hu d hd
        · try dsimp only at hd2 ⊢
          rw [es]
          by_cases q2 : d = zt w h n (mv j) (L i)
          · exact ⟨zq_ct ν n, by omega, by rw [if_pos rfl, q2]⟩
          · rw [if_neg q2] at hd2
            obtain ⟨s, hs, e⟩ := hL d hd hd2
            exact ⟨s, by omega, by rw [if_neg (by omega)]; exact e⟩
        · try dsimp only at hs ⊢
          rw [es] at hs
          by_cases q2 : s = zq_ct ν n
          · rw [if_pos q2, if_pos rfl, q2, zs_self]
            exact ⟨hl, rfl, rfl⟩
          · obtain ⟨a1, a2, a3⟩ := hLn s (by omega)
            rw [if_neg q2, zs_slot q2, zs_cell (by decide)]
            refine ⟨a1, ?_, a3⟩
            split
            · rfl
            · exact a2
        · try dsimp only
          rw [if_neg (by omega : ¬ s = zq_ct ν n)]
          split
          · rfl
          · exact hcl s hs j' hj'
        · try dsimp only
          rw [if_neg (by omega : ¬ i = zq_ct ν n)]
          by_cases q2 : j' = j
          · rw [q2, if_pos rfl]
          · split
            · rfl
            · exact hcj j' (by omega)
  have outer : ∀ f i (ν : Nat → Bool) (L : Nat → Nat) (u : zm_Mem), i + f = n → zF [10, 11] mem u → (∀ d, d < n → ν d = true → ρ d = none ∧ ∀ f, zIv w h n t mv f → f c = f d) → (∀ d, d < n → u 10 d = if ν d then nI c else zrv (ρ d)) → ν c = true → (∀ d, d < n → ν d = true → ∃ s, s < zq_ct ν n ∧ L s = d) → (∀ s, s < zq_ct ν n → L s < n ∧ ν (L s) = true ∧ u 11 s = nI (L s)) → (∀ s, s < i → ∀ j, j < t → ν (zt w h n (mv j) (L s)) = true) → zm_Z gX7_markRing post 18 [(0, .ref 8), (1, .int (nI c)), (2, .int (nI (zq_ct ν n))), (3, .int (nI i))] [] u := by
    intro f
    induction f with
    | zero =>
      intro i ν L u hi F hν hu hcν hL hLn hcl
      have hct := zq_ct_le ν n
      refine bX7_markRing_18 _ _ _ _ _ (pk_le (zq_ct ν n) i (fun _ => ?_) (fun z => by omega))
      exact stop ν L u F hν hu hcν hL (fun s hs => hcl s (by omega))
    | succ f ih =>
      intro i ν L u hi F hν hu hcν hL hLn hcl
      have hct := zq_ct_le ν n
      refine bX7_markRing_18 _ _ _ _ _ (pk_le (zq_ct ν n) i (fun _ => ?_) (fun z => pk_le 36 i (fun z2 => by omega) (fun _ => ?_)))
      · exact stop ν L u F hν hu hcν hL (fun s hs => hcl s (by omega))
      · exact inner i (fun ν L u F hν hu hcν hL hLn hi2 hcl => ih (i + 1) ν L u (by omega) F hν hu hcν hL hLn hcl) t 0 ν L u (by omega) F hν hu hcν hL hLn z hcl (fun j' hj' => by omega)
  have e1 : zq_ct (fun d => decide (d = c)) n = 1 := by
    have := zq_ct_set (p := fun _ => false) (d := c) rfl hc
    rw [zq_ct_zero (p := fun _ => false) (fun _ _ => rfl)] at this
    refine Eq.trans (zq_ct_cong (fun d _ => ?_)) this
    by_cases q : d = c <;> simp [q]
  refine bX7_markRing_0 _ _ _ ⟨pk_in c 36 (by omega), pk_in 0 288 (by decide), ?_⟩
  rw [nI_clamp (by omega), show Int32.toNatClampNeg 0 = 0 from rfl]
  have := outer n 0 (fun d => decide (d = c)) (fun _ => c) (zm_st (zm_st mem 10 c (nI c)) 11 0 (nI c)) (by omega) ((zF.rf.st (by decide)).st (by decide)) (fun d hd q => by simp at q; subst q; exact ⟨hc0, fun _ _ => rfl⟩) (fun d hd => by
    rw [zs_cell (by decide)]
    by_cases q : d = c
    · rw [q, zs_self]; simp
    · rw [zs_slot q]; simp [q]; exact hρ d hd) (by simp) (fun d hd q => by simp at q; exact ⟨0, by rw [e1]; decide, q.symm⟩) (fun s hs => by
    rw [e1] at hs
    rw [show s = 0 by omega, zs_self]
    exact ⟨hc, by simp, rfl⟩) (fun s hs => by omega)
  rw [e1] at this
  exact this
theorem q_markRings (G : zG w h n) (C : zC w h n mem) (ht : t ≤ 4) (hv : ∀ j, j < t → zt_mv w h n (mv j) = true) (h8 : mem 8 6 = nI t) (h9 : ∀ j, j < t → mem 9 j = nI (mv j)) (kk : ∀ u r, zF [10, 11] mem u → zIR w h n t mv r → (∀ c, c < n → u 10 c = nI (r c)) → post 0 0 u) : zm_Call gX7_markRings [.ref 8] mem post := by
  have h7 := G.2.2.2.2.2.2
  refine bX7_markRings_0 _ _ ?_
  have loop2 : ∀ f c (ρ : Nat → Option Nat) u, c + f = n → zF [10, 11] mem u → (∀ d, d < n → u 10 d = zrv (ρ d)) → zMk w h n t mv ρ → (∀ d, d < c → ρ d ≠ none) → zm_Z gX7_markRings post 29 [(0, .ref 8), (1, .int (nI c))] [] u := by
    intro f
    induction f with
    | zero =>
      intro c ρ u hc F hu H hlow
      refine bX7_markRings_29 _ _ _ ?_
      rw [show u 1 2 = nI n by rw [F 1 (by decide)]; exact C.2.2]
      refine pk_le n c (fun _ => ?_) (fun z => by omega)
      have e : ∀ d, d < n → ρ d = some ((ρ d).getD 0) := fun d hd => by
        cases q : ρ d with
        | none => exact absurd q (hlow d (by omega))
        | some a => rfl
      refine kk u (fun d => (ρ d).getD 0) F ⟨fun d hd => (H.2 d hd _ (e d hd)).1, fun d hd j hj => ?_, fun f hf d hd => (H.2 d hd _ (e d hd)).2 f hf⟩ (fun d hd => by rw [hu d hd, e d hd]; rfl)
      show (ρ (zt w h n (mv j) d)).getD 0 = (ρ d).getD 0
      rw [H.1 d hd _ (e d hd) j hj]
      rfl
    | succ f ih =>
      intro c ρ u hc F hu H hlow
      refine bX7_markRings_29 _ _ _ ?_
      rw [show u 1 2 = nI n by rw [F 1 (by decide)]; exact C.2.2]
      refine pk_le n c (fun z => by omega) (fun _ => ⟨pk_in c 36 (by omega), ?_⟩)
      rw [nI_clamp (by omega), hu c (by omega), nI_1]
      cases q : ρ c with
      | some a =>
        have ha := (H.2 c (by omega) a q).1
        refine ⟨fun _ => ih (c + 1) ρ u (by omega) F hu H (fun d hd => ?_), fun z => absurd z (zrv_ne (a := a) (by omega))⟩
        by_cases q2 : d = c
        · rw [q2, q]; simp
        · exact hlow d (by omega)
      | none =>
        refine ⟨fun z => absurd rfl z, fun _ => q_markRing G (by unfold zC; rw [F 1 (by decide)]; exact C) ht hv (by rw [F 8 (by decide)]; exact h8) (fun j hj => by rw [F 9 (by decide)]; exact h9 j hj) H hu (by omega) q hlow (fun v ρ' Fv hv2 H2 hk hc2 => ?_)⟩
        refine ih (c + 1) ρ' v (by omega) (F.trans Fv) hv2 H2 (fun d hd => ?_)
        by_cases q2 : d = c
        · rw [q2]; exact hc2
        · exact hk d (by omega) (hlow d (by omega))
  have loop1 : ∀ f c u, c + f = n → zF [10, 11] mem u → (∀ d, d < c → u 10 d = -9) → zm_Z gX7_markRings post 2 [(0, .ref 8), (1, .int (nI c))] [] u := by
    intro f
    induction f with
    | zero =>
      intro c u hc F hu
      refine bX7_markRings_2 _ _ _ ?_
      rw [show u 1 2 = nI n by rw [F 1 (by decide)]; exact C.2.2]
      refine pk_le n c (fun _ => ?_) (fun z => by omega)
      exact loop2 n 0 (fun _ => none) u (by omega) F (fun d hd => hu d (by omega)) ⟨(fun d hd a ha => nomatch ha), (fun d hd a ha => nomatch ha)⟩ (fun d hd => by omega)
    | succ f ih =>
      intro c u hc F hu
      refine bX7_markRings_2 _ _ _ ?_
      rw [show u 1 2 = nI n by rw [F 1 (by decide)]; exact C.2.2]
      refine pk_le n c (fun z => by omega) (fun _ => ⟨pk_in c 36 (by omega), ?_⟩)
      rw [nI_clamp (by omega), nI_1]
      refine ih (c + 1) _ (by omega) (F.st (by decide)) (fun d hd => ?_)
      by_cases q : d = c
      · rw [q, zs_self]
      · rw [zs_slot q]; exact hu d (by omega)
  exact loop1 n 0 mem (by omega) zF.rf (fun d hd => by omega)
end ZRING
