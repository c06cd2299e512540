/-! together: all moves that told ones make -/
def zTg (w h n t : Nat) (mv : Nat → Nat) (S : Nat → Bool) : Prop := S 0 = true ∧ (∀ m, S m = true → ∀ j, j < t → S (zt_jn w h n m (mv j)) = true) ∧ (∀ m, S m = true → zt_mv w h n m = true) ∧ ∀ S' : Nat → Bool, S' 0 = true → (∀ m, S' m = true → ∀ j, j < t → S' (zt_jn w h n m (mv j)) = true) → ∀ m, S m = true → S' m = true
theorem zTg.one {w h n t : Nat} {mv : Nat → Nat} {S S' : Nat → Bool} (h1 : zTg w h n t mv S) (h2 : zTg w h n t mv S') (m : Nat) : S m = S' m := by
  have a := h1.2.2.2 S' h2.1 h2.2.1 m
  have b := h2.2.2.2 S h1.1 h1.2.1 m
  cases q : S m <;> cases q2 : S' m
  · rfl
  · rw [b q2] at q; cases q
  · rw [a q] at q2; cases q2
  · rfl
section ZTG
variable {w h n t : Nat} {mv : Nat → Nat} {mem : zm_Mem} {post : zm_Post}
theorem q_movesMade (G : zG w h n) (C : zC w h n mem) (ht : t ≤ 4) (hv : ∀ j, j < t → zt_mv w h n (mv j) = true) (h8 : mem 8 6 = nI t) (h9 : ∀ j, j < t → mem 9 j = nI (mv j)) (kk : ∀ u S, zF [12, 11] mem u → zTg w h n t mv S → post (nI (zq_ct S 288)) 0 u) : zm_Call gX7_movesMade [.ref 8] mem post := by
  have h6 := G.2.2.2.2.2.1
  have h7 := G.2.2.2.2.2.2
  have CC : ∀ u, zF [12, 11] mem u → zC w h n u := fun u F => by unfold zC; rw [F 1 (by decide)]; exact C
  have mv0 : zt_mv w h n 0 = true := zt_mv_iff.mpr ⟨by omega, by rw [Nat.zero_div]; simp [zt_trn]⟩
  have inner : ∀ (i : Nat), (∀ (S : Nat → Bool) (L : Nat → Nat) (u : zm_Mem), zF [12, 11] mem u → S 0 = true → (∀ m, S m = true → zt_mv w h n m = true) → (∀ S' : Nat → Bool, S' 0 = true → (∀ m, S' m = true → ∀ j, j < t → S' (zt_jn w h n m (mv j)) = true) → ∀ m, S m = true → S' m = true) → (∀ m, m < 288 → u 12 m = zb (S m)) → (∀ m, S m = true → ∃ s, s < zq_ct S 288 ∧ L s = m) → (∀ s, s < zq_ct S 288 → S (L s) = true ∧ u 11 s = nI (L s)) → i < zq_ct S 288 → (∀ s, s < i + 1 → ∀ j, j < t → S (zt_jn w h n (L s) (mv j)) = true) → zm_Z gX7_movesMade post 40 [(0, .ref 8), (1, .int (nI (zq_ct S 288))), (2, .int (nI (i + 1)))] [] u) →
      ∀ f j (S : Nat → Bool) (L : Nat → Nat) (u : zm_Mem), j + f = t → zF [12, 11] mem u → S 0 = true → (∀ m, S m = true → zt_mv w h n m = true) → (∀ S' : Nat → Bool, S' 0 = true → (∀ m, S' m = true → ∀ j, j < t → S' (zt_jn w h n m (mv j)) = true) → ∀ m, S m = true → S' m = true) → (∀ m, m < 288 → u 12 m = zb (S m)) → (∀ m, S m = true → ∃ s, s < zq_ct S 288 ∧ L s = m) → (∀ s, s < zq_ct S 288 → S (L s) = true ∧ u 11 s = nI (L s)) → i < zq_ct S 288 → (∀ s, s < i → ∀ j, j < t → S (zt_jn w h n (L s) (mv j)) = true) → (∀ j', j' < j → S (zt_jn w h n (L i) (mv j')) = true) → zm_Z gX7_movesMade post 54 [(0, .ref 8), (1, .int (nI (zq_ct S 288))), (2, .int (nI i)), (3, .int (nI j))] [] u := by
    intro i K f
    induction f with
    | zero =>
      intro j S L u hj F s0 sm smin hu hL hLn hi hcl hcj
      have hct := zq_ct_le S 288
      refine bX7_movesMade_54 _ _ _ _ _ ?_
      rw [show u 8 6 = nI t by rw [F 8 (by decide)]; exact h8]
      refine pk_le t j (fun _ => ?_) (fun z => by omega)
      rw [nI_1]
      refine K S L u F s0 sm smin hu hL hLn hi (fun s hs j' hj' => ?_)
      by_cases q : s = i
      · rw [q]; exact hcj j' (by omega)
      · exact hcl s (by omega) j' hj'
    | succ f ih =>
      intro j S L u hj F s0 sm smin hu hL hLn hi hcl hcj
      have hct := zq_ct_le S 288
      obtain ⟨l2, l3⟩ := hLn i hi
      have hm := zt_mv_iff.mp (hv j (by omega))
      have hLm := sm _ l2
      have hlm := zt_mv_iff.mp hLm
      have hjm := zt_jn_mv G hLm (hv j (by omega))
      have hjl := (zt_mv_iff.mp hjm).1
      refine bX7_movesMade_54 _ _ _ _ _ ?_
      rw [show u 8 6 = nI t by rw [F 8 (by decide)]; exact h8]
      refine pk_le t j (fun z => by omega) (fun _ => ⟨pk_in i 288 (by omega), pk_in j 4 (by omega), ?_⟩)
      rw [nI_clamp (by omega), nI_clamp (by omega), l3, show u 9 j = nI (mv j) by rw [F 9 (by decide)]; exact h9 j (by omega)]
      refine q_join G (CC u F) hlm.1 hm.1 ⟨pk_in (zt_jn w h n (L i) (mv j)) 288 (by omega), ?_⟩
      rw [nI_clamp (by omega), hu _ (by omega), nI_1, nI_clamp (by omega)]
      refine zb_ne0 _ (fun q => ?_) (fun q => ⟨pk_in (zt_jn w h n (L i) (mv j)) 288 (by omega), ?_⟩)
      · refine ih (j + 1) S L u (by omega) F s0 sm smin hu hL hLn hi hcl (fun j' hj' => ?_)
        by_cases q2 : j' = j
        · rw [q2]; exact q
        · exact hcj j' (by omega)
      · have es := zq_ct_set q (n := 288) (by omega)
        have hct2 := zq_ct_le (fun x => if x = zt_jn w h n (L i) (mv j) then true else S x) 288
        refine ⟨pk_in (zq_ct S 288) 288 (by omega), ?_⟩
        rw [nI_1, ← es]
        refine ih (j + 1) (fun x => if x = zt_jn w h n (L i) (mv j) then true else S x) (fun s => if s = zq_ct S 288 then zt_jn w h n (L i) (mv j) else L s) _ (by omega) ((F.st (by decide)).st (by decide)) (by simp [s0]) (fun m hm2 => ?_) (fun S' h1 h2 m hm2 => ?_) (fun m hm2 => ?_) (fun m hm2 => ?_) (fun s hs => ?_) (by omega) (fun s hs j' hj' => ?_) (fun j' hj' => ?_)
        · try dsimp only at hm2
          by_cases q2 : m = zt_jn w h n (L i) (mv j)
          · rw [q2]; exact hjm
          · rw [if_neg q2] at hm2; exact sm m hm2
        · try dsimp only at hm2
          by_cases q2 : m = zt_jn w h n (L i) (mv j)
          · rw [q2]; exact h2 _ (smin S' h1 h2 _ l2) j (by omega)
          · rw [if_neg q2] at hm2; exact smin S' h1 h2 m hm2
        · try dsimp only
          rw [zs_cell (by decide)]
          by_cases q2 : m = zt_jn w h n (L i) (mv j)
          · rw [q2, zs_self, if_pos rfl]; rfl
          · rw [zs_slot q2, if_neg q2]; exact hu m hm2
        · try dsimp only at hm2 ⊢
          rw [es]
          by_cases q2 : m = zt_jn w h n (L i) (mv j)
          · exact ⟨zq_ct S 288, by omega, by rw [if_pos rfl, q2]⟩
          · rw [if_neg q2] at hm2
            obtain ⟨s, hs, e⟩ := hL m hm2
            exact ⟨s, by omega, by rw [if_neg (by omega)]; exact e⟩
        · try dsimp only at hs ⊢
          rw [es] at hs
          by_cases q2 : s = zq_ct S 288
          · rw [if_pos q2, if_pos rfl, q2, zs_self]
            exact ⟨rfl, rfl⟩
          · obtain ⟨a2, a3⟩ := hLn s (by omega)
            rw [if_neg q2, zs_slot q2, zs_cell (by decide)]
            refine ⟨?_, a3⟩
            split
            · rfl
            · exact a2
        · try dsimp only
          rw [if_neg (by omega : ¬ s = zq_ct S 288)]
          split
          · rfl
          · exact hcl s hs j' hj'
        · try dsimp only
          rw [if_neg (by omega : ¬ i = zq_ct S 288)]
          by_cases q2 : j' = j
          · rw [q2, if_pos rfl]
          · split
            · rfl
            · exact hcj j' (by omega)
  have stop : ∀ (S : Nat → Bool) (L : Nat → Nat) (u : zm_Mem), zF [12, 11] mem u → S 0 = true → (∀ m, S m = true → zt_mv w h n m = true) → (∀ S' : Nat → Bool, S' 0 = true → (∀ m, S' m = true → ∀ j, j < t → S' (zt_jn w h n m (mv j)) = true) → ∀ m, S m = true → S' m = true) → (∀ m, S m = true → ∃ s, s < zq_ct S 288 ∧ L s = m) → (∀ s, s < zq_ct S 288 → ∀ j, j < t → S (zt_jn w h n (L s) (mv j)) = true) → post (nI (zq_ct S 288)) 0 u := by
    intro S L u F s0 sm smin hL hcl
    refine kk u S F ⟨s0, fun m hm j hj => ?_, sm, smin⟩
    obtain ⟨s, hs, rfl⟩ := hL m hm
    exact hcl s hs j hj
  have outer : ∀ f i (S : Nat → Bool) (L : Nat → Nat) (u : zm_Mem), i + f = 288 → zF [12, 11] mem u → S 0 = true → (∀ m, S m = true → zt_mv w h n m = true) → (∀ S' : Nat → Bool, S' 0 = true → (∀ m, S' m = true → ∀ j, j < t → S' (zt_jn w h n m (mv j)) = true) → ∀ m, S m = true → S' m = true) → (∀ m, m < 288 → u 12 m = zb (S m)) → (∀ m, S m = true → ∃ s, s < zq_ct S 288 ∧ L s = m) → (∀ s, s < zq_ct S 288 → S (L s) = true ∧ u 11 s = nI (L s)) → (∀ s, s < i → ∀ j, j < t → S (zt_jn w h n (L s) (mv j)) = true) → zm_Z gX7_movesMade post 40 [(0, .ref 8), (1, .int (nI (zq_ct S 288))), (2, .int (nI i))] [] u := by
    intro f
    induction f with
    | zero =>
      intro i S L u hi F s0 sm smin hu hL hLn hcl
      have hct := zq_ct_le S 288
      refine bX7_movesMade_40 _ _ _ _ (pk_le (zq_ct S 288) i (fun _ => ?_) (fun z => by omega))
      exact stop S L u F s0 sm smin hL (fun s hs => hcl s (by omega))
    | succ f ih =>
      intro i S L u hi F s0 sm smin hu hL hLn hcl
      have hct := zq_ct_le S 288
      refine bX7_movesMade_40 _ _ _ _ (pk_le (zq_ct S 288) i (fun _ => ?_) (fun z => pk_le 288 i (fun z2 => by omega) (fun _ => ?_)))
      · exact stop S L u F s0 sm smin hL (fun s hs => hcl s (by omega))
      · exact inner i (fun S L u F s0 sm smin hu hL hLn hi2 hcl => ih (i + 1) S L u (by omega) F s0 sm smin hu hL hLn hcl) t 0 S L u (by omega) F s0 sm smin hu hL hLn z hcl (fun j' hj' => by omega)
  have e1 : zq_ct (fun d => decide (d = 0)) 288 = 1 := by decide +kernel
  have loop1 : ∀ f c u, c + f = 288 → zF [12, 11] mem u → (∀ d, d < c → u 12 d = 0) → zm_Z gX7_movesMade post 2 [(0, .ref 8), (1, .int (nI c))] [] u := by
    intro f
    induction f with
    | zero =>
      intro c u hc F hu
      refine bX7_movesMade_2 _ _ _ (pk_le 288 c (fun _ => ⟨pk_in 0 288 (by decide), pk_in 0 288 (by decide), ?_⟩) (fun z => by omega))
      rw [show Int32.toNatClampNeg 0 = 0 from rfl]
      have := outer 288 0 (fun d => decide (d = 0)) (fun _ => 0) (zm_st (zm_st u 12 0 1) 11 0 0) rfl ((F.st (by decide)).st (by decide)) (by simp) (fun m hm => by simp at hm; rw [hm]; exact mv0) (fun S' h1 _ m hm => by simp at hm; rw [hm]; exact h1) (fun m hm => by
        rw [zs_cell (by decide)]
        by_cases q : m = 0
        · rw [q, zs_self]; rfl
        · rw [zs_slot q, hu m (by omega)]; simp [q]) (fun m hm => by simp at hm; exact ⟨0, by rw [e1]; decide, hm.symm⟩) (fun s hs => by
        rw [e1] at hs
        rw [show s = 0 by omega, zs_self]
        exact ⟨by simp, rfl⟩) (fun s hs => by omega)
      rw [e1] at this
      exact this
    | succ f ih =>
      intro c u hc F hu
      refine bX7_movesMade_2 _ _ _ (pk_le 288 c (fun z => by omega) (fun _ => ⟨pk_in c 288 (by omega), ?_⟩))
      rw [nI_clamp (by omega), nI_1]
      refine ih (c + 1) _ (by omega) (F.st (by decide)) (fun d hd => ?_)
      by_cases q : d = c
      · rw [q, zs_self]
      · rw [zs_slot q]; exact hu d (by omega)
  exact bX7_movesMade_0 _ _ (loop1 288 0 mem rfl zF.rf (fun d hd => by omega))
theorem r_together (G : zG w h n) (M : zM w h mem) (ht : t ≤ 4) (hv : ∀ j, j < t → zt_mv w h n (mv j) = true) (h8 : mem 21 10 = nI t) (h9 : ∀ j, j < t → mem 27 j = nI (mv j)) (kk : ∀ u S, zF [28, 29] mem u → zTg w h n t mv S → post (nI (zq_ct S 288)) 0 u) : zm_Z gX9_together post 7 [(0, .ref 21), (1, .int (nI 0))] [] mem := by
  have h6 := G.2.2.2.2.2.1
  have h7 := G.2.2.2.2.2.2
  have CC : ∀ u, zF [28, 29] mem u → zM w h u := fun u F => by unfold zM; rw [F 21 (by decide)]; exact M
  have mv0 : zt_mv w h n 0 = true := zt_mv_iff.mpr ⟨by omega, by rw [Nat.zero_div]; simp [zt_trn]⟩
  have inner : ∀ (i : Nat), (∀ (S : Nat → Bool) (L : Nat → Nat) (u : zm_Mem), zF [28, 29] mem u → S 0 = true → (∀ m, S m = true → zt_mv w h n m = true) → (∀ S' : Nat → Bool, S' 0 = true → (∀ m, S' m = true → ∀ j, j < t → S' (zt_jn w h n m (mv j)) = true) → ∀ m, S m = true → S' m = true) → (∀ m, m < 288 → u 28 m = zb (S m)) → (∀ m, S m = true → ∃ s, s < zq_ct S 288 ∧ L s = m) → (∀ s, s < zq_ct S 288 → S (L s) = true ∧ u 29 s = nI (L s)) → i < zq_ct S 288 → (∀ s, s < i + 1 → ∀ j, j < t → S (zt_jn w h n (L s) (mv j)) = true) → zm_Z gX9_together post 45 [(0, .ref 21), (1, .int (nI (zq_ct S 288))), (2, .int (nI (i + 1)))] [] u) →
      ∀ f j (S : Nat → Bool) (L : Nat → Nat) (u : zm_Mem), j + f = t → zF [28, 29] mem u → S 0 = true → (∀ m, S m = true → zt_mv w h n m = true) → (∀ S' : Nat → Bool, S' 0 = true → (∀ m, S' m = true → ∀ j, j < t → S' (zt_jn w h n m (mv j)) = true) → ∀ m, S m = true → S' m = true) → (∀ m, m < 288 → u 28 m = zb (S m)) → (∀ m, S m = true → ∃ s, s < zq_ct S 288 ∧ L s = m) → (∀ s, s < zq_ct S 288 → S (L s) = true ∧ u 29 s = nI (L s)) → i < zq_ct S 288 → (∀ s, s < i → ∀ j, j < t → S (zt_jn w h n (L s) (mv j)) = true) → (∀ j', j' < j → S (zt_jn w h n (L i) (mv j')) = true) → zm_Z gX9_together post 52 [(0, .ref 21), (1, .int (nI (zq_ct S 288))), (2, .int (nI i)), (3, .int (nI j))] [] u := by
    intro i K f
    induction f with
    | zero =>
      intro j S L u hj F s0 sm smin hu hL hLn hi hcl hcj
      have hct := zq_ct_le S 288
      refine bX9_together_52 _ _ _ _ _ ?_
      rw [show u 21 10 = nI t by rw [F 21 (by decide)]; exact h8]
      refine pk_le t j (fun _ => ?_) (fun z => by omega)
      rw [nI_1]
      refine K S L u F s0 sm smin hu hL hLn hi (fun s hs j' hj' => ?_)
      by_cases q : s = i
      · rw [q]; exact hcj j' (by omega)
      · exact hcl s (by omega) j' hj'
    | succ f ih =>
      intro j S L u hj F s0 sm smin hu hL hLn hi hcl hcj
      have hct := zq_ct_le S 288
      obtain ⟨l2, l3⟩ := hLn i hi
      have hm := zt_mv_iff.mp (hv j (by omega))
      have hLm := sm _ l2
      have hlm := zt_mv_iff.mp hLm
      have hjm := zt_jn_mv G hLm (hv j (by omega))
      have hjl := (zt_mv_iff.mp hjm).1
      refine bX9_together_52 _ _ _ _ _ ?_
      rw [show u 21 10 = nI t by rw [F 21 (by decide)]; exact h8]
      refine pk_le t j (fun z => by omega) (fun _ => ⟨pk_in i 288 (by omega), pk_in j 4 (by omega), ?_⟩)
      rw [nI_clamp (by omega), nI_clamp (by omega), l3, show u 27 j = nI (mv j) by rw [F 27 (by decide)]; exact h9 j (by omega)]
      refine r_two G (CC u F) hlm.1 hm.1 ⟨pk_in (zt_jn w h n (L i) (mv j)) 288 (by omega), ?_⟩
      rw [nI_clamp (by omega), hu _ (by omega), nI_1, nI_clamp (by omega)]
      refine zb_ne0 _ (fun q => ?_) (fun q => ⟨pk_in (zt_jn w h n (L i) (mv j)) 288 (by omega), ?_⟩)
      · refine ih (j + 1) S L u (by omega) F s0 sm smin hu hL hLn hi hcl (fun j' hj' => ?_)
        by_cases q2 : j' = j
        · rw [q2]; exact q
        · exact hcj j' (by omega)
      · have es := zq_ct_set q (n := 288) (by omega)
        have hct2 := zq_ct_le (fun x => if x = zt_jn w h n (L i) (mv j) then true else S x) 288
        refine ⟨pk_in (zq_ct S 288) 288 (by omega), ?_⟩
        rw [nI_1, ← es]
        refine ih (j + 1) (fun x => if x = zt_jn w h n (L i) (mv j) then true else S x) (fun s => if s = zq_ct S 288 then zt_jn w h n (L i) (mv j) else L s) _ (by omega) ((F.st (by decide)).st (by decide)) (by simp [s0]) (fun m hm2 => ?_) (fun S' h1 h2 m hm2 => ?_) (fun m hm2 => ?_) (fun m hm2 => ?_) (fun s hs => ?_) (by omega) (fun s hs j' hj' => ?_) (fun j' hj' => ?_)
        · try dsimp only at hm2
          by_cases q2 : m = zt_jn w h n (L i) (mv j)
          · rw [q2]; exact hjm
          · rw [if_neg q2] at hm2; exact sm m hm2
        · try dsimp only at hm2
          by_cases q2 : m = zt_jn w h n (L i) (mv j)
          · rw [q2]; exact h2 _ (smin S' h1 h2 _ l2) j (by omega)
          · rw [if_neg q2] at hm2; exact smin S' h1 h2 m hm2
        · try dsimp only
          rw [zs_cell (by decide)]
          by_cases q2 : m = zt_jn w h n (L i) (mv j)
          · rw [q2, zs_self, if_pos rfl]; rfl
          · rw [zs_slot q2, if_neg q2]; exact hu m hm2
        · try dsimp only at hm2 ⊢
          rw [es]
          by_cases q2 : m = zt_jn w h n (L i) (mv j)
          · exact ⟨zq_ct S 288, by omega, by rw [if_pos rfl, q2]⟩
          · rw [if_neg q2] at hm2
            obtain ⟨s, hs, e⟩ := hL m hm2
            exact ⟨s, by omega, by rw [if_neg (by omega)]; exact e⟩
        · try dsimp only at hs ⊢
          rw [es] at hs
          by_cases q2 : s = zq_ct S 288
          · rw [if_pos q2, if_pos rfl, q2, zs_self]
            exact ⟨rfl, rfl⟩
          · obtain ⟨a2, a3⟩ := hLn s (by omega)
            rw [if_neg q2, zs_slot q2, zs_cell (by decide)]
            refine ⟨?_, a3⟩
            split
            · rfl
            · exact a2
        · try dsimp only
          rw [if_neg (by omega : ¬ s = zq_ct S 288)]
          split
          · rfl
          · exact hcl s hs j' hj'
        · try dsimp only
          rw [if_neg (by omega : ¬ i = zq_ct S 288)]
          by_cases q2 : j' = j
          · rw [q2, if_pos rfl]
          · split
            · rfl
            · exact hcj j' (by omega)
  have stop : ∀ (S : Nat → Bool) (L : Nat → Nat) (u : zm_Mem), zF [28, 29] mem u → S 0 = true → (∀ m, S m = true → zt_mv w h n m = true) → (∀ S' : Nat → Bool, S' 0 = true → (∀ m, S' m = true → ∀ j, j < t → S' (zt_jn w h n m (mv j)) = true) → ∀ m, S m = true → S' m = true) → (∀ m, S m = true → ∃ s, s < zq_ct S 288 ∧ L s = m) → (∀ s, s < zq_ct S 288 → ∀ j, j < t → S (zt_jn w h n (L s) (mv j)) = true) → post (nI (zq_ct S 288)) 0 u := by
    intro S L u F s0 sm smin hL hcl
    refine kk u S F ⟨s0, fun m hm j hj => ?_, sm, smin⟩
    obtain ⟨s, hs, rfl⟩ := hL m hm
    exact hcl s hs j hj
  have outer : ∀ f i (S : Nat → Bool) (L : Nat → Nat) (u : zm_Mem), i + f = 288 → zF [28, 29] mem u → S 0 = true → (∀ m, S m = true → zt_mv w h n m = true) → (∀ S' : Nat → Bool, S' 0 = true → (∀ m, S' m = true → ∀ j, j < t → S' (zt_jn w h n m (mv j)) = true) → ∀ m, S m = true → S' m = true) → (∀ m, m < 288 → u 28 m = zb (S m)) → (∀ m, S m = true → ∃ s, s < zq_ct S 288 ∧ L s = m) → (∀ s, s < zq_ct S 288 → S (L s) = true ∧ u 29 s = nI (L s)) → (∀ s, s < i → ∀ j, j < t → S (zt_jn w h n (L s) (mv j)) = true) → zm_Z gX9_together post 45 [(0, .ref 21), (1, .int (nI (zq_ct S 288))), (2, .int (nI i))] [] u := by
    intro f
    induction f with
    | zero =>
      intro i S L u hi F s0 sm smin hu hL hLn hcl
      have hct := zq_ct_le S 288
      refine bX9_together_45 _ _ _ _ (pk_le (zq_ct S 288) i (fun _ => ?_) (fun z => by omega))
      exact stop S L u F s0 sm smin hL (fun s hs => hcl s (by omega))
    | succ f ih =>
      intro i S L u hi F s0 sm smin hu hL hLn hcl
      have hct := zq_ct_le S 288
      refine bX9_together_45 _ _ _ _ (pk_le (zq_ct S 288) i (fun _ => ?_) (fun z => ?_))
      · exact stop S L u F s0 sm smin hL (fun s hs => hcl s (by omega))
      · exact inner i (fun S L u F s0 sm smin hu hL hLn hi2 hcl => ih (i + 1) S L u (by omega) F s0 sm smin hu hL hLn hcl) t 0 S L u (by omega) F s0 sm smin hu hL hLn z hcl (fun j' hj' => by omega)
  have e1 : zq_ct (fun d => decide (d = 0)) 288 = 1 := by decide +kernel
  have loop1 : ∀ f c u, c + f = 288 → zF [28, 29] mem u → (∀ d, d < c → u 28 d = 0) → zm_Z gX9_together post 7 [(0, .ref 21), (1, .int (nI c))] [] u := by
    intro f
    induction f with
    | zero =>
      intro c u hc F hu
      refine bX9_together_7 _ _ _ (pk_le 288 c (fun _ => ⟨pk_in 0 288 (by decide), pk_in 0 288 (by decide), ?_⟩) (fun z => by omega))
      rw [show Int32.toNatClampNeg 0 = 0 from rfl]
      have := outer 288 0 (fun d => decide (d = 0)) (fun _ => 0) (zm_st (zm_st u 28 0 1) 29 0 0) rfl ((F.st (by decide)).st (by decide)) (by simp) (fun m hm => by simp at hm; rw [hm]; exact mv0) (fun S' h1 _ m hm => by simp at hm; rw [hm]; exact h1) (fun m hm => by
        rw [zs_cell (by decide)]
        by_cases q : m = 0
        · rw [q, zs_self]; rfl
        · rw [zs_slot q, hu m (by omega)]; simp [q]) (fun m hm => by simp at hm; exact ⟨0, by rw [e1]; decide, hm.symm⟩) (fun s hs => by
        rw [e1] at hs
        rw [show s = 0 by omega, zs_self]
        exact ⟨by simp, rfl⟩) (fun s hs => by omega)
      rw [e1] at this
      exact this
    | succ f ih =>
      intro c u hc F hu
      refine bX9_together_7 _ _ _ (pk_le 288 c (fun z => by omega) (fun _ => ⟨pk_in c 288 (by omega), ?_⟩))
      rw [nI_clamp (by omega), nI_1]
      refine ih (c + 1) _ (by omega) (F.st (by decide)) (fun d hd => ?_)
      by_cases q : d = c
      · rw [q, zs_self]
      · rw [zs_slot q]; exact hu d (by omega)
  exact loop1 288 0 mem rfl zF.rf (fun d hd => by omega)
theorem st_together {k : Nat} {dy r : Nat → Nat} (J : zJ w h n k dy t mv r mem) : zm_Call gX8_together [.ref 0] mem (zR gX9_together [.ref 21]) := by
  refine bX8_together_0 _ _ (q_movesMade (t := t) (mv := mv) J.G J.C J.1.2.2.2.2.1 J.1.2.2.2.2.2.1 J.2.1.2.2.2.1 J.2.1.2.2.2.2.1 (fun u S F hS => bX9_together_0 _ _ ?_))
  have J2 := (J.keep F).th
  refine r_together (t := t) (mv := mv) J2.G J2.M J2.1.2.2.2.2.1 J2.1.2.2.2.2.2.1 J2.2.2.2.2.2.1 J2.2.2.2.2.2.2 (fun v S' Fv hS' => ⟨?_, rfl, (J2.keep Fv).inv⟩)
  rw [zq_ct_cong (fun m _ => hS.one hS' m)]
end ZTG
