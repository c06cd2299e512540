/-! rings, in the reference -/
theorem zq_sm_le {f g : Nat → Nat} : ∀ {n : Nat}, (∀ d, d < n → f d ≤ g d) → zq_sm f n ≤ zq_sm g n
  | 0, _ => Nat.le_refl _
  | n + 1, h => by
    have h1 := zq_sm_le (f := f) (g := g) (n := n) (fun d hd => h d (by omega))
    have h2 := h n (by omega)
    rw [zq_sm, zq_sm]
    omega
theorem zq_sm_lt {f g : Nat → Nat} {e : Nat} : ∀ {n : Nat}, (∀ d, d < n → f d ≤ g d) → e < n → f e < g e → zq_sm f n < zq_sm g n
  | 0, _, he, _ => absurd he (Nat.not_lt_zero _)
  | n + 1, h, he, hl => by
    rw [zq_sm, zq_sm]
    by_cases q : e = n
    · have h1 := zq_sm_le (f := f) (g := g) (n := n) (fun d hd => h d (by omega))
      rw [q] at hl
      omega
    · have h1 := zq_sm_lt (f := f) (g := g) (e := e) (n := n) (fun d hd => h d (by omega)) (by omega) hl
      have h2 := h n (by omega)
      omega
def zlow (a b : Nat) : Nat := if b ≤ a then b else a
section ZMR
variable {w h n T : Nat} {MV : Nat → Nat} {mem : zm_Mem} {post : zm_Post}
theorem r_layRings (G : zG w h n) (M : zM w h mem) (x : Int32) (hv : ∀ j, j < T → zt_mv w h n (MV j) = true) (hx : (x = -9 ∧ T ≤ 4 ∧ mem 21 10 = nI T ∧ ∀ j, j < T → mem 27 j = nI (MV j)) ∨ (T = 1 ∧ MV 0 < 8 * n ∧ x = nI (MV 0)))
    (kk : ∀ u r, zF [25] mem u → zIR w h n T MV r → (∀ c, c < n → u 25 c = nI (r c)) → post (nI (zq_ct (fun c => r c == c) n)) 0 u) : zm_Call gX9_layRings [.ref 21, .int x] mem post := by
  have h7 := G.2.2.2.2.2.2
  have hT4 : T ≤ 4 := by rcases hx with q | q <;> omega
  have MM : ∀ u, zF [25] mem u → zM w h u := fun u F => by unfold zM; rw [F 21 (by decide)]; exact M
  -- the count behind
  have fin : ∀ (ρ : Nat → Nat) u, zF [25] mem u → (∀ d, d < n → u 25 d = nI (ρ d)) → (∀ d, d < n → ρ d ≤ d) → post (nI (zq_ct (fun c => ρ c == c) n)) 0 u → ∀ f c, c + f = n → zm_Z gX9_layRings post 191 [(0, .ref 21), (3, .int (nI (zq_ct (fun c => ρ c == c) c))), (4, .int (nI c))] [] u := by
    intro ρ u F hu hle hp f
    induction f with
    | zero =>
      intro c hc
      refine bX9_layRings_191 _ _ _ _ (r_cells G (MM u F) (pk_le n c (fun _ => ?_) (fun z => by omega)))
      rw [show c = n by omega]; exact hp
    | succ f ih =>
      intro c hc
      have nx := ih (c + 1) (by omega)
      rw [zq_ct] at nx
      have hl := hle c (by omega)
      refine bX9_layRings_191 _ _ _ _ (r_cells G (MM u F) (pk_le n c (fun z => by omega) (fun _ => ⟨pk_in c 36 (by omega), ?_⟩)))
      rw [nI_clamp (by omega), hu c (by omega), nI_1, nI_1, show (0 : Int32) = nI 0 from rfl, nI_add]
      refine zn_ne (ρ c) c (fun e => ?_) (fun e => ?_)
      · rw [if_neg (by simpa using e)] at nx; exact nx
      · rw [if_pos (by simpa using e)] at nx; exact nx
  have go44 : ∀ c k (b : Int32) u, zF [25] mem u → k ≤ T → c < n → (k = T → zm_Z gX9_layRings post 33 [(0, .ref 21), (1, .int x), (2, .int b), (3, .int (nI (c + 1)))] [] u) → (k < T → zm_Z gX9_layRings post 81 [(0, .ref 21), (1, .int x), (2, .int b), (3, .int (nI c)), (4, .int (nI k))] [.int (nI (MV k)), .ref 21] u) → zm_Z gX9_layRings post 44 [(0, .ref 21), (1, .int x), (2, .int b), (3, .int (nI c)), (4, .int (nI k))] [] u := by
    intro c k b u F hk hc k1 k2
    rcases hx with ⟨rfl, -, ht, hm⟩ | ⟨rfl, hm, rfl⟩
    · refine bX9_layRings_44 _ _ _ _ _ _ ⟨fun z => absurd rfl z, fun _ => ?_⟩
      rw [show u 21 10 = nI T by rw [F 21 (by decide)]; exact ht]
      refine bX9_layRings_60 _ _ _ _ _ _ _ _ (pk_le T k (fun z => by rw [nI_1]; exact k1 (by omega)) (fun z => ⟨fun z => absurd rfl z, fun _ => ⟨pk_in k 4 (by omega), ?_⟩⟩))
      rw [nI_clamp (by omega), show u 27 k = nI (MV k) by rw [F 27 (by decide)]; exact hm k z]
      exact k2 z
    · have ne : ¬ nI (MV 0) = (-9 : Int32) := zrv_ne (by omega)
      refine bX9_layRings_44 _ _ _ _ _ _ ⟨fun _ => ?_, fun z => absurd z ne⟩
      refine bX9_layRings_60 _ _ _ _ _ _ _ _ (pk_le 1 k (fun z => by rw [nI_1]; exact k1 (by omega)) (fun z => ⟨fun _ => ?_, fun z => absurd z ne⟩))
      have e : k = 0 := by omega
      subst e
      exact k2 z
  have pass : ∀ (S0 : Nat) (b : Bool) (ρ : Nat → Nat) u,
      (∀ b' ρ' u', zF [25] mem u' → (∀ d, d < n → u' 25 d = nI (ρ' d)) → (∀ d, d < n → ρ' d ≤ d ∧ ∀ f, zIv w h n T MV f → f (ρ' d) = f d) → (b' = true → zq_sm ρ' n < S0) → (b' = false → zIv w h n T MV ρ') → zm_Z gX9_layRings post 25 [(0, .ref 21), (1, .int x), (2, .int (zb b'))] [] u') →
      ∀ g c, c + g = n → zF [25] mem u → (∀ d, d < n → u 25 d = nI (ρ d)) → (∀ d, d < n → ρ d ≤ d ∧ ∀ f, zIv w h n T MV f → f (ρ d) = f d) → zq_sm ρ n ≤ S0 → (b = true → zq_sm ρ n < S0) → (b = false → ∀ c', c' < c → ∀ k', k' < T → ρ (zt w h n (MV k') c') = ρ c') → zm_Z gX9_layRings post 33 [(0, .ref 21), (1, .int x), (2, .int (zb b)), (3, .int (nI c))] [] u := by
    intro S0 b ρ u K g
    induction g generalizing b ρ u with
    | zero =>
      intro c hc F hu hI hS hb hp
      refine bX9_layRings_33 _ _ _ _ _ (r_cells G (MM u F) (pk_le n c (fun _ => ?_) (fun z => by omega)))
      exact K b ρ u F hu hI hb (fun e d hd j hj => hp e d (by omega) j hj)
    | succ g ih =>
      intro c hc F hu hI hS hb hp
      refine bX9_layRings_33 _ _ _ _ _ (r_cells G (MM u F) (pk_le n c (fun z => by omega) (fun _ => ?_)))
      -- over the moves of this cell
      have inner : ∀ l k b ρ u, k + l = T → zF [25] mem u → (∀ d, d < n → u 25 d = nI (ρ d)) → (∀ d, d < n → ρ d ≤ d ∧ ∀ f, zIv w h n T MV f → f (ρ d) = f d) → zq_sm ρ n ≤ S0 → (b = true → zq_sm ρ n < S0) → (b = false → (∀ c', c' < c → ∀ k', k' < T → ρ (zt w h n (MV k') c') = ρ c') ∧ ∀ k', k' < k → ρ (zt w h n (MV k') c) = ρ c) → zm_Z gX9_layRings post 44 [(0, .ref 21), (1, .int x), (2, .int (zb b)), (3, .int (nI c)), (4, .int (nI k))] [] u := by
        intro l
        induction l with
        | zero =>
          intro k b ρ u hk F hu hI hS hb hp
          refine go44 c k _ u F (by omega) (by omega) (fun _ => ?_) (fun z => by omega)
          refine ih b ρ u (c + 1) (by omega) F hu hI hS hb (fun e c' hc' k' hk' => ?_)
          by_cases q : c' = c
          · rw [q]; exact (hp e).2 k' (by omega)
          · exact (hp e).1 c' (by omega) k' hk'
        | succ l ihl =>
          intro k b ρ u hk F hu hI hS hb hp
          refine go44 c k _ u F (by omega) (by omega) (fun z => by omega) (fun _ => ?_)
          have hm := zt_mv_iff.mp (hv k (by omega))
          have hl := zt_lt G (MV k) c
          have i1 := hI c (by omega)
          have i2 := hI _ hl
          -- the new picture
          have nx : ∀ b' : Bool, b' = (b || !(ρ c == zlow (ρ c) (ρ (zt w h n (MV k) c))) || !(ρ (zt w h n (MV k) c) == zlow (ρ c) (ρ (zt w h n (MV k) c)))) → zm_Z gX9_layRings post 153 [(0, .ref 21), (1, .int x), (3, .int (nI c)), (4, .int (nI k)), (5, .int (nI (zt w h n (MV k) c))), (6, .int (nI (zlow (ρ c) (ρ (zt w h n (MV k) c)))))] [.int (zb b')] u := by
            intro b' hb'
            refine bX9_layRings_153 _ _ _ _ _ _ _ _ ⟨pk_in c 36 (by omega), pk_in (zt w h n (MV k) c) 36 (by omega), ?_⟩
            rw [nI_clamp (by omega), nI_clamp (by omega), nI_1]
            have l1 : zlow (ρ c) (ρ (zt w h n (MV k) c)) ≤ ρ c ∧ zlow (ρ c) (ρ (zt w h n (MV k) c)) ≤ ρ (zt w h n (MV k) c) := by unfold zlow; split <;> omega
            have l2 : ∀ f, zIv w h n T MV f → f (zlow (ρ c) (ρ (zt w h n (MV k) c))) = f c := fun f hf => by
              have e1 := i1.2 f hf
              have e2 := i2.2 f hf
              have e3 := hf c (by omega) k (by omega)
              unfold zlow; split
              · rw [e2, e3]
              · exact e1
            refine ihl (k + 1) b' (fun d => if d = zt w h n (MV k) c then zlow (ρ c) (ρ (zt w h n (MV k) c)) else if d = c then zlow (ρ c) (ρ (zt w h n (MV k) c)) else ρ d) _ (by omega) ((F.st (by decide)).st (by decide)) (fun d hd => ?_) (fun d hd => ?_) ?_ (fun e => ?_) (fun e => ?_)
            · try dsimp only
              by_cases q : d = zt w h n (MV k) c
              · rw [q, zs_self, if_pos rfl]
              · rw [zs_slot q, if_neg q]
                by_cases q2 : d = c
                · rw [q2, zs_self, if_pos rfl]
                · rw [zs_slot q2, if_neg q2]; exact hu d hd
            · try dsimp only
              by_cases q : d = zt w h n (MV k) c
              · rw [if_pos q, q]
                exact ⟨Nat.le_trans l1.2 i2.1, fun f hf => (l2 f hf).trans (hf c (by omega) k (by omega)).symm⟩
              · rw [if_neg q]
                by_cases q2 : d = c
                · rw [if_pos q2, q2]
                  exact ⟨Nat.le_trans l1.1 i1.1, l2⟩
                · rw [if_neg q2]; exact hI d hd
            · refine Nat.le_trans (zq_sm_le (fun d hd => ?_)) hS
              try dsimp only
              by_cases q : d = zt w h n (MV k) c
              · rw [if_pos q, q]; exact l1.2
              · rw [if_neg q]
                by_cases q2 : d = c
                · rw [if_pos q2, q2]; exact l1.1
                · rw [if_neg q2]; exact Nat.le_refl _
            · have le : ∀ d, d < n → (if d = zt w h n (MV k) c then zlow (ρ c) (ρ (zt w h n (MV k) c)) else if d = c then zlow (ρ c) (ρ (zt w h n (MV k) c)) else ρ d) ≤ ρ d := fun d hd => by
                by_cases q : d = zt w h n (MV k) c
                · rw [if_pos q, q]; exact l1.2
                · rw [if_neg q]
                  by_cases q2 : d = c
                  · rw [if_pos q2, q2]; exact l1.1
                  · rw [if_neg q2]; exact Nat.le_refl _
              rw [e] at hb'
              cases hbb : b with
              | true => exact Nat.lt_of_le_of_lt (zq_sm_le le) (hb hbb)
              | false =>
                rw [hbb] at hb'
                refine Nat.lt_of_lt_of_le ?_ hS
                by_cases q : ρ c = zlow (ρ c) (ρ (zt w h n (MV k) c))
                · have q2 : ρ (zt w h n (MV k) c) ≠ zlow (ρ c) (ρ (zt w h n (MV k) c)) := by
                    intro z
                    rw [show (ρ c == zlow (ρ c) (ρ (zt w h n (MV k) c))) = true by simpa using q, show (ρ (zt w h n (MV k) c) == zlow (ρ c) (ρ (zt w h n (MV k) c))) = true by simpa using z] at hb'
                    simp at hb'
                  refine zq_sm_lt (e := zt w h n (MV k) c) le hl ?_
                  rw [if_pos rfl]; omega
                · refine zq_sm_lt (e := c) le (by omega) ?_
                  by_cases q3 : c = zt w h n (MV k) c
                  · rw [if_pos q3]; omega
                  · rw [if_neg q3, if_pos rfl]; omega
            · rw [e] at hb'
              have hb2 : b = false ∧ ρ c = zlow (ρ c) (ρ (zt w h n (MV k) c)) ∧ ρ (zt w h n (MV k) c) = zlow (ρ c) (ρ (zt w h n (MV k) c)) := by
                have := hb'.symm
                simp [Bool.or_eq_false_iff] at this
                exact ⟨this.1.1, this.1.2, this.2⟩
              have same : ∀ d, (if d = zt w h n (MV k) c then zlow (ρ c) (ρ (zt w h n (MV k) c)) else if d = c then zlow (ρ c) (ρ (zt w h n (MV k) c)) else ρ d) = ρ d := by
                intro d
                by_cases q : d = zt w h n (MV k) c
                · rw [if_pos q, q, ← hb2.2.2]
                · rw [if_neg q]
                  by_cases q2 : d = c
                  · rw [if_pos q2, q2, ← hb2.2.1]
                  · rw [if_neg q2]
              refine ⟨fun c' hc' k' hk' => ?_, fun k' hk' => ?_⟩
              · show (if zt w h n (MV k') c' = zt w h n (MV k) c then _ else _) = (if c' = zt w h n (MV k) c then _ else _)
                rw [same (zt w h n (MV k') c'), same c']
                exact (hp hb2.1).1 c' hc' k' hk'
              · show (if zt w h n (MV k') c = zt w h n (MV k) c then _ else _) = (if c = zt w h n (MV k) c then _ else _)
                rw [same (zt w h n (MV k') c), same c]
                by_cases q : k' = k
                · rw [q, hb2.2.2, ← hb2.2.1]
                · exact (hp hb2.1).2 k' (by omega)
          have m119 : zm_Z gX9_layRings post 119 [(0, .ref 21), (1, .int x), (2, .int (zb b)), (3, .int (nI c)), (4, .int (nI k)), (5, .int (nI (zt w h n (MV k) c)))] [.int (nI (zlow (ρ c) (ρ (zt w h n (MV k) c))))] u := by
            have ll : zlow (ρ c) (ρ (zt w h n (MV k) c)) ≤ ρ c := by unfold zlow; split <;> omega
            refine bX9_layRings_119 _ _ _ _ _ _ _ _ (zb_ne0 _ (fun e => ?_) (fun e => ⟨pk_in c 36 (by omega), ?_⟩))
            · exact nx true (by rw [e]; rfl)
            · rw [nI_clamp (by omega), nI_clamp (by omega), hu c (by omega), hu _ hl]
              refine zn_ne (ρ c) (zlow (ρ c) (ρ (zt w h n (MV k) c))) (fun e2 => nx true ?_) (fun e2 => ⟨pk_in (zt w h n (MV k) c) 36 (by omega), pk_eq (ρ (zt w h n (MV k) c)) (zlow (ρ c) (ρ (zt w h n (MV k) c))) (fun e3 => nx false ?_) (fun e3 => nx true ?_)⟩)
              · rw [show (ρ c == zlow (ρ c) (ρ (zt w h n (MV k) c))) = false by simpa using e2]; simp
              · rw [e, show (ρ c == zlow (ρ c) (ρ (zt w h n (MV k) c))) = true by simpa using e2, show (ρ (zt w h n (MV k) c) == zlow (ρ c) (ρ (zt w h n (MV k) c))) = true by simpa using e3]; rfl
              · rw [show (ρ (zt w h n (MV k) c) == zlow (ρ c) (ρ (zt w h n (MV k) c))) = false by simpa using e3]; simp
          refine bX9_layRings_81 _ _ _ _ _ _ _ (r_ledTo G (MM u F) hm.1 (by omega) ⟨pk_in c 36 (by omega), pk_in (zt w h n (MV k) c) 36 (by omega), ?_⟩)
          rw [nI_clamp (by omega), nI_clamp (by omega), hu c (by omega), hu _ hl]
          refine pk_le (ρ (zt w h n (MV k) c)) (ρ c) (fun e => ⟨pk_in (zt w h n (MV k) c) 36 (by omega), ?_⟩) (fun e => ⟨pk_in c 36 (by omega), ?_⟩)
          · rw [zlow, if_pos e] at m119; exact m119
          · rw [zlow, if_neg (by omega)] at m119; exact m119
      exact inner T 0 b ρ u (by omega) F hu hI hS hb (fun e => ⟨fun c' hc' => hp e c' hc', fun k' hk' => by omega⟩)
  have whole : ∀ S (b : Bool) ρ u, zF [25] mem u → (∀ d, d < n → u 25 d = nI (ρ d)) → (∀ d, d < n → ρ d ≤ d ∧ ∀ f, zIv w h n T MV f → f (ρ d) = f d) → (b = true → zq_sm ρ n < S) → (b = false → zIv w h n T MV ρ) → zm_Z gX9_layRings post 25 [(0, .ref 21), (1, .int x), (2, .int (zb b))] [] u := by
    intro S
    induction S with
    | zero =>
      intro b ρ u F hu hI h1 h2
      refine bX9_layRings_25 _ _ _ _ (zb_eq0 _ (fun e => ?_) (fun e => by have := h1 e; omega))
      exact fin ρ u F hu (fun d hd => (hI d hd).1) (kk u ρ F ⟨fun d hd => (hI d hd).1, h2 e, fun f hf d hd => (hI d hd).2 f hf⟩ hu) n 0 (by omega)
    | succ S ih =>
      intro b ρ u F hu hI h1 h2
      refine bX9_layRings_25 _ _ _ _ (zb_eq0 _ (fun e => ?_) (fun e => ?_))
      · exact fin ρ u F hu (fun d hd => (hI d hd).1) (kk u ρ F ⟨fun d hd => (hI d hd).1, h2 e, fun f hf d hd => (hI d hd).2 f hf⟩ hu) n 0 (by omega)
      · have := h1 e
        exact pass S false ρ u (fun b' ρ' u' F' hu' hI' h1' h2' => ih b' ρ' u' F' hu' hI' h1' h2') n 0 (by omega) F hu hI (by omega) (fun z => by cases z) (fun _ c' hc' => by omega)
  have first : ∀ f c u, c + f = n → zF [25] mem u → (∀ d, d < c → u 25 d = nI d) → zm_Z gX9_layRings post 2 [(0, .ref 21), (1, .int x), (2, .int (nI c))] [] u := by
    intro f
    induction f with
    | zero =>
      intro c u hc F hu
      refine bX9_layRings_2 _ _ _ _ (r_cells G (MM u F) (pk_le n c (fun _ => ?_) (fun z => by omega)))
      exact whole (zq_sm (fun d => d) n + 1) true (fun d => d) u F (fun d hd => hu d (by omega)) (fun d hd => ⟨Nat.le_refl _, fun f hf => rfl⟩) (fun _ => Nat.lt_succ_self _) (fun z => by cases z)
    | succ f ih =>
      intro c u hc F hu
      refine bX9_layRings_2 _ _ _ _ (r_cells G (MM u F) (pk_le n c (fun z => by omega) (fun _ => ⟨pk_in c 36 (by omega), ?_⟩)))
      rw [nI_clamp (by omega), nI_1]
      refine ih (c + 1) _ (by omega) (F.st (by decide)) (fun d hd => ?_)
      by_cases q : d = c
      · rw [q, zs_self]
      · rw [zs_slot q]; exact hu d (by omega)
  exact bX9_layRings_0 _ _ _ (first n 0 mem (by omega) zF.rf (fun d hd => by omega))
end ZMR
