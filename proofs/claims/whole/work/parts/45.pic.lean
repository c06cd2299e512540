def zm_m0 (f : Nat → Int32) : zm_Mem := fun k j => if k = 10 then f j else if k = 1 then (if j = 2 then 16 else 4) else if k = 2 then (if j = 3 then 2 else 0) else if k = 21 then (if j = 1 then 4 else if j = 2 then 4 else if j = 3 then 2 else 0) else 0
theorem zm_m0_z {f : Nat → Int32} {k : Nat} (h : ¬ k = 10 ∧ ¬ k = 1 ∧ ¬ k = 2 ∧ ¬ k = 21) : zm_m0 f k = fun _ => 0 := by
  obtain ⟨h1, h2, h3, h4⟩ := h
  funext j
  unfold zm_m0
  rw [if_neg h1, if_neg h2, if_neg h3, if_neg h4]
theorem zm_m0_10 {f : Nat → Int32} : zm_m0 f 10 = f := by
  funext j
  unfold zm_m0
  rw [if_pos rfl]
theorem zm_m0_1 {f : Nat → Int32} : zm_m0 f 1 = fun j => if j = 2 then 16 else 4 := by
  funext j
  unfold zm_m0
  rw [if_neg (by decide), if_pos rfl]
theorem zm_m0_2 {f : Nat → Int32} : zm_m0 f 2 = fun j => if j = 3 then 2 else 0 := by
  funext j
  unfold zm_m0
  rw [if_neg (by decide), if_neg (by decide), if_pos rfl]
theorem zm_m0_21 {f : Nat → Int32} : zm_m0 f 21 = fun j => if j = 1 then 4 else if j = 2 then 4 else if j = 3 then 2 else 0 := by
  funext j
  unfold zm_m0
  rw [if_neg (by decide), if_neg (by decide), if_neg (by decide), if_pos rfl]
def zm_go (c1 c2 : ClassId) (ad : Nat → Nat) (mem : zm_Mem) : Nat → List zm_ShE → va_W
  | _, [] => []
  | k, e :: l => (ad k, zm_cell c1 c2 ad (mem k) e) :: zm_go c1 c2 ad mem (k + 1) l
theorem zm_go_of {c1 c2 : ClassId} {ad : Nat → Nat} {mem : zm_Mem} : ∀ (l : List zm_ShE) (k : Nat), l.mapIdx (fun i e => (ad (i + k), zm_cell c1 c2 ad (mem (i + k)) e)) = zm_go c1 c2 ad mem k l := by
  intro l
  induction l with
  | nil => intro k; rfl
  | cons e l ih =>
    intro k
    rw [List.mapIdx_cons, Nat.zero_add]
    refine congrArg (List.cons _) ?_
    rw [← ih (k + 1)]
    congr 1
    funext i e
    rw [Nat.add_right_comm i 1 k, Nat.add_assoc i k 1]
theorem zm_pic_go {c1 c2 : ClassId} {ad : Nat → Nat} {mem : zm_Mem} : zm_pic c1 c2 ad mem = zm_go c1 c2 ad mem 0 zm_sh := zm_go_of zm_sh 0
theorem zm_co {c1 c2 : ClassId} {ad : Nat → Nat} {mem : zm_Mem} {k : Nat} {e : zm_ShE} {l : List zm_ShE} {x : va_E} {r : va_W} (h1 : zm_cell c1 c2 ad (mem k) e = x) (h2 : zm_go c1 c2 ad mem (k + 1) l = r) : zm_go c1 c2 ad mem k (e :: l) = (ad k, x) :: r := by
  rw [← h1, ← h2]
  rfl
theorem zm_ar {c1 c2 : ClassId} {ad : Nat → Nat} {f : Nat → Int32} {k n : Nat} (h : ¬ k = 10 ∧ ¬ k = 1 ∧ ¬ k = 2 ∧ ¬ k = 21) : zm_cell c1 c2 ad (zm_m0 f k) (.inr (false, n)) = .inl (c1, n, .inl (fun _ => 0)) := by
  rw [zm_m0_z h]
  rfl
theorem zm_ab {c1 c2 : ClassId} {ad : Nat → Nat} {f : Nat → Int32} {k n : Nat} (h : ¬ k = 10 ∧ ¬ k = 1 ∧ ¬ k = 2 ∧ ¬ k = 21) : zm_cell c1 c2 ad (zm_m0 f k) (.inr (true, n)) = .inl (c2, n, .inl (fun _ => 0)) := by
  rw [zm_m0_z h]
  rfl
def zm_fg (ad : Nat → Nat) (f : Nat → Int32) : Nat → List (Option Nat) → List Value
  | _, [] => []
  | k, e :: l => zm_fv ad f k e :: zm_fg ad f (k + 1) l
theorem zm_fg_of {ad : Nat → Nat} {f : Nat → Int32} : ∀ (l : List (Option Nat)) (k : Nat), l.mapIdx (fun i e => zm_fv ad f (i + k) e) = zm_fg ad f k l := by
  intro l
  induction l with
  | nil => intro k; rfl
  | cons e l ih =>
    intro k
    rw [List.mapIdx_cons, Nat.zero_add]
    refine congrArg (List.cons _) ?_
    rw [← ih (k + 1)]
    congr 1
    funext i e
    rw [Nat.add_right_comm i 1 k, Nat.add_assoc i k 1]
theorem zm_ob {c1 c2 : ClassId} {ad : Nat → Nat} {f : Nat → Int32} {n : Nat} {l : List (Option Nat)} {r : List Value} (h : zm_fg ad f 0 l = r) : zm_cell c1 c2 ad f (.inl (n, l)) = .inr (n, r) := by
  rw [← h, ← zm_fg_of l 0]
  rfl
section ZPIC
variable {c1 c2 : ClassId} {ad : Nat → Nat} {f : Nat → Int32}
theorem zm_p0 : zm_cell c1 c2 ad (zm_m0 f 0) (.inl (8, [some 1, some 2, some 5, some 6, some 8, some 13, some 15, some 16])) = .inr (8, [.ref (ad 1), .ref (ad 2), .ref (ad 5), .ref (ad 6), .ref (ad 8), .ref (ad 13), .ref (ad 15), .ref (ad 16)]) := by
  rw [zm_m0_z (by decide)]
  exact zm_ob rfl
theorem zm_p1 : zm_cell c1 c2 ad (zm_m0 f 1) (.inl (1, [none, none, none])) = .inr (1, [.int 4, .int 4, .int 16]) := by
  rw [zm_m0_1]
  exact zm_ob rfl
theorem zm_p2 : zm_cell c1 c2 ad (zm_m0 f 2) (.inl (5, [some 1, some 3, some 4, none])) = .inr (5, [.ref (ad 1), .ref (ad 3), .ref (ad 4), .int 2]) := by
  rw [zm_m0_2]
  exact zm_ob rfl
theorem zm_p5 : zm_cell c1 c2 ad (zm_m0 f 5) (.inl (2, [some 1, some 2])) = .inr (2, [.ref (ad 1), .ref (ad 2)]) := by
  rw [zm_m0_z (by decide)]
  exact zm_ob rfl
theorem zm_p6 : zm_cell c1 c2 ad (zm_m0 f 6) (.inl (4, [some 1, some 2, some 7])) = .inr (4, [.ref (ad 1), .ref (ad 2), .ref (ad 7)]) := by
  rw [zm_m0_z (by decide)]
  exact zm_ob rfl
theorem zm_p8 : zm_cell c1 c2 ad (zm_m0 f 8) (.inl (7, [some 1, some 2, some 9, some 10, some 11, some 12, none])) = .inr (7, [.ref (ad 1), .ref (ad 2), .ref (ad 9), .ref (ad 10), .ref (ad 11), .ref (ad 12), .int 0]) := by
  rw [zm_m0_z (by decide)]
  exact zm_ob rfl
theorem zm_p10 : zm_cell c1 c2 ad (zm_m0 f 10) (.inr (false, 36)) = .inl (c1, 36, .inl f) := by
  rw [zm_m0_10]
  rfl
theorem zm_p13 : zm_cell c1 c2 ad (zm_m0 f 13) (.inl (0, [some 1, some 14])) = .inr (0, [.ref (ad 1), .ref (ad 14)]) := by
  rw [zm_m0_z (by decide)]
  exact zm_ob rfl
theorem zm_p15 : zm_cell c1 c2 ad (zm_m0 f 15) (.inl (3, [some 1, some 2])) = .inr (3, [.ref (ad 1), .ref (ad 2)]) := by
  rw [zm_m0_z (by decide)]
  exact zm_ob rfl
theorem zm_p16 : zm_cell c1 c2 ad (zm_m0 f 16) (.inl (6, [some 1, some 2, some 17, some 18, some 19, some 20, none, none])) = .inr (6, [.ref (ad 1), .ref (ad 2), .ref (ad 17), .ref (ad 18), .ref (ad 19), .ref (ad 20), .int 0, .int 0]) := by
  rw [zm_m0_z (by decide)]
  exact zm_ob rfl
theorem zm_p21 : zm_cell c1 c2 ad (zm_m0 f 21) (.inl (9, [none, none, none, none, some 22, some 23, some 24, some 25, some 26, some 27, none, some 28, some 29, some 30, some 31, some 32, some 33, some 34, some 35, some 36, none, some 37])) = .inr (9, [.int 0, .int 4, .int 4, .int 2, .ref (ad 22), .ref (ad 23), .ref (ad 24), .ref (ad 25), .ref (ad 26), .ref (ad 27), .int 0, .ref (ad 28), .ref (ad 29), .ref (ad 30), .ref (ad 31), .ref (ad 32), .ref (ad 33), .ref (ad 34), .ref (ad 35), .ref (ad 36), .int 0, .ref (ad 37)]) := by
  rw [zm_m0_21]
  exact zm_ob rfl
set_option maxRecDepth 100000 in
theorem zm_picX : zm_pic c1 c2 ad (zm_m0 f) = [(ad 0, .inr (8, [.ref (ad 1), .ref (ad 2), .ref (ad 5), .ref (ad 6), .ref (ad 8), .ref (ad 13), .ref (ad 15), .ref (ad 16)])), (ad 1, .inr (1, [.int 4, .int 4, .int 16])), (ad 2, .inr (5, [.ref (ad 1), .ref (ad 3), .ref (ad 4), .int 2])), (ad 3, .inl (c1, 36, .inl (fun _ => 0))), (ad 4, .inl (c1, 36, .inl (fun _ => 0))), (ad 5, .inr (2, [.ref (ad 1), .ref (ad 2)])), (ad 6, .inr (4, [.ref (ad 1), .ref (ad 2), .ref (ad 7)])), (ad 7, .inl (c1, 4, .inl (fun _ => 0))), (ad 8, .inr (7, [.ref (ad 1), .ref (ad 2), .ref (ad 9), .ref (ad 10), .ref (ad 11), .ref (ad 12), .int 0])), (ad 9, .inl (c1, 4, .inl (fun _ => 0))), (ad 10, .inl (c1, 36, .inl f)), (ad 11, .inl (c1, 288, .inl (fun _ => 0))), (ad 12, .inl (c2, 288, .inl (fun _ => 0))), (ad 13, .inr (0, [.ref (ad 1), .ref (ad 14)])), (ad 14, .inl (c2, 36, .inl (fun _ => 0))), (ad 15, .inr (3, [.ref (ad 1), .ref (ad 2)])), (ad 16, .inr (6, [.ref (ad 1), .ref (ad 2), .ref (ad 17), .ref (ad 18), .ref (ad 19), .ref (ad 20), .int 0, .int 0])), (ad 17, .inl (c1, 36, .inl (fun _ => 0))), (ad 18, .inl (c2, 36, .inl (fun _ => 0))), (ad 19, .inl (c1, 36, .inl (fun _ => 0))), (ad 20, .inl (c1, 36, .inl (fun _ => 0))), (ad 21, .inr (9, [.int 0, .int 4, .int 4, .int 2, .ref (ad 22), .ref (ad 23), .ref (ad 24), .ref (ad 25), .ref (ad 26), .ref (ad 27), .int 0, .ref (ad 28), .ref (ad 29), .ref (ad 30), .ref (ad 31), .ref (ad 32), .ref (ad 33), .ref (ad 34), .ref (ad 35), .ref (ad 36), .int 0, .ref (ad 37)])), (ad 22, .inl (c1, 36, .inl (fun _ => 0))), (ad 23, .inl (c1, 36, .inl (fun _ => 0))), (ad 24, .inl (c1, 36, .inl (fun _ => 0))), (ad 25, .inl (c1, 36, .inl (fun _ => 0))), (ad 26, .inl (c1, 4, .inl (fun _ => 0))), (ad 27, .inl (c1, 4, .inl (fun _ => 0))), (ad 28, .inl (c2, 288, .inl (fun _ => 0))), (ad 29, .inl (c1, 288, .inl (fun _ => 0))), (ad 30, .inl (c2, 36, .inl (fun _ => 0))), (ad 31, .inl (c1, 4, .inl (fun _ => 0))), (ad 32, .inl (c1, 36, .inl (fun _ => 0))), (ad 33, .inl (c1, 36, .inl (fun _ => 0))), (ad 34, .inl (c1, 36, .inl (fun _ => 0))), (ad 35, .inl (c2, 36, .inl (fun _ => 0))), (ad 36, .inl (c1, 36, .inl (fun _ => 0))), (ad 37, .inl (c1, 10368, .inl (fun _ => 0)))] := by
  rw [zm_pic_go]
  exact zm_co zm_p0 (zm_co zm_p1 (zm_co zm_p2 (zm_co (zm_ar (by decide)) (zm_co (zm_ar (by decide)) (zm_co zm_p5 (zm_co zm_p6 (zm_co (zm_ar (by decide)) (zm_co zm_p8 (zm_co (zm_ar (by decide)) (zm_co zm_p10 (zm_co (zm_ar (by decide)) (zm_co (zm_ab (by decide)) (zm_co zm_p13 (zm_co (zm_ab (by decide)) (zm_co zm_p15 (zm_co zm_p16 (zm_co (zm_ar (by decide)) (zm_co (zm_ab (by decide)) (zm_co (zm_ar (by decide)) (zm_co (zm_ar (by decide)) (zm_co zm_p21 (zm_co (zm_ar (by decide)) (zm_co (zm_ar (by decide)) (zm_co (zm_ar (by decide)) (zm_co (zm_ar (by decide)) (zm_co (zm_ar (by decide)) (zm_co (zm_ar (by decide)) (zm_co (zm_ab (by decide)) (zm_co (zm_ar (by decide)) (zm_co (zm_ab (by decide)) (zm_co (zm_ar (by decide)) (zm_co (zm_ar (by decide)) (zm_co (zm_ar (by decide)) (zm_co (zm_ar (by decide)) (zm_co (zm_ab (by decide)) (zm_co (zm_ar (by decide)) (zm_co (zm_ar (by decide)) (rfl))))))))))))))))))))))))))))))))))))))
end ZPIC
theorem zm_m0_inv {f : Nat → Int32} (hf : ∀ j, j < 36 → f j = nI j) : zInv (zm_m0 f) := by
  refine ⟨4, 4, 16, 2, fun _ => 0, 0, fun _ => 0, id, ⟨⟨by decide, by decide, by decide, by decide, by decide, by decide, by decide⟩, by decide, by decide, fun _ _ => Or.inl (Nat.succ_pos 1), by decide, fun j hj => by omega, fun c hc => Nat.le_refl _, fun c hc j hj => by omega, fun g hg c hc => rfl⟩, ⟨⟨rfl, rfl, rfl⟩, rfl, fun c hc => rfl, rfl, fun j hj => by omega, fun c hc => ?_⟩, ⟨rfl, rfl⟩, rfl, fun c hc => rfl, rfl, fun j hj => by omega⟩
  show (if 10 = 10 then f c else _) = nI c
  rw [if_pos rfl]
  exact hf c (by omega)
theorem zm_nw0 : ∀ t ∈ zm_NW, Cond.fieldLinkNest t.1 t.2.1 t.2.2.1 t.2.2.2.1 t.2.2.2.2.1 t.2.2.2.2.2 ∈ lw_tbl := by
  have h : (zm_NW.all (fun t => decide (Cond.fieldLinkNest t.1 t.2.1 t.2.2.1 t.2.2.2.1 t.2.2.2.2.1 t.2.2.2.2.2 ∈ lw_tbl))) = true := by decide +kernel
  exact fun t ht => of_decide_eq_true (List.all_eq_true.mp h t ht)
theorem zm_el0 : ∀ j, j < 96 → Cond.eq (Term.elem (Term.static "PaperRepeats$Paints" "ROWS" "[I") (Term.int (Int32.ofNat j))) (Term.int (zm_rows j)) ∈ flatC (Jvm.Cond.and given_1 narrow_1) := by
  have h : ((List.range 96).all (fun j => decide (Cond.eq (Term.elem (Term.static "PaperRepeats$Paints" "ROWS" "[I") (Term.int (Int32.ofNat j))) (Term.int (zm_rows j)) ∈ flatC (Jvm.Cond.and given_1 narrow_1)))) = true := by decide +kernel
  exact fun j hj => of_decide_eq_true (List.all_eq_true.mp h j (List.mem_range.mpr hj))
theorem zm_env0 {args : Array Value} {s : State} (hts : ∀ w ∈ lw_tbl, w.before args s = true) (hgv : (Jvm.Cond.and given_1 narrow_1).before args s = true) : zm_env (fun q : Nat => s.heap.size ≤ q) s s.heap := by
  have htz : ∀ w ∈ zm_tb, w.before args s = true := fun w hw => hts w (List.mem_filter.mp hw).1
  have hs := flat_of_before _ hgv
  have hA : ∀ a : Nat, a < s.heap.size → ¬ (fun q : Nat => s.heap.size ≤ q) a := fun a h => Nat.not_le.mpr h
  refine ⟨fun t ht => va_Nw.of rfl (hts _ (zm_nw0 t ht)), ?_⟩
  obtain ⟨r, h1, h2⟩ := va_Tof (tm := Term.static "PaperRepeats$Paints" "ROWS" "[I") (ty := .int) (N := 96) (f := fun j => .int (zm_rows j)) (A := fun q : Nat => s.heap.size ≤ q) (by decide) (hs _ (by decide +kernel)) (va_eqt (z := 96) (hs _ (by decide +kernel))) (fun j hj => va_eqt (hs _ (zm_el0 j hj))) hA
  exact ⟨r, va_Zref (hts _ ku_533) (htz _ ku_30) h1 hA, h2⟩
theorem zm_arr0 {args : Array Value} {s : State} {ty : FieldType} (hp : ∀ C, ty ≠ .object C) (h : (Cond.arrayClass ty).before args s = true) : ∃ cA, ArrOfT s cA ty ∧ va_RA s cA ty := by
  simp [Cond.before, Cond.holds, Cond.value] at h
  cases hf : s.vm.findClass ("[" ++ ty.toString) with
  | none => rw [hf] at h; simp at h
  | some cA =>
    rw [hf] at h
    simp at h
    obtain ⟨kA, h2, h3⟩ := h
    cases hk : kA.kind with
    | array comp ty2 =>
      rw [hk] at h3
      simp at h3
      subst h3
      refine ⟨cA, fun n z => ⟨fun k h => (by cases h), kA, h2, comp, hk⟩, ?_⟩
      cases ty2 with
      | object C => exact absurd rfl (hp C)
      | _ => exact hf
    | _ => rw [hk] at h3; simp at h3

