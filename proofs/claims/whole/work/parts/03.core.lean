/-! THE MINI MACHINE. A world of 38 cells of a fixed shape: only numbers change. mem k j: the number in slot j of cell k. References are places in the shape. -/
abbrev zm_Mem : Type := Nat → Nat → Int32
abbrev zm_Post : Type := Int32 → Int64 → zm_Mem → Prop
abbrev zm_ShE : Type := (Nat × List (Option Nat)) ⊕ (Bool × Nat)
/-- the shape: an object (its class's number, a reference to a cell or a number a field), or an array (of booleans?, length) -/
def zm_sh : List zm_ShE := [
  .inl (8, [some 1, some 2, some 5, some 6, some 8, some 13, some 15, some 16]),
  .inl (1, [none, none, none]),
  .inl (5, [some 1, some 3, some 4, none]), .inr (false, 36), .inr (false, 36),
  .inl (2, [some 1, some 2]),
  .inl (4, [some 1, some 2, some 7]), .inr (false, 4),
  .inl (7, [some 1, some 2, some 9, some 10, some 11, some 12, none]), .inr (false, 4), .inr (false, 36), .inr (false, 288), .inr (true, 288),
  .inl (0, [some 1, some 14]), .inr (true, 36),
  .inl (3, [some 1, some 2]),
  .inl (6, [some 1, some 2, some 17, some 18, some 19, some 20, none, none]), .inr (false, 36), .inr (true, 36), .inr (false, 36), .inr (false, 36),
  .inl (9, [none, none, none, none, some 22, some 23, some 24, some 25, some 26, some 27, none, some 28, some 29, some 30, some 31, some 32, some 33, some 34, some 35, some 36, none, some 37]),
  .inr (false, 36), .inr (false, 36), .inr (false, 36), .inr (false, 36), .inr (false, 4), .inr (false, 4), .inr (true, 288), .inr (false, 288), .inr (true, 36), .inr (false, 4), .inr (false, 36), .inr (false, 36), .inr (false, 36), .inr (true, 36), .inr (false, 36), .inr (false, 10368)]
def zm_fv (ad : Nat → Nat) (f : Nat → Int32) (j : Nat) (r : Option Nat) : Value := match r with
  | some k => .ref (ad k)
  | none => .int (f j)
def zm_cell (c1 c2 : ClassId) (ad : Nat → Nat) (f : Nat → Int32) (e : zm_ShE) : va_E := match e with
  | .inl o => .inr (o.1, o.2.mapIdx (zm_fv ad f))
  | .inr a => .inl (if a.1 = true then c2 else c1, a.2, .inl f)
def zm_pic (c1 c2 : ClassId) (ad : Nat → Nat) (mem : zm_Mem) : va_W := zm_sh.mapIdx (fun k e => (ad k, zm_cell c1 c2 ad (mem k) e))
/-- one number of the world is another -/
def zm_st (mem : zm_Mem) (k i : Nat) (x : Int32) : zm_Mem := fun q j => if q = k ∧ j = i then x else mem q j
theorem zm_at {c1 c2 : ClassId} {ad : Nat → Nat} {mem : zm_Mem} {k : Nat} {e : zm_ShE} (h : zm_sh[k]? = some e) : (zm_pic c1 c2 ad mem)[k]? = some (ad k, zm_cell c1 c2 ad (mem k) e) := by
  simp [zm_pic, List.getElem?_mapIdx, h]
theorem zm_set {c1 c2 : ClassId} {ad : Nat → Nat} {mem mem' : zm_Mem} {k : Nat} {e : zm_ShE} (h : zm_sh[k]? = some e) (ho : ∀ q, q ≠ k → mem' q = mem q) : (zm_pic c1 c2 ad mem).set k (ad k, zm_cell c1 c2 ad (mem' k) e) = zm_pic c1 c2 ad mem' := by
  apply List.ext_getElem?
  intro i
  have hl : k < zm_sh.length := (List.getElem?_eq_some_iff.mp h).1
  by_cases hi : i = k
  · subst hi
    rw [List.getElem?_set_self (by simpa [zm_pic] using hl), zm_at h]
  · rw [List.getElem?_set_ne (Ne.symm hi)]
    simp [zm_pic, List.getElem?_mapIdx, ho i hi]
theorem zm_dom {c1 c2 : ClassId} {ad : Nat → Nat} {mem mem' : zm_Mem} {A : Nat → Prop} (h : va_D A (zm_pic c1 c2 ad mem)) : va_D A (zm_pic c1 c2 ad mem') := by
  have key : ∀ (k : Nat) (q : Nat × va_E), (zm_pic c1 c2 ad mem')[k]? = some q → ∃ q' : Nat × va_E, (zm_pic c1 c2 ad mem)[k]? = some q' ∧ q'.1 = q.1 := by
    intro k q hq
    simp only [zm_pic, List.getElem?_mapIdx] at hq ⊢
    cases he : zm_sh[k]? with
    | none => rw [he] at hq; cases hq
    | some e => rw [he] at hq; cases hq; exact ⟨_, rfl, rfl⟩
  refine ⟨fun i j p q hp hq e => ?_, fun k q hq => ?_⟩
  · obtain ⟨p', h1, h2⟩ := key i p hp
    obtain ⟨q', h3, h4⟩ := key j q hq
    exact h.1 i j p' q' h1 h3 (by rw [h2, h4, e])
  · obtain ⟨q', h1, h2⟩ := key k q hq
    rw [← h2]
    exact h.2 k q' h1
theorem zm_Asame {c1 c2 : ClassId} {ad : Nat → Nat} {mem mem' : zm_Mem} {sz : Nat} {q : Nat} (h : va_A (zm_pic c1 c2 ad mem') sz q) : va_A (zm_pic c1 c2 ad mem) sz q := by
  rcases h with ⟨k, e, h⟩ | h
  · refine Or.inl ?_
    simp only [zm_pic, List.getElem?_mapIdx] at h ⊢
    cases he : zm_sh[k]? with
    | none => rw [he] at h; cases h
    | some e' =>
      rw [he] at h
      have h2 := Option.some.inj h
      refine ⟨k, zm_cell c1 c2 ad (mem k) e', ?_⟩
      rw [he]
      show some _ = some _
      rw [← (Prod.mk.inj h2).1]
  · exact Or.inr h
/-- the words that ride with every method: those of the tables that stay -/
def zm_tb : List Cond := lw_tbl.filter goodWord
theorem zm_tb_in {w : Cond} (i : Nat) (h : lw_tbl[i]? = some w) (hg : goodWord w = true) : w ∈ zm_tb := List.mem_filter.mpr ⟨List.mem_of_getElem? h, hg⟩
theorem zm_tb_good {L : List Cond} (h : ∀ w ∈ L, w ∈ zm_tb) : GoodIn zm_tb L := fun w hw => ⟨h w hw, good_of_word (List.mem_filter.mp (h w hw)).2⟩
def zm_tys (c1 c2 : ClassId) : List (ClassId × FieldType) := [(c1, .int), (c2, .boolean)]
def zm_NW : List (String × Nat × String × String × String × String) := [("PaperRepeats$Kinds", 28, "PaperRepeats$Grid", "width", "I", "PaperRepeats"), ("PaperRepeats$Pieces", 36, "PaperRepeats$Grid", "cells", "I", "PaperRepeats"), ("PaperRepeats", 79, "PaperRepeats$Grid", "cells", "I", "PaperRepeats"), ("PaperRepeats$Told", 40, "PaperRepeats$Grid", "cells", "I", "PaperRepeats"), ("PaperRepeats$Census", 40, "PaperRepeats$Grid", "cells", "I", "PaperRepeats"), ("PaperRepeats$Kinds", 40, "PaperRepeats$Grid", "cells", "I", "PaperRepeats"), ("PaperRepeats$Paints", 36, "PaperRepeats$Grid", "cells", "I", "PaperRepeats"), ("PaperRepeats$Patch", 30, "PaperRepeats$Grid", "cells", "I", "PaperRepeats"), ("PaperRepeats$Likes", 54, "PaperRepeats$Grid", "cells", "I", "PaperRepeats"), ("PaperRepeats$Pieces", 42, "PaperRepeats$Patch", "hueAt", "[I", "PaperRepeats"), ("PaperRepeats$Likes", 28, "PaperRepeats$Patch", "hueAt", "[I", "PaperRepeats"), ("PaperRepeats", 97, "PaperRepeats$Patch", "hueAt", "[I", "PaperRepeats"), ("PaperRepeats$Paints", 41, "PaperRepeats$Patch", "hueAt", "[I", "PaperRepeats"), ("PaperRepeats$Told", 56, "PaperRepeats$Patch", "hueAt", "[I", "PaperRepeats"), ("PaperRepeats$Paints", 23, "PaperRepeats$Patch", "hues", "I", "PaperRepeats"), ("PaperRepeats", 83, "PaperRepeats$Patch", "hues", "I", "PaperRepeats"), ("PaperRepeats$Told", 61, "PaperRepeats$Patch", "hues", "I", "PaperRepeats"), ("PaperRepeats", 196, "PaperRepeats$Told", "ringOf", "[I", "PaperRepeats"), ("PaperRepeats", 184, "PaperRepeats$Told", "size", "I", "PaperRepeats")]
def zm_rows : Nat → Int32 := fun j => ([0, 1, 2, 3, 0, 1, 3, 2, 0, 2, 1, 3, 0, 2, 3, 1, 0, 3, 1, 2, 0, 3, 2, 1, 1, 0, 2, 3, 1, 0, 3, 2, 1, 2, 0, 3, 1, 2, 3, 0, 1, 3, 0, 2, 1, 3, 2, 0, 2, 0, 1, 3, 2, 0, 3, 1, 2, 1, 0, 3, 2, 1, 3, 0, 2, 3, 0, 1, 2, 3, 1, 0, 3, 0, 1, 2, 3, 0, 2, 1, 3, 1, 0, 2, 3, 1, 2, 0, 3, 2, 0, 1, 3, 2, 1, 0] : List Int32).getD j 0
def zm_env (A : Nat → Prop) (U : State) (H : Heap) : Prop := (∀ t ∈ zm_NW, va_Nw (.fieldLinkNest t.1 t.2.1 t.2.2.1 t.2.2.2.1 t.2.2.2.2.1 t.2.2.2.2.2) U) ∧ ∃ r : Nat, va_Z RX4 "ROWS" "[I" (.ref r) A U H ∧ va_T .int r 96 (fun j => .int (zm_rows j)) A U H
theorem zm_env.go {A B : Nat → Prop} {s U : State} {H0 H : Heap} {locs : List Loc} (h : zm_env A s H0) (hW : s.WarmedH U.vm) (hS : va_S A H0 H locs) (hB : ∀ q, B q → A q) : zm_env B U H := by
  obtain ⟨h1, r, h2, h3⟩ := h
  refine ⟨fun t ht => va_Nw.warmF hW (h1 t ht), r, ?_, ?_⟩
  · exact ((h2.kept (H1 := H) (fun a ha hn => hS.2.1 a ha hn)).narrow hB).moved hW.alike
  · exact ((h3.kept (H1 := H) (fun a ha hn => hS.2.1 a ha hn)).narrow hB).moved hW.alike
abbrev zm_Sig : Type := MethodName × ByteArray × Nat × Option FieldType × Nat × Nat
def zm_ws (g : zm_Sig) : List Cond := .code g.1 g.2.1 g.2.2.1 g.2.2.2.1 :: zm_tb
def zm_rm (g : zm_Sig) : Room := { frames := g.2.2.2.2.1, cells := 0, slots := 0, locals := g.2.2.2.2.2 }
def zm_v (ad : Nat → Nat) (v : Value) : Value := match v with
  | .ref k => .ref (ad k)
  | w => w
theorem zm_v_cat (ad : Nat → Nat) (v : Value) : (zm_v ad v).category = v.category := by cases v <;> rfl
def zm_B (D : va_G) (c1 c2 : ClassId) (ad : Nat → Nat) (A : Nat → Prop) (mem : zm_Mem) (t : State) : Prop := va_P D zm_classes (zm_pic c1 c2 ad mem) t.heap ∧ va_K D zm_classes (zm_tys c1 c2) t ∧ va_D A (zm_pic c1 c2 ad mem)
def zm_Q (ret : Option FieldType) (post : zm_Post) (B : zm_Mem → State → Prop) (A : Nat → Prop) : Array Value → State → Outcome → State → Prop := match ret with
  | none => va_Qv (fun u => post 0 0 u) B A
  | some .long => va_Ql (fun r u => post 0 r u) B A
  | some _ => va_Qi (fun r u => post r 0 u) B A
def zm_Pc (D : va_G) (c1 c2 : ClassId) (ad : Nat → Nat) (sz : Nat) (as : List Value) (mem : zm_Mem) : Array Value → State → Prop := fun v U => v = (as.map (zm_v ad)).toArray ∧ U.heap.size = sz ∧ va_P D zm_classes (zm_pic c1 c2 ad mem) U.heap ∧ va_K D zm_classes (zm_tys c1 c2) U ∧ va_D (fun _ => True) (zm_pic c1 c2 ad mem) ∧ zm_env (va_A (zm_pic c1 c2 ad mem) sz) U U.heap
/-- THE CONTRACT of a method: called so, over this world, it comes back, and what it answers and leaves is in post -/
def zm_Call (g : zm_Sig) (as : List Value) (mem : zm_Mem) (post : zm_Post) : Prop := ∀ (l : Launch) (D : va_G) (c1 c2 : ClassId) (ad : Nat → Nat) (sz : Nat), Met l g.1 (zm_ws g) (zm_rm g) (zm_Pc D c1 c2 ad sz as mem) (zm_Q g.2.2.2.1 post (zm_B D c1 c2 ad (va_A (zm_pic c1 c2 ad mem) sz)) (va_A (zm_pic c1 c2 ad mem) sz)) 0 0 (va_A (zm_pic c1 c2 ad mem) sz)
/-- what stands still while a method runs -/
def zm_At (g : zm_Sig) (p : Program) (s : State) (m : MethodId) (args : Array Value) (meth : Method) (c : Code) (D : va_G) (c1 c2 : ClassId) (A : Nat → Prop) : Prop :=
  p.tables.exec = Jvm.exec ∧ c.code = g.2.1 ∧ meth.sig.returnType = g.2.2.2.1 ∧ meth.locks = false ∧ c.maxLocals = g.2.2.1 ∧ s.vm.findClass g.1.cls = some m.cls ∧ (∀ w ∈ zm_tb, w.before args s = true) ∧ va_K D zm_classes (zm_tys c1 c2) s ∧ (∀ q : Nat, s.heap.size ≤ q → A q) ∧ zm_env A s s.heap
def zm_Dy (D : va_G) (c1 c2 : ClassId) (ad : Nat → Nat) (A : Nat → Prop) (mem : zm_Mem) (s : State) (H : Heap) (locs : List Loc) : Prop := va_P D zm_classes (zm_pic c1 c2 ad mem) H ∧ va_D A (zm_pic c1 c2 ad mem) ∧ va_S A s.heap H locs
def zm_lv (ad : Nat → Nat) (lv : List (Nat × Value)) : List (Nat × Value) := lv.map (fun q => (q.1, zm_v ad q.2))
/-- at pc of the method g, with these locals, stack and numbers: it comes to its end, and what it answers is in post -/
def zm_Z (g : zm_Sig) (post : zm_Post) (pc : Nat) (lv : List (Nat × Value)) (st : List Value) (mem : zm_Mem) : Prop :=
  ∀ (p : Program) (l : Launch) (e : Env) (s : State) (m : MethodId) (args : Array Value) (below : List Frame) (meth : Method) (c : Code) (D : va_G) (c1 c2 : ClassId) (ad : Nat → Nat) (A : Nat → Prop), zm_At g p s m args meth c D c1 c2 A →
    ∀ (H : Heap) (locs : List Loc) (ls : Array Slot), zm_Dy D c1 c2 ad A mem s H locs → lv_has ls g.2.2.1 (zm_lv ad lv) →
      W p l e (zm_rm g) s m args below meth c H locs 0 0 (MQ below (zm_Q g.2.2.2.1 post (zm_B D c1 c2 ad A) A) args s 0 0 A) (F0 m pc ls (st.map (zm_v ad)))
theorem zm_lv_at {ad : Nat → Nat} {lv : List (Nat × Value)} {ls : Array Slot} {nL : Nat} (hl : lv_has ls nL (zm_lv ad lv)) {j i : Nat} {v : Value} (h : lv[j]? = some (i, v)) : ls[i]? = some (.val (zm_v ad v)) := lv_at hl j (by simp [zm_lv, List.getElem?_map, h])
def zm_put1 (i : Nat) (v : Value) (lv : List (Nat × Value)) : List (Nat × Value) := (i, v) :: lv.filter (fun q => !(q.1 == i) && !(q.1 + 1 == i && q.2.category == 2))
def zm_put2 (i : Nat) (v : Value) (lv : List (Nat × Value)) : List (Nat × Value) := (i, v) :: lv.filter (fun q => !(q.1 == i) && (!(q.1 == i + 1) && !(q.1 + 1 == i && q.2.category == 2)))
theorem zm_put1_map (ad : Nat → Nat) (i : Nat) (v : Value) (lv : List (Nat × Value)) : (i, zm_v ad v) :: (zm_lv ad lv).filter (fun q => !(q.1 == i) && !(q.1 + 1 == i && q.2.category == 2)) = zm_lv ad (zm_put1 i v lv) := by
  simp [zm_lv, zm_put1, List.filter_map, Function.comp_def, zm_v_cat]
theorem zm_put2_map (ad : Nat → Nat) (i : Nat) (v : Value) (lv : List (Nat × Value)) : (i, zm_v ad v) :: (zm_lv ad lv).filter (fun q => !(q.1 == i) && (!(q.1 == i + 1) && !(q.1 + 1 == i && q.2.category == 2))) = zm_lv ad (zm_put2 i v lv) := by
  simp [zm_lv, zm_put2, List.filter_map, Function.comp_def, zm_v_cat]
