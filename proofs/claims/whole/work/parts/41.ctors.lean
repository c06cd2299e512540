/-! CONSTRUCTORS, with the kit's rows: worlds of their own cells -/
section ZNEW
variable {p : Program} {l : Launch} {e : Env} {R : Room} {s : State} {m : MethodId} {args : Array Value} {below : List Frame} {meth : Method} {c : Code} {H H0 : Heap} {locs : List Loc} {cells slots : Nat} {Q : State → Prop} {D : va_G} {c1 c2 : ClassId} {A : Nat → Prop} {ws : va_W} {cc : ByteArray} {pc : Nat} {ls : Array Slot} {rest : List Value}
theorem zn_newi (hexec : p.tables.exec = Jvm.exec) (hb : c.code = cc) (harr : (Cond.arrayClass .int).before args s = true) (hK : va_K D zm_classes (zm_tys c1 c2) s) (hP : va_P D zm_classes ws H) (hD : va_D A ws) (hS : va_S A H0 H locs) (hA : ∀ q, H0.size ≤ q → A q) {n : Int32} (N : Nat) (hn : ¬ n < 0) (hN : n.toNatClampNeg = N) (hbytes : N * componentBytes .int ≤ 536870912) (hcells : cells + 1 ≤ R.cells) (hslots : slots + N ≤ R.slots) (hdg : decode cc pc = .ok (.newarray .int, 2))
    (kk : ∀ (q : Nat) (H1 : Heap), va_P D zm_classes (ws ++ [(q, .inl (c1, N, .inl (fun _ => 0)))]) H1 → va_D A (ws ++ [(q, .inl (c1, N, .inl (fun _ => 0)))]) → va_S A H0 H1 locs → W p l e R s m args below meth c H1 locs (cells + 1) (slots + N) Q (F0 m (pc + 2) ls (.ref q :: rest))) : W p l e R s m args below meth c H locs cells slots Q (F0 m pc ls (.int n :: rest)) := by
  refine va_newa (atype := .int) (ty := .int) (a0 := (N, .inl (fun _ => 0))) hexec hb harr rfl hK hP hD hS hA (fun _ => rfl) hn hN hbytes hcells hslots hdg (fun q cA H1 hK1 hP1 hD1 hS1 => ?_)
  have e1 : s.vm.findClass ("[" ++ FieldType.int.toString) = some cA := (hK1.2 2 (cA, .int) rfl).2
  have e2 : s.vm.findClass ("[" ++ FieldType.int.toString) = some c1 := (hK.2 0 (c1, .int) rfl).2
  rw [e1] at e2
  cases e2
  exact kk q H1 hP1 hD1 hS1
theorem zn_newz (hexec : p.tables.exec = Jvm.exec) (hb : c.code = cc) (harr : (Cond.arrayClass .boolean).before args s = true) (hK : va_K D zm_classes (zm_tys c1 c2) s) (hP : va_P D zm_classes ws H) (hD : va_D A ws) (hS : va_S A H0 H locs) (hA : ∀ q, H0.size ≤ q → A q) {n : Int32} (N : Nat) (hn : ¬ n < 0) (hN : n.toNatClampNeg = N) (hbytes : N * componentBytes .boolean ≤ 536870912) (hcells : cells + 1 ≤ R.cells) (hslots : slots + N ≤ R.slots) (hdg : decode cc pc = .ok (.newarray .boolean, 2))
    (kk : ∀ (q : Nat) (H1 : Heap), va_P D zm_classes (ws ++ [(q, .inl (c2, N, .inl (fun _ => 0)))]) H1 → va_D A (ws ++ [(q, .inl (c2, N, .inl (fun _ => 0)))]) → va_S A H0 H1 locs → W p l e R s m args below meth c H1 locs (cells + 1) (slots + N) Q (F0 m (pc + 2) ls (.ref q :: rest))) : W p l e R s m args below meth c H locs cells slots Q (F0 m pc ls (.int n :: rest)) := by
  refine va_newa (atype := .boolean) (ty := .boolean) (a0 := (N, .inl (fun _ => 0))) hexec hb harr rfl hK hP hD hS hA (fun _ => rfl) hn hN hbytes hcells hslots hdg (fun q cA H1 hK1 hP1 hD1 hS1 => ?_)
  have e1 : s.vm.findClass ("[" ++ FieldType.boolean.toString) = some cA := (hK1.2 2 (cA, .boolean) rfl).2
  have e2 : s.vm.findClass ("[" ++ FieldType.boolean.toString) = some c2 := (hK.2 1 (c2, .boolean) rfl).2
  rw [e1] at e2
  cases e2
  exact kk q H1 hP1 hD1 hS1
end ZNEW
theorem zm_goodI {g : zm_Sig} (h : Cond.code g.1 g.2.1 g.2.2.1 g.2.2.2.1 ∈ zm_tb) : GoodIn zm_tb (zm_ws g) := zm_tb_good (fun w hw => by
  rcases List.mem_cons.mp hw with q | q
  · rw [q]; exact h
  · exact q)
theorem zm_in {ws : List Cond} (h : ∀ w ∈ ws, w ∈ zm_tb) : ∀ w ∈ ws, w ∈ lw_tbl := fun w hw => (List.mem_filter.mp (h w hw)).1
theorem kw_43 : Cond.instanceMethod objectInit ∈ zm_tb := zm_tb_in 43 (by decide +kernel) (by decide +kernel)
theorem kw_44 : Cond.code objectInit ⟨#[0xb1]⟩ 1 none ∈ zm_tb := zm_tb_in 44 (by rfl) (by decide +kernel)
theorem kw_97 : Cond.arrayClass .int ∈ zm_tb := zm_tb_in 97 (by decide +kernel) (by decide +kernel)
theorem kw_157 : Cond.arrayClass .boolean ∈ zm_tb := zm_tb_in 157 (by decide +kernel) (by decide +kernel)
theorem dX0_init_0 : decode cX0_init 0 = .ok (.aload_n 0, 1) := by decide +kernel
theorem dX0_init_1 : decode cX0_init 1 = .ok (.invokespecial 3, 3) := by decide +kernel
theorem dX0_init_4 : decode cX0_init 4 = .ok (.aload_n 0, 1) := by decide +kernel
theorem dX0_init_5 : decode cX0_init 5 = .ok (.bipush 36, 2) := by decide +kernel
theorem dX0_init_7 : decode cX0_init 7 = .ok (.newarray .boolean, 2) := by decide +kernel
theorem dX0_init_9 : decode cX0_init 9 = .ok (.putfield 9, 3) := by decide +kernel
theorem dX0_init_12 : decode cX0_init 12 = .ok (.aload_n 0, 1) := by decide +kernel
theorem dX0_init_13 : decode cX0_init 13 = .ok (.aload_n 1, 1) := by decide +kernel
theorem dX0_init_14 : decode cX0_init 14 = .ok (.putfield 15, 3) := by decide +kernel
theorem dX0_init_17 : decode cX0_init 17 = .ok (.return_, 1) := by decide +kernel
abbrev gX0_init : zm_Sig := (yX0_init, cX0_init, 2, none, 1, 12)
theorem kcX0 : Cond.code yX0_init cX0_init 2 none ∈ zm_tb := zm_tb_in 162 (by decide +kernel) (by decide +kernel)
theorem kw_163 : Cond.methodLink RX0 3 objectInit ∈ zm_tb := zm_tb_in 163 (by decide +kernel) (by decide +kernel)
theorem kw_165 : Cond.fieldLink RX0 9 (TX0 1).1 (TX0 1).2.1 (TX0 1).2.2.1 ∈ zm_tb := zm_tb_in 165 (by decide +kernel) (by decide +kernel)
theorem kw_164 : Cond.fieldLink RX0 15 (TX0 0).1 (TX0 0).2.1 (TX0 0).2.2.1 ∈ zm_tb := zm_tb_in 164 (by decide +kernel) (by decide +kernel)
set_option maxHeartbeats 4000000 in
set_option maxRecDepth 100000 in
theorem kX0_init (l : Launch) (D : va_G) (c1 c2 : ClassId) (h0 a1 : Nat) (sz : Nat) : Met l yX0_init (zm_ws gX0_init) ({ frames := 1, cells := 1, slots := 36, locals := 12 }) (va_Pc [.ref h0, .ref a1] (fun U => U.heap.size = sz ∧ va_P D zm_classes [(h0, .inr (0, [.null, .null]))] U.heap ∧ va_K D zm_classes (zm_tys c1 c2) U ∧ va_D (fun _ => True) [(h0, .inr (0, [.null, .null]))])) (va_Qv (fun _ : Unit => True) (fun _ t => ∃ (q1 : Nat), va_P D zm_classes [(h0, .inr (0, [.ref a1, .ref q1])), (q1, .inl (c2, 36, .inl (fun _ => 0)))] t.heap ∧ va_K D zm_classes (zm_tys c1 c2) t ∧ va_D (va_A [(h0, .inr (0, [.null, .null]))] sz) [(h0, .inr (0, [.ref a1, .ref q1])), (q1, .inl (c2, 36, .inl (fun _ => 0)))]) (va_A [(h0, .inr (0, [.null, .null]))] sz)) 1 36 (va_A [(h0, .inr (0, [.null, .null]))] sz) := by
  refine Met.ofW (cc := cX0_init) (maxL := 2) (ret := none) (by decide +kernel) rfl ?_
  intro p e s m args below meth c s₁ B hml hv
  obtain ⟨rfl, hsz, hP, hK, hD0⟩ := hv
  have hx := B.exec
  have hb := B.bytes
  have hr := B.returns
  have hts0 := atoms_spec (ws := zm_ws gX0_init) B.pre
  have hts : ∀ w ∈ zm_tb, w.before _ s = true := fun w hw => hts0 w (List.mem_cons_of_mem _ hw)
  have hown : s.vm.findClass RX0 = some m.cls := findClass_of_methodNamed B.named
  have hlocks := B.notSynchronized
  have hin : meth.name = "<init>" := (name_of_methodNamed B.named B.method).1
  subst hsz
  have hD := hD0.self (sz := s.heap.size)
  generalize hAe : va_A [(h0, .inr (0, [.null, .null]))] s.heap.size = A at hD ⊢
  have hA : ∀ q : Nat, s.heap.size ≤ q → A q := fun q h => by rw [← hAe]; exact Or.inr h
  have hS : va_S A s.heap s.heap [] := va_S.rf
  have hP : va_P D zm_classes [(h0, .inr (0, [.null, .null]))] s.heap := hP
  have hl := lv_entry ([.ref h0, .ref a1]) (n := 2) (Nat.le_of_ble_eq_true rfl)
  rw [lg_entry_eq]
  generalize (lg_sl ([.ref h0, .ref a1]) ++ List.replicate (2 - (lg_sl ([.ref h0, .ref a1])).length) Slot.unset).toArray = ls at hl ⊢
  have hl : lv_has ls 2 [(0, .ref h0), (1, .ref a1)] := hl
  refine lv_aload_n hx hb dX0_init_0 rfl (lv_at hl 0 rfl) ?_
  refine W.objInit hx hb hown (hts _ kw_163) (hts _ kw_43) (hts _ kw_44) rfl (by rw [hml]; exact hl.1) rfl dX0_init_1 (Nat.le_of_ble_eq_true rfl) (Nat.le_of_ble_eq_true rfl) ?_
  refine W.eq (g2 := F0 m 4 ls []) rfl ?_
  refine lv_aload_n hx hb dX0_init_4 rfl (lv_at hl 0 rfl) ?_
  refine lv_bipush (v := 36) hx hb dX0_init_5 (by decide) ?_
  refine zn_newz hx hb (hts _ kw_157) hK hP hD hS hA 36 (by decide) (by decide) (by decide) (Nat.le_of_ble_eq_true rfl) (Nat.le_of_ble_eq_true rfl) dX0_init_7 (fun q1 H hP hD hS => ?_)
  have hP : va_P D zm_classes [(h0, .inr (0, [.null, .null])), (q1, .inl (c2, 36, .inl (fun _ => 0)))] H := hP
  have hD : va_D A [(h0, .inr (0, [.null, .null])), (q1, .inl (c2, 36, .inl (fun _ => 0)))] := hD
  refine W.widen (k := 1) (n := 36) (by omega) (by omega) ?_
  refine va_putF (D := D) (ci := 0) (v := .ref q1) (ty := tyX0 1) (C := RX0) (T := TX0) (N := 2) hx hb hts hX0 tyX0 tyX0_ok nmX0 hown hK hP hD hS 0 rfl rfl 1 (by decide) (hts _ kw_165) (fun _ h9 => h9) rfl hin rfl (tyX0_ok 1 (by decide)) rfl rfl (Nat.le_of_ble_eq_true rfl) dX0_init_9 (fun H locs hP hD hS => ?_)
  have hP : va_P D zm_classes [(h0, .inr (0, [.null, .ref q1])), (q1, .inl (c2, 36, .inl (fun _ => 0)))] H := hP
  have hD : va_D A [(h0, .inr (0, [.null, .ref q1])), (q1, .inl (c2, 36, .inl (fun _ => 0)))] := hD
  refine lv_aload_n hx hb dX0_init_12 rfl (lv_at hl 0 rfl) ?_
  refine lv_aload_n hx hb dX0_init_13 rfl (lv_at hl 1 rfl) ?_
  refine va_putF (D := D) (ci := 0) (v := .ref a1) (ty := tyX0 0) (C := RX0) (T := TX0) (N := 2) hx hb hts hX0 tyX0 tyX0_ok nmX0 hown hK hP hD hS 0 rfl rfl 0 (by decide) (hts _ kw_164) (fun _ h9 => h9) rfl hin rfl (tyX0_ok 0 (by decide)) rfl rfl (Nat.le_of_ble_eq_true rfl) dX0_init_14 (fun H locs hP hD hS => ?_)
  have hP : va_P D zm_classes [(h0, .inr (0, [.ref a1, .ref q1])), (q1, .inl (c2, 36, .inl (fun _ => 0)))] H := hP
  have hD : va_D A [(h0, .inr (0, [.ref a1, .ref q1])), (q1, .inl (c2, 36, .inl (fun _ => 0)))] := hD
  have hP9 := hP.sub (ws' := [(h0, .inr (0, [.ref a1, .ref q1])), (q1, .inl (c2, 36, .inl (fun _ => 0)))]) [0, 1] rfl
  have hD9 := hD.sub (ws' := [(h0, .inr (0, [.ref a1, .ref q1])), (q1, .inl (c2, 36, .inl (fun _ => 0)))]) [0, 1] (by decide) rfl
  exact W.vret hx hb hr (fun t ht hW => ⟨⟨(), rfl, trivial, q1, by rw [ht]; exact hP9, va_K.moved hW.alike hK, hD9⟩, hS.F ht⟩) hS.2.2 dX0_init_17
theorem dX1_init_0 : decode cX1_init 0 = .ok (.aload_n 0, 1) := by decide +kernel
theorem dX1_init_1 : decode cX1_init 1 = .ok (.invokespecial 3, 3) := by decide +kernel
theorem dX1_init_4 : decode cX1_init 4 = .ok (.aload_n 0, 1) := by decide +kernel
theorem dX1_init_5 : decode cX1_init 5 = .ok (.iconst 4, 1) := by decide +kernel
theorem dX1_init_6 : decode cX1_init 6 = .ok (.putfield 9, 3) := by decide +kernel
theorem dX1_init_9 : decode cX1_init 9 = .ok (.aload_n 0, 1) := by decide +kernel
theorem dX1_init_10 : decode cX1_init 10 = .ok (.iconst 4, 1) := by decide +kernel
theorem dX1_init_11 : decode cX1_init 11 = .ok (.putfield 15, 3) := by decide +kernel
theorem dX1_init_14 : decode cX1_init 14 = .ok (.aload_n 0, 1) := by decide +kernel
theorem dX1_init_15 : decode cX1_init 15 = .ok (.bipush 16, 2) := by decide +kernel
theorem dX1_init_17 : decode cX1_init 17 = .ok (.putfield 18, 3) := by decide +kernel
theorem dX1_init_20 : decode cX1_init 20 = .ok (.return_, 1) := by decide +kernel
abbrev gX1_init : zm_Sig := (yX1_init, cX1_init, 1, none, 1, 12)
theorem kcX1 : Cond.code yX1_init cX1_init 1 none ∈ zm_tb := zm_tb_in 49 (by decide +kernel) (by decide +kernel)
theorem kw_50 : Cond.methodLink RX1 3 objectInit ∈ zm_tb := zm_tb_in 50 (by decide +kernel) (by decide +kernel)
theorem kw_51 : Cond.fieldLink RX1 9 (TX1 0).1 (TX1 0).2.1 (TX1 0).2.2.1 ∈ zm_tb := zm_tb_in 51 (by decide +kernel) (by decide +kernel)
theorem kw_53 : Cond.fieldLink RX1 15 (TX1 1).1 (TX1 1).2.1 (TX1 1).2.2.1 ∈ zm_tb := zm_tb_in 53 (by decide +kernel) (by decide +kernel)
theorem kw_54 : Cond.fieldLink RX1 18 (TX1 2).1 (TX1 2).2.1 (TX1 2).2.2.1 ∈ zm_tb := zm_tb_in 54 (by decide +kernel) (by decide +kernel)
set_option maxHeartbeats 4000000 in
set_option maxRecDepth 100000 in
theorem kX1_init (l : Launch) (D : va_G) (c1 c2 : ClassId) (h0 : Nat) (sz : Nat) : Met l yX1_init (zm_ws gX1_init) ({ frames := 1, cells := 0, slots := 0, locals := 12 }) (va_Pc [.ref h0] (fun U => U.heap.size = sz ∧ va_P D zm_classes [(h0, .inr (1, [.int 0, .int 0, .int 0]))] U.heap ∧ va_K D zm_classes (zm_tys c1 c2) U ∧ va_D (fun _ => True) [(h0, .inr (1, [.int 0, .int 0, .int 0]))])) (va_Qv (fun _ : Unit => True) (fun _ t => va_P D zm_classes [(h0, .inr (1, [.int 4, .int 4, .int 16]))] t.heap ∧ va_K D zm_classes (zm_tys c1 c2) t ∧ va_D (va_A [(h0, .inr (1, [.int 0, .int 0, .int 0]))] sz) [(h0, .inr (1, [.int 4, .int 4, .int 16]))]) (va_A [(h0, .inr (1, [.int 0, .int 0, .int 0]))] sz)) 0 0 (va_A [(h0, .inr (1, [.int 0, .int 0, .int 0]))] sz) := by
  refine Met.ofW (cc := cX1_init) (maxL := 1) (ret := none) (by decide +kernel) rfl ?_
  intro p e s m args below meth c s₁ B hml hv
  obtain ⟨rfl, hsz, hP, hK, hD0⟩ := hv
  have hx := B.exec
  have hb := B.bytes
  have hr := B.returns
  have hts0 := atoms_spec (ws := zm_ws gX1_init) B.pre
  have hts : ∀ w ∈ zm_tb, w.before _ s = true := fun w hw => hts0 w (List.mem_cons_of_mem _ hw)
  have hown : s.vm.findClass RX1 = some m.cls := findClass_of_methodNamed B.named
  have hlocks := B.notSynchronized
  have hin : meth.name = "<init>" := (name_of_methodNamed B.named B.method).1
  subst hsz
  have hD := hD0.self (sz := s.heap.size)
  generalize hAe : va_A [(h0, .inr (1, [.int 0, .int 0, .int 0]))] s.heap.size = A at hD ⊢
  have hA : ∀ q : Nat, s.heap.size ≤ q → A q := fun q h => by rw [← hAe]; exact Or.inr h
  have hS : va_S A s.heap s.heap [] := va_S.rf
  have hP : va_P D zm_classes [(h0, .inr (1, [.int 0, .int 0, .int 0]))] s.heap := hP
  have hl := lv_entry ([.ref h0]) (n := 1) (Nat.le_of_ble_eq_true rfl)
  rw [lg_entry_eq]
  generalize (lg_sl ([.ref h0]) ++ List.replicate (1 - (lg_sl ([.ref h0])).length) Slot.unset).toArray = ls at hl ⊢
  have hl : lv_has ls 1 [(0, .ref h0)] := hl
  refine lv_aload_n hx hb dX1_init_0 rfl (lv_at hl 0 rfl) ?_
  refine W.objInit hx hb hown (hts _ kw_50) (hts _ kw_43) (hts _ kw_44) rfl (by rw [hml]; exact hl.1) rfl dX1_init_1 (Nat.le_of_ble_eq_true rfl) (Nat.le_of_ble_eq_true rfl) ?_
  refine W.eq (g2 := F0 m 4 ls []) rfl ?_
  refine lv_aload_n hx hb dX1_init_4 rfl (lv_at hl 0 rfl) ?_
  refine lv_iconst (v := 4) hx hb dX1_init_5 (by decide) ?_
  refine va_put (D := D) (ci := 1) (v := .int 4) (ty := tyX1 0) (C := RX1) (T := TX1) (N := 3) hx hb hts hX1 tyX1 tyX1_ok nmX1 hown hK hP hD hS 0 rfl rfl 0 (by decide) (hts _ kw_51) (fun _ h9 => h9) rfl (tyX1_ok 0 (by decide)) rfl rfl (Nat.le_of_ble_eq_true rfl) dX1_init_6 (fun H locs hP hD hS => ?_)
  have hP : va_P D zm_classes [(h0, .inr (1, [.int 4, .int 0, .int 0]))] H := hP
  have hD : va_D A [(h0, .inr (1, [.int 4, .int 0, .int 0]))] := hD
  refine lv_aload_n hx hb dX1_init_9 rfl (lv_at hl 0 rfl) ?_
  refine lv_iconst (v := 4) hx hb dX1_init_10 (by decide) ?_
  refine va_put (D := D) (ci := 1) (v := .int 4) (ty := tyX1 1) (C := RX1) (T := TX1) (N := 3) hx hb hts hX1 tyX1 tyX1_ok nmX1 hown hK hP hD hS 0 rfl rfl 1 (by decide) (hts _ kw_53) (fun _ h9 => h9) rfl (tyX1_ok 1 (by decide)) rfl rfl (Nat.le_of_ble_eq_true rfl) dX1_init_11 (fun H locs hP hD hS => ?_)
  have hP : va_P D zm_classes [(h0, .inr (1, [.int 4, .int 4, .int 0]))] H := hP
  have hD : va_D A [(h0, .inr (1, [.int 4, .int 4, .int 0]))] := hD
  refine lv_aload_n hx hb dX1_init_14 rfl (lv_at hl 0 rfl) ?_
  refine lv_bipush (v := 16) hx hb dX1_init_15 (by decide) ?_
  refine va_put (D := D) (ci := 1) (v := .int 16) (ty := tyX1 2) (C := RX1) (T := TX1) (N := 3) hx hb hts hX1 tyX1 tyX1_ok nmX1 hown hK hP hD hS 0 rfl rfl 2 (by decide) (hts _ kw_54) (fun _ h9 => h9) rfl (tyX1_ok 2 (by decide)) rfl rfl (Nat.le_of_ble_eq_true rfl) dX1_init_17 (fun H locs hP hD hS => ?_)
  have hP : va_P D zm_classes [(h0, .inr (1, [.int 4, .int 4, .int 16]))] H := hP
  have hD : va_D A [(h0, .inr (1, [.int 4, .int 4, .int 16]))] := hD
  have hP9 := hP.sub (ws' := [(h0, .inr (1, [.int 4, .int 4, .int 16]))]) [0] rfl
  have hD9 := hD.sub (ws' := [(h0, .inr (1, [.int 4, .int 4, .int 16]))]) [0] (by decide) rfl
  exact W.vret hx hb hr (fun t ht hW => ⟨⟨(), rfl, trivial, by rw [ht]; exact hP9, va_K.moved hW.alike hK, hD9⟩, hS.F ht⟩) hS.2.2 dX1_init_20
theorem dX2_init_0 : decode cX2_init 0 = .ok (.aload_n 0, 1) := by decide +kernel
theorem dX2_init_1 : decode cX2_init 1 = .ok (.invokespecial 3, 3) := by decide +kernel
theorem dX2_init_4 : decode cX2_init 4 = .ok (.aload_n 0, 1) := by decide +kernel
theorem dX2_init_5 : decode cX2_init 5 = .ok (.aload_n 1, 1) := by decide +kernel
theorem dX2_init_6 : decode cX2_init 6 = .ok (.putfield 9, 3) := by decide +kernel
theorem dX2_init_9 : decode cX2_init 9 = .ok (.aload_n 0, 1) := by decide +kernel
theorem dX2_init_10 : decode cX2_init 10 = .ok (.aload_n 2, 1) := by decide +kernel
theorem dX2_init_11 : decode cX2_init 11 = .ok (.putfield 15, 3) := by decide +kernel
theorem dX2_init_14 : decode cX2_init 14 = .ok (.return_, 1) := by decide +kernel
abbrev gX2_init : zm_Sig := (yX2_init, cX2_init, 3, none, 1, 12)
theorem kcX2 : Cond.code yX2_init cX2_init 3 none ∈ zm_tb := zm_tb_in 102 (by decide +kernel) (by decide +kernel)
theorem kw_103 : Cond.methodLink RX2 3 objectInit ∈ zm_tb := zm_tb_in 103 (by decide +kernel) (by decide +kernel)
theorem kw_104 : Cond.fieldLink RX2 9 (TX2 0).1 (TX2 0).2.1 (TX2 0).2.2.1 ∈ zm_tb := zm_tb_in 104 (by decide +kernel) (by decide +kernel)
theorem kw_105 : Cond.fieldLink RX2 15 (TX2 1).1 (TX2 1).2.1 (TX2 1).2.2.1 ∈ zm_tb := zm_tb_in 105 (by decide +kernel) (by decide +kernel)
set_option maxHeartbeats 4000000 in
set_option maxRecDepth 100000 in
theorem kX2_init (l : Launch) (D : va_G) (c1 c2 : ClassId) (h0 a1 a2 : Nat) (sz : Nat) : Met l yX2_init (zm_ws gX2_init) ({ frames := 1, cells := 0, slots := 0, locals := 12 }) (va_Pc [.ref h0, .ref a1, .ref a2] (fun U => U.heap.size = sz ∧ va_P D zm_classes [(h0, .inr (2, [.null, .null]))] U.heap ∧ va_K D zm_classes (zm_tys c1 c2) U ∧ va_D (fun _ => True) [(h0, .inr (2, [.null, .null]))])) (va_Qv (fun _ : Unit => True) (fun _ t => va_P D zm_classes [(h0, .inr (2, [.ref a1, .ref a2]))] t.heap ∧ va_K D zm_classes (zm_tys c1 c2) t ∧ va_D (va_A [(h0, .inr (2, [.null, .null]))] sz) [(h0, .inr (2, [.ref a1, .ref a2]))]) (va_A [(h0, .inr (2, [.null, .null]))] sz)) 0 0 (va_A [(h0, .inr (2, [.null, .null]))] sz) := by
  refine Met.ofW (cc := cX2_init) (maxL := 3) (ret := none) (by decide +kernel) rfl ?_
  intro p e s m args below meth c s₁ B hml hv
  obtain ⟨rfl, hsz, hP, hK, hD0⟩ := hv
  have hx := B.exec
  have hb := B.bytes
  have hr := B.returns
  have hts0 := atoms_spec (ws := zm_ws gX2_init) B.pre
  have hts : ∀ w ∈ zm_tb, w.before _ s = true := fun w hw => hts0 w (List.mem_cons_of_mem _ hw)
  have hown : s.vm.findClass RX2 = some m.cls := findClass_of_methodNamed B.named
  have hlocks := B.notSynchronized
  have hin : meth.name = "<init>" := (name_of_methodNamed B.named B.method).1
  subst hsz
  have hD := hD0.self (sz := s.heap.size)
  generalize hAe : va_A [(h0, .inr (2, [.null, .null]))] s.heap.size = A at hD ⊢
  have hA : ∀ q : Nat, s.heap.size ≤ q → A q := fun q h => by rw [← hAe]; exact Or.inr h
  have hS : va_S A s.heap s.heap [] := va_S.rf
  have hP : va_P D zm_classes [(h0, .inr (2, [.null, .null]))] s.heap := hP
  have hl := lv_entry ([.ref h0, .ref a1, .ref a2]) (n := 3) (Nat.le_of_ble_eq_true rfl)
  rw [lg_entry_eq]
  generalize (lg_sl ([.ref h0, .ref a1, .ref a2]) ++ List.replicate (3 - (lg_sl ([.ref h0, .ref a1, .ref a2])).length) Slot.unset).toArray = ls at hl ⊢
  have hl : lv_has ls 3 [(0, .ref h0), (1, .ref a1), (2, .ref a2)] := hl
  refine lv_aload_n hx hb dX2_init_0 rfl (lv_at hl 0 rfl) ?_
  refine W.objInit hx hb hown (hts _ kw_103) (hts _ kw_43) (hts _ kw_44) rfl (by rw [hml]; exact hl.1) rfl dX2_init_1 (Nat.le_of_ble_eq_true rfl) (Nat.le_of_ble_eq_true rfl) ?_
  refine W.eq (g2 := F0 m 4 ls []) rfl ?_
  refine lv_aload_n hx hb dX2_init_4 rfl (lv_at hl 0 rfl) ?_
  refine lv_aload_n hx hb dX2_init_5 rfl (lv_at hl 1 rfl) ?_
  refine va_putF (D := D) (ci := 2) (v := .ref a1) (ty := tyX2 0) (C := RX2) (T := TX2) (N := 2) hx hb hts hX2 tyX2 tyX2_ok nmX2 hown hK hP hD hS 0 rfl rfl 0 (by decide) (hts _ kw_104) (fun _ h9 => h9) rfl hin rfl (tyX2_ok 0 (by decide)) rfl rfl (Nat.le_of_ble_eq_true rfl) dX2_init_6 (fun H locs hP hD hS => ?_)
  have hP : va_P D zm_classes [(h0, .inr (2, [.ref a1, .null]))] H := hP
  have hD : va_D A [(h0, .inr (2, [.ref a1, .null]))] := hD
  refine lv_aload_n hx hb dX2_init_9 rfl (lv_at hl 0 rfl) ?_
  refine lv_aload_n hx hb dX2_init_10 rfl (lv_at hl 2 rfl) ?_
  refine va_putF (D := D) (ci := 2) (v := .ref a2) (ty := tyX2 1) (C := RX2) (T := TX2) (N := 2) hx hb hts hX2 tyX2 tyX2_ok nmX2 hown hK hP hD hS 0 rfl rfl 1 (by decide) (hts _ kw_105) (fun _ h9 => h9) rfl hin rfl (tyX2_ok 1 (by decide)) rfl rfl (Nat.le_of_ble_eq_true rfl) dX2_init_11 (fun H locs hP hD hS => ?_)
  have hP : va_P D zm_classes [(h0, .inr (2, [.ref a1, .ref a2]))] H := hP
  have hD : va_D A [(h0, .inr (2, [.ref a1, .ref a2]))] := hD
  have hP9 := hP.sub (ws' := [(h0, .inr (2, [.ref a1, .ref a2]))]) [0] rfl
  have hD9 := hD.sub (ws' := [(h0, .inr (2, [.ref a1, .ref a2]))]) [0] (by decide) rfl
  exact W.vret hx hb hr (fun t ht hW => ⟨⟨(), rfl, trivial, by rw [ht]; exact hP9, va_K.moved hW.alike hK, hD9⟩, hS.F ht⟩) hS.2.2 dX2_init_14
theorem dX3_init_0 : decode cX3_init 0 = .ok (.aload_n 0, 1) := by decide +kernel
theorem dX3_init_1 : decode cX3_init 1 = .ok (.invokespecial 1, 3) := by decide +kernel
theorem dX3_init_4 : decode cX3_init 4 = .ok (.aload_n 0, 1) := by decide +kernel
theorem dX3_init_5 : decode cX3_init 5 = .ok (.aload_n 1, 1) := by decide +kernel
theorem dX3_init_6 : decode cX3_init 6 = .ok (.putfield 7, 3) := by decide +kernel
theorem dX3_init_9 : decode cX3_init 9 = .ok (.aload_n 0, 1) := by decide +kernel
theorem dX3_init_10 : decode cX3_init 10 = .ok (.aload_n 2, 1) := by decide +kernel
theorem dX3_init_11 : decode cX3_init 11 = .ok (.putfield 13, 3) := by decide +kernel
theorem dX3_init_14 : decode cX3_init 14 = .ok (.return_, 1) := by decide +kernel
abbrev gX3_init : zm_Sig := (yX3_init, cX3_init, 3, none, 1, 12)
theorem kcX3 : Cond.code yX3_init cX3_init 3 none ∈ zm_tb := zm_tb_in 175 (by decide +kernel) (by decide +kernel)
theorem kw_176 : Cond.methodLink RX3 1 objectInit ∈ zm_tb := zm_tb_in 176 (by decide +kernel) (by decide +kernel)
theorem kw_177 : Cond.fieldLink RX3 7 (TX3 0).1 (TX3 0).2.1 (TX3 0).2.2.1 ∈ zm_tb := zm_tb_in 177 (by decide +kernel) (by decide +kernel)
theorem kw_178 : Cond.fieldLink RX3 13 (TX3 1).1 (TX3 1).2.1 (TX3 1).2.2.1 ∈ zm_tb := zm_tb_in 178 (by decide +kernel) (by decide +kernel)
set_option maxHeartbeats 4000000 in
set_option maxRecDepth 100000 in
theorem kX3_init (l : Launch) (D : va_G) (c1 c2 : ClassId) (h0 a1 a2 : Nat) (sz : Nat) : Met l yX3_init (zm_ws gX3_init) ({ frames := 1, cells := 0, slots := 0, locals := 12 }) (va_Pc [.ref h0, .ref a1, .ref a2] (fun U => U.heap.size = sz ∧ va_P D zm_classes [(h0, .inr (3, [.null, .null]))] U.heap ∧ va_K D zm_classes (zm_tys c1 c2) U ∧ va_D (fun _ => True) [(h0, .inr (3, [.null, .null]))])) (va_Qv (fun _ : Unit => True) (fun _ t => va_P D zm_classes [(h0, .inr (3, [.ref a1, .ref a2]))] t.heap ∧ va_K D zm_classes (zm_tys c1 c2) t ∧ va_D (va_A [(h0, .inr (3, [.null, .null]))] sz) [(h0, .inr (3, [.ref a1, .ref a2]))]) (va_A [(h0, .inr (3, [.null, .null]))] sz)) 0 0 (va_A [(h0, .inr (3, [.null, .null]))] sz) := by
  refine Met.ofW (cc := cX3_init) (maxL := 3) (ret := none) (by decide +kernel) rfl ?_
  intro p e s m args below meth c s₁ B hml hv
  obtain ⟨rfl, hsz, hP, hK, hD0⟩ := hv
  have hx := B.exec
  have hb := B.bytes
  have hr := B.returns
  have hts0 := atoms_spec (ws := zm_ws gX3_init) B.pre
  have hts : ∀ w ∈ zm_tb, w.before _ s = true := fun w hw => hts0 w (List.mem_cons_of_mem _ hw)
  have hown : s.vm.findClass RX3 = some m.cls := findClass_of_methodNamed B.named
  have hlocks := B.notSynchronized
  have hin : meth.name = "<init>" := (name_of_methodNamed B.named B.method).1
  subst hsz
  have hD := hD0.self (sz := s.heap.size)
  generalize hAe : va_A [(h0, .inr (3, [.null, .null]))] s.heap.size = A at hD ⊢
  have hA : ∀ q : Nat, s.heap.size ≤ q → A q := fun q h => by rw [← hAe]; exact Or.inr h
  have hS : va_S A s.heap s.heap [] := va_S.rf
  have hP : va_P D zm_classes [(h0, .inr (3, [.null, .null]))] s.heap := hP
  have hl := lv_entry ([.ref h0, .ref a1, .ref a2]) (n := 3) (Nat.le_of_ble_eq_true rfl)
  rw [lg_entry_eq]
  generalize (lg_sl ([.ref h0, .ref a1, .ref a2]) ++ List.replicate (3 - (lg_sl ([.ref h0, .ref a1, .ref a2])).length) Slot.unset).toArray = ls at hl ⊢
  have hl : lv_has ls 3 [(0, .ref h0), (1, .ref a1), (2, .ref a2)] := hl
  refine lv_aload_n hx hb dX3_init_0 rfl (lv_at hl 0 rfl) ?_
  refine W.objInit hx hb hown (hts _ kw_176) (hts _ kw_43) (hts _ kw_44) rfl (by rw [hml]; exact hl.1) rfl dX3_init_1 (Nat.le_of_ble_eq_true rfl) (Nat.le_of_ble_eq_true rfl) ?_
  refine W.eq (g2 := F0 m 4 ls []) rfl ?_
  refine lv_aload_n hx hb dX3_init_4 rfl (lv_at hl 0 rfl) ?_
  refine lv_aload_n hx hb dX3_init_5 rfl (lv_at hl 1 rfl) ?_
  refine va_putF (D := D) (ci := 3) (v := .ref a1) (ty := tyX3 0) (C := RX3) (T := TX3) (N := 2) hx hb hts hX3 tyX3 tyX3_ok nmX3 hown hK hP hD hS 0 rfl rfl 0 (by decide) (hts _ kw_177) (fun _ h9 => h9) rfl hin rfl (tyX3_ok 0 (by decide)) rfl rfl (Nat.le_of_ble_eq_true rfl) dX3_init_6 (fun H locs hP hD hS => ?_)
  have hP : va_P D zm_classes [(h0, .inr (3, [.ref a1, .null]))] H := hP
  have hD : va_D A [(h0, .inr (3, [.ref a1, .null]))] := hD
  refine lv_aload_n hx hb dX3_init_9 rfl (lv_at hl 0 rfl) ?_
  refine lv_aload_n hx hb dX3_init_10 rfl (lv_at hl 2 rfl) ?_
  refine va_putF (D := D) (ci := 3) (v := .ref a2) (ty := tyX3 1) (C := RX3) (T := TX3) (N := 2) hx hb hts hX3 tyX3 tyX3_ok nmX3 hown hK hP hD hS 0 rfl rfl 1 (by decide) (hts _ kw_178) (fun _ h9 => h9) rfl hin rfl (tyX3_ok 1 (by decide)) rfl rfl (Nat.le_of_ble_eq_true rfl) dX3_init_11 (fun H locs hP hD hS => ?_)
  have hP : va_P D zm_classes [(h0, .inr (3, [.ref a1, .ref a2]))] H := hP
  have hD : va_D A [(h0, .inr (3, [.ref a1, .ref a2]))] := hD
  have hP9 := hP.sub (ws' := [(h0, .inr (3, [.ref a1, .ref a2]))]) [0] rfl
  have hD9 := hD.sub (ws' := [(h0, .inr (3, [.ref a1, .ref a2]))]) [0] (by decide) rfl
  exact W.vret hx hb hr (fun t ht hW => ⟨⟨(), rfl, trivial, by rw [ht]; exact hP9, va_K.moved hW.alike hK, hD9⟩, hS.F ht⟩) hS.2.2 dX3_init_14
theorem dX4_init_0 : decode cX4_init 0 = .ok (.aload_n 0, 1) := by decide +kernel
theorem dX4_init_1 : decode cX4_init 1 = .ok (.invokespecial 3, 3) := by decide +kernel
theorem dX4_init_4 : decode cX4_init 4 = .ok (.aload_n 0, 1) := by decide +kernel
theorem dX4_init_5 : decode cX4_init 5 = .ok (.iconst 4, 1) := by decide +kernel
theorem dX4_init_6 : decode cX4_init 6 = .ok (.newarray .int, 2) := by decide +kernel
theorem dX4_init_8 : decode cX4_init 8 = .ok (.putfield 9, 3) := by decide +kernel
theorem dX4_init_11 : decode cX4_init 11 = .ok (.aload_n 0, 1) := by decide +kernel
theorem dX4_init_12 : decode cX4_init 12 = .ok (.aload_n 1, 1) := by decide +kernel
theorem dX4_init_13 : decode cX4_init 13 = .ok (.putfield 15, 3) := by decide +kernel
theorem dX4_init_16 : decode cX4_init 16 = .ok (.aload_n 0, 1) := by decide +kernel
theorem dX4_init_17 : decode cX4_init 17 = .ok (.aload_n 2, 1) := by decide +kernel
theorem dX4_init_18 : decode cX4_init 18 = .ok (.putfield 19, 3) := by decide +kernel
theorem dX4_init_21 : decode cX4_init 21 = .ok (.return_, 1) := by decide +kernel
abbrev gX4_init : zm_Sig := (yX4_init, cX4_init, 3, none, 1, 12)
theorem kcX4 : Cond.code yX4_init cX4_init 3 none ∈ zm_tb := zm_tb_in 115 (by decide +kernel) (by decide +kernel)
theorem kw_116 : Cond.methodLink RX4 3 objectInit ∈ zm_tb := zm_tb_in 116 (by decide +kernel) (by decide +kernel)
theorem kw_119 : Cond.fieldLink RX4 9 (TX4 2).1 (TX4 2).2.1 (TX4 2).2.2.1 ∈ zm_tb := zm_tb_in 119 (by decide +kernel) (by decide +kernel)
theorem kw_117 : Cond.fieldLink RX4 15 (TX4 0).1 (TX4 0).2.1 (TX4 0).2.2.1 ∈ zm_tb := zm_tb_in 117 (by decide +kernel) (by decide +kernel)
theorem kw_118 : Cond.fieldLink RX4 19 (TX4 1).1 (TX4 1).2.1 (TX4 1).2.2.1 ∈ zm_tb := zm_tb_in 118 (by decide +kernel) (by decide +kernel)
set_option maxHeartbeats 4000000 in
set_option maxRecDepth 100000 in
theorem kX4_init (l : Launch) (D : va_G) (c1 c2 : ClassId) (h0 a1 a2 : Nat) (sz : Nat) : Met l yX4_init (zm_ws gX4_init) ({ frames := 1, cells := 1, slots := 4, locals := 12 }) (va_Pc [.ref h0, .ref a1, .ref a2] (fun U => U.heap.size = sz ∧ va_P D zm_classes [(h0, .inr (4, [.null, .null, .null]))] U.heap ∧ va_K D zm_classes (zm_tys c1 c2) U ∧ va_D (fun _ => True) [(h0, .inr (4, [.null, .null, .null]))])) (va_Qv (fun _ : Unit => True) (fun _ t => ∃ (q1 : Nat), va_P D zm_classes [(h0, .inr (4, [.ref a1, .ref a2, .ref q1])), (q1, .inl (c1, 4, .inl (fun _ => 0)))] t.heap ∧ va_K D zm_classes (zm_tys c1 c2) t ∧ va_D (va_A [(h0, .inr (4, [.null, .null, .null]))] sz) [(h0, .inr (4, [.ref a1, .ref a2, .ref q1])), (q1, .inl (c1, 4, .inl (fun _ => 0)))]) (va_A [(h0, .inr (4, [.null, .null, .null]))] sz)) 1 4 (va_A [(h0, .inr (4, [.null, .null, .null]))] sz) := by
  refine Met.ofW (cc := cX4_init) (maxL := 3) (ret := none) (by decide +kernel) rfl ?_
  intro p e s m args below meth c s₁ B hml hv
  obtain ⟨rfl, hsz, hP, hK, hD0⟩ := hv
  have hx := B.exec
  have hb := B.bytes
  have hr := B.returns
  have hts0 := atoms_spec (ws := zm_ws gX4_init) B.pre
  have hts : ∀ w ∈ zm_tb, w.before _ s = true := fun w hw => hts0 w (List.mem_cons_of_mem _ hw)
  have hown : s.vm.findClass RX4 = some m.cls := findClass_of_methodNamed B.named
  have hlocks := B.notSynchronized
  have hin : meth.name = "<init>" := (name_of_methodNamed B.named B.method).1
  subst hsz
  have hD := hD0.self (sz := s.heap.size)
  generalize hAe : va_A [(h0, .inr (4, [.null, .null, .null]))] s.heap.size = A at hD ⊢
  have hA : ∀ q : Nat, s.heap.size ≤ q → A q := fun q h => by rw [← hAe]; exact Or.inr h
  have hS : va_S A s.heap s.heap [] := va_S.rf
  have hP : va_P D zm_classes [(h0, .inr (4, [.null, .null, .null]))] s.heap := hP
  have hl := lv_entry ([.ref h0, .ref a1, .ref a2]) (n := 3) (Nat.le_of_ble_eq_true rfl)
  rw [lg_entry_eq]
  generalize (lg_sl ([.ref h0, .ref a1, .ref a2]) ++ List.replicate (3 - (lg_sl ([.ref h0, .ref a1, .ref a2])).length) Slot.unset).toArray = ls at hl ⊢
  have hl : lv_has ls 3 [(0, .ref h0), (1, .ref a1), (2, .ref a2)] := hl
  refine lv_aload_n hx hb dX4_init_0 rfl (lv_at hl 0 rfl) ?_
  refine W.objInit hx hb hown (hts _ kw_116) (hts _ kw_43) (hts _ kw_44) rfl (by rw [hml]; exact hl.1) rfl dX4_init_1 (Nat.le_of_ble_eq_true rfl) (Nat.le_of_ble_eq_true rfl) ?_
  refine W.eq (g2 := F0 m 4 ls []) rfl ?_
  refine lv_aload_n hx hb dX4_init_4 rfl (lv_at hl 0 rfl) ?_
  refine lv_iconst (v := 4) hx hb dX4_init_5 (by decide) ?_
  refine zn_newi hx hb (hts _ kw_97) hK hP hD hS hA 4 (by decide) (by decide) (by decide) (Nat.le_of_ble_eq_true rfl) (Nat.le_of_ble_eq_true rfl) dX4_init_6 (fun q1 H hP hD hS => ?_)
  have hP : va_P D zm_classes [(h0, .inr (4, [.null, .null, .null])), (q1, .inl (c1, 4, .inl (fun _ => 0)))] H := hP
  have hD : va_D A [(h0, .inr (4, [.null, .null, .null])), (q1, .inl (c1, 4, .inl (fun _ => 0)))] := hD
  refine W.widen (k := 1) (n := 4) (by omega) (by omega) ?_
  refine va_putF (D := D) (ci := 4) (v := .ref q1) (ty := tyX4 2) (C := RX4) (T := TX4) (N := 3) hx hb hts hX4 tyX4 tyX4_ok nmX4 hown hK hP hD hS 0 rfl rfl 2 (by decide) (hts _ kw_119) (fun _ h9 => h9) rfl hin rfl (tyX4_ok 2 (by decide)) rfl rfl (Nat.le_of_ble_eq_true rfl) dX4_init_8 (fun H locs hP hD hS => ?_)
  have hP : va_P D zm_classes [(h0, .inr (4, [.null, .null, .ref q1])), (q1, .inl (c1, 4, .inl (fun _ => 0)))] H := hP
  have hD : va_D A [(h0, .inr (4, [.null, .null, .ref q1])), (q1, .inl (c1, 4, .inl (fun _ => 0)))] := hD
  refine lv_aload_n hx hb dX4_init_11 rfl (lv_at hl 0 rfl) ?_
  refine lv_aload_n hx hb dX4_init_12 rfl (lv_at hl 1 rfl) ?_
  refine va_putF (D := D) (ci := 4) (v := .ref a1) (ty := tyX4 0) (C := RX4) (T := TX4) (N := 3) hx hb hts hX4 tyX4 tyX4_ok nmX4 hown hK hP hD hS 0 rfl rfl 0 (by decide) (hts _ kw_117) (fun _ h9 => h9) rfl hin rfl (tyX4_ok 0 (by decide)) rfl rfl (Nat.le_of_ble_eq_true rfl) dX4_init_13 (fun H locs hP hD hS => ?_)
  have hP : va_P D zm_classes [(h0, .inr (4, [.ref a1, .null, .ref q1])), (q1, .inl (c1, 4, .inl (fun _ => 0)))] H := hP
  have hD : va_D A [(h0, .inr (4, [.ref a1, .null, .ref q1])), (q1, .inl (c1, 4, .inl (fun _ => 0)))] := hD
  refine lv_aload_n hx hb dX4_init_16 rfl (lv_at hl 0 rfl) ?_
  refine lv_aload_n hx hb dX4_init_17 rfl (lv_at hl 2 rfl) ?_
  refine va_putF (D := D) (ci := 4) (v := .ref a2) (ty := tyX4 1) (C := RX4) (T := TX4) (N := 3) hx hb hts hX4 tyX4 tyX4_ok nmX4 hown hK hP hD hS 0 rfl rfl 1 (by decide) (hts _ kw_118) (fun _ h9 => h9) rfl hin rfl (tyX4_ok 1 (by decide)) rfl rfl (Nat.le_of_ble_eq_true rfl) dX4_init_18 (fun H locs hP hD hS => ?_)
  have hP : va_P D zm_classes [(h0, .inr (4, [.ref a1, .ref a2, .ref q1])), (q1, .inl (c1, 4, .inl (fun _ => 0)))] H := hP
  have hD : va_D A [(h0, .inr (4, [.ref a1, .ref a2, .ref q1])), (q1, .inl (c1, 4, .inl (fun _ => 0)))] := hD
  have hP9 := hP.sub (ws' := [(h0, .inr (4, [.ref a1, .ref a2, .ref q1])), (q1, .inl (c1, 4, .inl (fun _ => 0)))]) [0, 1] rfl
  have hD9 := hD.sub (ws' := [(h0, .inr (4, [.ref a1, .ref a2, .ref q1])), (q1, .inl (c1, 4, .inl (fun _ => 0)))]) [0, 1] (by decide) rfl
  exact W.vret hx hb hr (fun t ht hW => ⟨⟨(), rfl, trivial, q1, by rw [ht]; exact hP9, va_K.moved hW.alike hK, hD9⟩, hS.F ht⟩) hS.2.2 dX4_init_21
theorem dX5_init_0 : decode cX5_init 0 = .ok (.aload_n 0, 1) := by decide +kernel
theorem dX5_init_1 : decode cX5_init 1 = .ok (.invokespecial 3, 3) := by decide +kernel
theorem dX5_init_4 : decode cX5_init 4 = .ok (.aload_n 0, 1) := by decide +kernel
theorem dX5_init_5 : decode cX5_init 5 = .ok (.bipush 36, 2) := by decide +kernel
theorem dX5_init_7 : decode cX5_init 7 = .ok (.newarray .int, 2) := by decide +kernel
theorem dX5_init_9 : decode cX5_init 9 = .ok (.putfield 9, 3) := by decide +kernel
theorem dX5_init_12 : decode cX5_init 12 = .ok (.aload_n 0, 1) := by decide +kernel
theorem dX5_init_13 : decode cX5_init 13 = .ok (.bipush 36, 2) := by decide +kernel
theorem dX5_init_15 : decode cX5_init 15 = .ok (.newarray .int, 2) := by decide +kernel
theorem dX5_init_17 : decode cX5_init 17 = .ok (.putfield 15, 3) := by decide +kernel
theorem dX5_init_20 : decode cX5_init 20 = .ok (.aload_n 0, 1) := by decide +kernel
theorem dX5_init_21 : decode cX5_init 21 = .ok (.iconst 2, 1) := by decide +kernel
theorem dX5_init_22 : decode cX5_init 22 = .ok (.putfield 18, 3) := by decide +kernel
theorem dX5_init_25 : decode cX5_init 25 = .ok (.aload_n 0, 1) := by decide +kernel
theorem dX5_init_26 : decode cX5_init 26 = .ok (.aload_n 1, 1) := by decide +kernel
theorem dX5_init_27 : decode cX5_init 27 = .ok (.putfield 22, 3) := by decide +kernel
theorem dX5_init_30 : decode cX5_init 30 = .ok (.return_, 1) := by decide +kernel
abbrev gX5_init : zm_Sig := (yX5_init, cX5_init, 2, none, 1, 12)
theorem kcX5 : Cond.code yX5_init cX5_init 2 none ∈ zm_tb := zm_tb_in 74 (by decide +kernel) (by decide +kernel)
theorem kw_75 : Cond.methodLink RX5 3 objectInit ∈ zm_tb := zm_tb_in 75 (by decide +kernel) (by decide +kernel)
theorem kw_77 : Cond.fieldLink RX5 9 (TX5 1).1 (TX5 1).2.1 (TX5 1).2.2.1 ∈ zm_tb := zm_tb_in 77 (by decide +kernel) (by decide +kernel)
theorem kw_83 : Cond.fieldLink RX5 15 (TX5 2).1 (TX5 2).2.1 (TX5 2).2.2.1 ∈ zm_tb := zm_tb_in 83 (by decide +kernel) (by decide +kernel)
theorem kw_84 : Cond.fieldLink RX5 18 (TX5 3).1 (TX5 3).2.1 (TX5 3).2.2.1 ∈ zm_tb := zm_tb_in 84 (by decide +kernel) (by decide +kernel)
theorem kw_76 : Cond.fieldLink RX5 22 (TX5 0).1 (TX5 0).2.1 (TX5 0).2.2.1 ∈ zm_tb := zm_tb_in 76 (by decide +kernel) (by decide +kernel)
set_option maxHeartbeats 4000000 in
set_option maxRecDepth 100000 in
theorem kX5_init (l : Launch) (D : va_G) (c1 c2 : ClassId) (h0 a1 : Nat) (sz : Nat) : Met l yX5_init (zm_ws gX5_init) ({ frames := 1, cells := 2, slots := 72, locals := 12 }) (va_Pc [.ref h0, .ref a1] (fun U => U.heap.size = sz ∧ va_P D zm_classes [(h0, .inr (5, [.null, .null, .null, .int 0]))] U.heap ∧ va_K D zm_classes (zm_tys c1 c2) U ∧ va_D (fun _ => True) [(h0, .inr (5, [.null, .null, .null, .int 0]))])) (va_Qv (fun _ : Unit => True) (fun _ t => ∃ (q1 q2 : Nat), va_P D zm_classes [(h0, .inr (5, [.ref a1, .ref q1, .ref q2, .int 2])), (q1, .inl (c1, 36, .inl (fun _ => 0))), (q2, .inl (c1, 36, .inl (fun _ => 0)))] t.heap ∧ va_K D zm_classes (zm_tys c1 c2) t ∧ va_D (va_A [(h0, .inr (5, [.null, .null, .null, .int 0]))] sz) [(h0, .inr (5, [.ref a1, .ref q1, .ref q2, .int 2])), (q1, .inl (c1, 36, .inl (fun _ => 0))), (q2, .inl (c1, 36, .inl (fun _ => 0)))]) (va_A [(h0, .inr (5, [.null, .null, .null, .int 0]))] sz)) 2 72 (va_A [(h0, .inr (5, [.null, .null, .null, .int 0]))] sz) := by
  refine Met.ofW (cc := cX5_init) (maxL := 2) (ret := none) (by decide +kernel) rfl ?_
  intro p e s m args below meth c s₁ B hml hv
  obtain ⟨rfl, hsz, hP, hK, hD0⟩ := hv
  have hx := B.exec
  have hb := B.bytes
  have hr := B.returns
  have hts0 := atoms_spec (ws := zm_ws gX5_init) B.pre
  have hts : ∀ w ∈ zm_tb, w.before _ s = true := fun w hw => hts0 w (List.mem_cons_of_mem _ hw)
  have hown : s.vm.findClass RX5 = some m.cls := findClass_of_methodNamed B.named
  have hlocks := B.notSynchronized
  have hin : meth.name = "<init>" := (name_of_methodNamed B.named B.method).1
  subst hsz
  have hD := hD0.self (sz := s.heap.size)
  generalize hAe : va_A [(h0, .inr (5, [.null, .null, .null, .int 0]))] s.heap.size = A at hD ⊢
  have hA : ∀ q : Nat, s.heap.size ≤ q → A q := fun q h => by rw [← hAe]; exact Or.inr h
  have hS : va_S A s.heap s.heap [] := va_S.rf
  have hP : va_P D zm_classes [(h0, .inr (5, [.null, .null, .null, .int 0]))] s.heap := hP
  have hl := lv_entry ([.ref h0, .ref a1]) (n := 2) (Nat.le_of_ble_eq_true rfl)
  rw [lg_entry_eq]
  generalize (lg_sl ([.ref h0, .ref a1]) ++ List.replicate (2 - (lg_sl ([.ref h0, .ref a1])).length) Slot.unset).toArray = ls at hl ⊢
  have hl : lv_has ls 2 [(0, .ref h0), (1, .ref a1)] := hl
  refine lv_aload_n hx hb dX5_init_0 rfl (lv_at hl 0 rfl) ?_
  refine W.objInit hx hb hown (hts _ kw_75) (hts _ kw_43) (hts _ kw_44) rfl (by rw [hml]; exact hl.1) rfl dX5_init_1 (Nat.le_of_ble_eq_true rfl) (Nat.le_of_ble_eq_true rfl) ?_
  refine W.eq (g2 := F0 m 4 ls []) rfl ?_
  refine lv_aload_n hx hb dX5_init_4 rfl (lv_at hl 0 rfl) ?_
  refine lv_bipush (v := 36) hx hb dX5_init_5 (by decide) ?_
  refine zn_newi hx hb (hts _ kw_97) hK hP hD hS hA 36 (by decide) (by decide) (by decide) (Nat.le_of_ble_eq_true rfl) (Nat.le_of_ble_eq_true rfl) dX5_init_7 (fun q1 H hP hD hS => ?_)
  have hP : va_P D zm_classes [(h0, .inr (5, [.null, .null, .null, .int 0])), (q1, .inl (c1, 36, .inl (fun _ => 0)))] H := hP
  have hD : va_D A [(h0, .inr (5, [.null, .null, .null, .int 0])), (q1, .inl (c1, 36, .inl (fun _ => 0)))] := hD
  refine W.widen (k := 1) (n := 36) (by omega) (by omega) ?_
  refine va_putF (D := D) (ci := 5) (v := .ref q1) (ty := tyX5 1) (C := RX5) (T := TX5) (N := 4) hx hb hts hX5 tyX5 tyX5_ok nmX5 hown hK hP hD hS 0 rfl rfl 1 (by decide) (hts _ kw_77) (fun _ h9 => h9) rfl hin rfl (tyX5_ok 1 (by decide)) rfl rfl (Nat.le_of_ble_eq_true rfl) dX5_init_9 (fun H locs hP hD hS => ?_)
  have hP : va_P D zm_classes [(h0, .inr (5, [.null, .ref q1, .null, .int 0])), (q1, .inl (c1, 36, .inl (fun _ => 0)))] H := hP
  have hD : va_D A [(h0, .inr (5, [.null, .ref q1, .null, .int 0])), (q1, .inl (c1, 36, .inl (fun _ => 0)))] := hD
  refine lv_aload_n hx hb dX5_init_12 rfl (lv_at hl 0 rfl) ?_
  refine lv_bipush (v := 36) hx hb dX5_init_13 (by decide) ?_
  refine zn_newi hx hb (hts _ kw_97) hK hP hD hS hA 36 (by decide) (by decide) (by decide) (Nat.le_of_ble_eq_true rfl) (Nat.le_of_ble_eq_true rfl) dX5_init_15 (fun q2 H hP hD hS => ?_)
  have hP : va_P D zm_classes [(h0, .inr (5, [.null, .ref q1, .null, .int 0])), (q1, .inl (c1, 36, .inl (fun _ => 0))), (q2, .inl (c1, 36, .inl (fun _ => 0)))] H := hP
  have hD : va_D A [(h0, .inr (5, [.null, .ref q1, .null, .int 0])), (q1, .inl (c1, 36, .inl (fun _ => 0))), (q2, .inl (c1, 36, .inl (fun _ => 0)))] := hD
  refine W.widen (k := 2) (n := 72) (by omega) (by omega) ?_
  refine va_putF (D := D) (ci := 5) (v := .ref q2) (ty := tyX5 2) (C := RX5) (T := TX5) (N := 4) hx hb hts hX5 tyX5 tyX5_ok nmX5 hown hK hP hD hS 0 rfl rfl 2 (by decide) (hts _ kw_83) (fun _ h9 => h9) rfl hin rfl (tyX5_ok 2 (by decide)) rfl rfl (Nat.le_of_ble_eq_true rfl) dX5_init_17 (fun H locs hP hD hS => ?_)
  have hP : va_P D zm_classes [(h0, .inr (5, [.null, .ref q1, .ref q2, .int 0])), (q1, .inl (c1, 36, .inl (fun _ => 0))), (q2, .inl (c1, 36, .inl (fun _ => 0)))] H := hP
  have hD : va_D A [(h0, .inr (5, [.null, .ref q1, .ref q2, .int 0])), (q1, .inl (c1, 36, .inl (fun _ => 0))), (q2, .inl (c1, 36, .inl (fun _ => 0)))] := hD
  refine lv_aload_n hx hb dX5_init_20 rfl (lv_at hl 0 rfl) ?_
  refine lv_iconst (v := 2) hx hb dX5_init_21 (by decide) ?_
  refine va_put (D := D) (ci := 5) (v := .int 2) (ty := tyX5 3) (C := RX5) (T := TX5) (N := 4) hx hb hts hX5 tyX5 tyX5_ok nmX5 hown hK hP hD hS 0 rfl rfl 3 (by decide) (hts _ kw_84) (fun _ h9 => h9) rfl (tyX5_ok 3 (by decide)) rfl rfl (Nat.le_of_ble_eq_true rfl) dX5_init_22 (fun H locs hP hD hS => ?_)
  have hP : va_P D zm_classes [(h0, .inr (5, [.null, .ref q1, .ref q2, .int 2])), (q1, .inl (c1, 36, .inl (fun _ => 0))), (q2, .inl (c1, 36, .inl (fun _ => 0)))] H := hP
  have hD : va_D A [(h0, .inr (5, [.null, .ref q1, .ref q2, .int 2])), (q1, .inl (c1, 36, .inl (fun _ => 0))), (q2, .inl (c1, 36, .inl (fun _ => 0)))] := hD
  refine lv_aload_n hx hb dX5_init_25 rfl (lv_at hl 0 rfl) ?_
  refine lv_aload_n hx hb dX5_init_26 rfl (lv_at hl 1 rfl) ?_
  refine va_putF (D := D) (ci := 5) (v := .ref a1) (ty := tyX5 0) (C := RX5) (T := TX5) (N := 4) hx hb hts hX5 tyX5 tyX5_ok nmX5 hown hK hP hD hS 0 rfl rfl 0 (by decide) (hts _ kw_76) (fun _ h9 => h9) rfl hin rfl (tyX5_ok 0 (by decide)) rfl rfl (Nat.le_of_ble_eq_true rfl) dX5_init_27 (fun H locs hP hD hS => ?_)
  have hP : va_P D zm_classes [(h0, .inr (5, [.ref a1, .ref q1, .ref q2, .int 2])), (q1, .inl (c1, 36, .inl (fun _ => 0))), (q2, .inl (c1, 36, .inl (fun _ => 0)))] H := hP
  have hD : va_D A [(h0, .inr (5, [.ref a1, .ref q1, .ref q2, .int 2])), (q1, .inl (c1, 36, .inl (fun _ => 0))), (q2, .inl (c1, 36, .inl (fun _ => 0)))] := hD
  have hP9 := hP.sub (ws' := [(h0, .inr (5, [.ref a1, .ref q1, .ref q2, .int 2])), (q1, .inl (c1, 36, .inl (fun _ => 0))), (q2, .inl (c1, 36, .inl (fun _ => 0)))]) [0, 1, 2] rfl
  have hD9 := hD.sub (ws' := [(h0, .inr (5, [.ref a1, .ref q1, .ref q2, .int 2])), (q1, .inl (c1, 36, .inl (fun _ => 0))), (q2, .inl (c1, 36, .inl (fun _ => 0)))]) [0, 1, 2] (by decide) rfl
  exact W.vret hx hb hr (fun t ht hW => ⟨⟨(), rfl, trivial, q1, q2, by rw [ht]; exact hP9, va_K.moved hW.alike hK, hD9⟩, hS.F ht⟩) hS.2.2 dX5_init_30
theorem dX6_init_0 : decode cX6_init 0 = .ok (.aload_n 0, 1) := by decide +kernel
theorem dX6_init_1 : decode cX6_init 1 = .ok (.invokespecial 3, 3) := by decide +kernel
theorem dX6_init_4 : decode cX6_init 4 = .ok (.aload_n 0, 1) := by decide +kernel
theorem dX6_init_5 : decode cX6_init 5 = .ok (.bipush 36, 2) := by decide +kernel
theorem dX6_init_7 : decode cX6_init 7 = .ok (.newarray .int, 2) := by decide +kernel
theorem dX6_init_9 : decode cX6_init 9 = .ok (.putfield 9, 3) := by decide +kernel
theorem dX6_init_12 : decode cX6_init 12 = .ok (.aload_n 0, 1) := by decide +kernel
theorem dX6_init_13 : decode cX6_init 13 = .ok (.bipush 36, 2) := by decide +kernel
theorem dX6_init_15 : decode cX6_init 15 = .ok (.newarray .boolean, 2) := by decide +kernel
theorem dX6_init_17 : decode cX6_init 17 = .ok (.putfield 15, 3) := by decide +kernel
theorem dX6_init_20 : decode cX6_init 20 = .ok (.aload_n 0, 1) := by decide +kernel
theorem dX6_init_21 : decode cX6_init 21 = .ok (.bipush 36, 2) := by decide +kernel
theorem dX6_init_23 : decode cX6_init 23 = .ok (.newarray .int, 2) := by decide +kernel
theorem dX6_init_25 : decode cX6_init 25 = .ok (.putfield 19, 3) := by decide +kernel
theorem dX6_init_28 : decode cX6_init 28 = .ok (.aload_n 0, 1) := by decide +kernel
theorem dX6_init_29 : decode cX6_init 29 = .ok (.bipush 36, 2) := by decide +kernel
theorem dX6_init_31 : decode cX6_init 31 = .ok (.newarray .int, 2) := by decide +kernel
theorem dX6_init_33 : decode cX6_init 33 = .ok (.putfield 22, 3) := by decide +kernel
theorem dX6_init_36 : decode cX6_init 36 = .ok (.aload_n 0, 1) := by decide +kernel
theorem dX6_init_37 : decode cX6_init 37 = .ok (.aload_n 1, 1) := by decide +kernel
theorem dX6_init_38 : decode cX6_init 38 = .ok (.putfield 25, 3) := by decide +kernel
theorem dX6_init_41 : decode cX6_init 41 = .ok (.aload_n 0, 1) := by decide +kernel
theorem dX6_init_42 : decode cX6_init 42 = .ok (.aload_n 2, 1) := by decide +kernel
theorem dX6_init_43 : decode cX6_init 43 = .ok (.putfield 29, 3) := by decide +kernel
theorem dX6_init_46 : decode cX6_init 46 = .ok (.return_, 1) := by decide +kernel
abbrev gX6_init : zm_Sig := (yX6_init, cX6_init, 3, none, 1, 12)
theorem kcX6 : Cond.code yX6_init cX6_init 3 none ∈ zm_tb := zm_tb_in 188 (by decide +kernel) (by decide +kernel)
theorem kw_189 : Cond.methodLink RX6 3 objectInit ∈ zm_tb := zm_tb_in 189 (by decide +kernel) (by decide +kernel)
theorem kw_192 : Cond.fieldLink RX6 9 (TX6 2).1 (TX6 2).2.1 (TX6 2).2.2.1 ∈ zm_tb := zm_tb_in 192 (by decide +kernel) (by decide +kernel)
theorem kw_193 : Cond.fieldLink RX6 15 (TX6 3).1 (TX6 3).2.1 (TX6 3).2.2.1 ∈ zm_tb := zm_tb_in 193 (by decide +kernel) (by decide +kernel)
theorem kw_194 : Cond.fieldLink RX6 19 (TX6 4).1 (TX6 4).2.1 (TX6 4).2.2.1 ∈ zm_tb := zm_tb_in 194 (by decide +kernel) (by decide +kernel)
theorem kw_195 : Cond.fieldLink RX6 22 (TX6 5).1 (TX6 5).2.1 (TX6 5).2.2.1 ∈ zm_tb := zm_tb_in 195 (by decide +kernel) (by decide +kernel)
theorem kw_190 : Cond.fieldLink RX6 25 (TX6 0).1 (TX6 0).2.1 (TX6 0).2.2.1 ∈ zm_tb := zm_tb_in 190 (by decide +kernel) (by decide +kernel)
theorem kw_191 : Cond.fieldLink RX6 29 (TX6 1).1 (TX6 1).2.1 (TX6 1).2.2.1 ∈ zm_tb := zm_tb_in 191 (by decide +kernel) (by decide +kernel)
set_option maxHeartbeats 4000000 in
set_option maxRecDepth 100000 in
theorem kX6_init (l : Launch) (D : va_G) (c1 c2 : ClassId) (h0 a1 a2 : Nat) (sz : Nat) : Met l yX6_init (zm_ws gX6_init) ({ frames := 1, cells := 4, slots := 144, locals := 12 }) (va_Pc [.ref h0, .ref a1, .ref a2] (fun U => U.heap.size = sz ∧ va_P D zm_classes [(h0, .inr (6, [.null, .null, .null, .null, .null, .null, .int 0, .int 0]))] U.heap ∧ va_K D zm_classes (zm_tys c1 c2) U ∧ va_D (fun _ => True) [(h0, .inr (6, [.null, .null, .null, .null, .null, .null, .int 0, .int 0]))])) (va_Qv (fun _ : Unit => True) (fun _ t => ∃ (q1 q2 q3 q4 : Nat), va_P D zm_classes [(h0, .inr (6, [.ref a1, .ref a2, .ref q1, .ref q2, .ref q3, .ref q4, .int 0, .int 0])), (q1, .inl (c1, 36, .inl (fun _ => 0))), (q2, .inl (c2, 36, .inl (fun _ => 0))), (q3, .inl (c1, 36, .inl (fun _ => 0))), (q4, .inl (c1, 36, .inl (fun _ => 0)))] t.heap ∧ va_K D zm_classes (zm_tys c1 c2) t ∧ va_D (va_A [(h0, .inr (6, [.null, .null, .null, .null, .null, .null, .int 0, .int 0]))] sz) [(h0, .inr (6, [.ref a1, .ref a2, .ref q1, .ref q2, .ref q3, .ref q4, .int 0, .int 0])), (q1, .inl (c1, 36, .inl (fun _ => 0))), (q2, .inl (c2, 36, .inl (fun _ => 0))), (q3, .inl (c1, 36, .inl (fun _ => 0))), (q4, .inl (c1, 36, .inl (fun _ => 0)))]) (va_A [(h0, .inr (6, [.null, .null, .null, .null, .null, .null, .int 0, .int 0]))] sz)) 4 144 (va_A [(h0, .inr (6, [.null, .null, .null, .null, .null, .null, .int 0, .int 0]))] sz) := by
  refine Met.ofW (cc := cX6_init) (maxL := 3) (ret := none) (by decide +kernel) rfl ?_
  intro p e s m args below meth c s₁ B hml hv
  obtain ⟨rfl, hsz, hP, hK, hD0⟩ := hv
  have hx := B.exec
  have hb := B.bytes
  have hr := B.returns
  have hts0 := atoms_spec (ws := zm_ws gX6_init) B.pre
  have hts : ∀ w ∈ zm_tb, w.before _ s = true := fun w hw => hts0 w (List.mem_cons_of_mem _ hw)
  have hown : s.vm.findClass RX6 = some m.cls := findClass_of_methodNamed B.named
  have hlocks := B.notSynchronized
  have hin : meth.name = "<init>" := (name_of_methodNamed B.named B.method).1
  subst hsz
  have hD := hD0.self (sz := s.heap.size)
  generalize hAe : va_A [(h0, .inr (6, [.null, .null, .null, .null, .null, .null, .int 0, .int 0]))] s.heap.size = A at hD ⊢
  have hA : ∀ q : Nat, s.heap.size ≤ q → A q := fun q h => by rw [← hAe]; exact Or.inr h
  have hS : va_S A s.heap s.heap [] := va_S.rf
  have hP : va_P D zm_classes [(h0, .inr (6, [.null, .null, .null, .null, .null, .null, .int 0, .int 0]))] s.heap := hP
  have hl := lv_entry ([.ref h0, .ref a1, .ref a2]) (n := 3) (Nat.le_of_ble_eq_true rfl)
  rw [lg_entry_eq]
  generalize (lg_sl ([.ref h0, .ref a1, .ref a2]) ++ List.replicate (3 - (lg_sl ([.ref h0, .ref a1, .ref a2])).length) Slot.unset).toArray = ls at hl ⊢
  have hl : lv_has ls 3 [(0, .ref h0), (1, .ref a1), (2, .ref a2)] := hl
  refine lv_aload_n hx hb dX6_init_0 rfl (lv_at hl 0 rfl) ?_
  refine W.objInit hx hb hown (hts _ kw_189) (hts _ kw_43) (hts _ kw_44) rfl (by rw [hml]; exact hl.1) rfl dX6_init_1 (Nat.le_of_ble_eq_true rfl) (Nat.le_of_ble_eq_true rfl) ?_
  refine W.eq (g2 := F0 m 4 ls []) rfl ?_
  refine lv_aload_n hx hb dX6_init_4 rfl (lv_at hl 0 rfl) ?_
  refine lv_bipush (v := 36) hx hb dX6_init_5 (by decide) ?_
  refine zn_newi hx hb (hts _ kw_97) hK hP hD hS hA 36 (by decide) (by decide) (by decide) (Nat.le_of_ble_eq_true rfl) (Nat.le_of_ble_eq_true rfl) dX6_init_7 (fun q1 H hP hD hS => ?_)
  have hP : va_P D zm_classes [(h0, .inr (6, [.null, .null, .null, .null, .null, .null, .int 0, .int 0])), (q1, .inl (c1, 36, .inl (fun _ => 0)))] H := hP
  have hD : va_D A [(h0, .inr (6, [.null, .null, .null, .null, .null, .null, .int 0, .int 0])), (q1, .inl (c1, 36, .inl (fun _ => 0)))] := hD
  refine W.widen (k := 1) (n := 36) (by omega) (by omega) ?_
  refine va_putF (D := D) (ci := 6) (v := .ref q1) (ty := tyX6 2) (C := RX6) (T := TX6) (N := 8) hx hb hts hX6 tyX6 tyX6_ok nmX6 hown hK hP hD hS 0 rfl rfl 2 (by decide) (hts _ kw_192) (fun _ h9 => h9) rfl hin rfl (tyX6_ok 2 (by decide)) rfl rfl (Nat.le_of_ble_eq_true rfl) dX6_init_9 (fun H locs hP hD hS => ?_)
  have hP : va_P D zm_classes [(h0, .inr (6, [.null, .null, .ref q1, .null, .null, .null, .int 0, .int 0])), (q1, .inl (c1, 36, .inl (fun _ => 0)))] H := hP
  have hD : va_D A [(h0, .inr (6, [.null, .null, .ref q1, .null, .null, .null, .int 0, .int 0])), (q1, .inl (c1, 36, .inl (fun _ => 0)))] := hD
  refine lv_aload_n hx hb dX6_init_12 rfl (lv_at hl 0 rfl) ?_
  refine lv_bipush (v := 36) hx hb dX6_init_13 (by decide) ?_
  refine zn_newz hx hb (hts _ kw_157) hK hP hD hS hA 36 (by decide) (by decide) (by decide) (Nat.le_of_ble_eq_true rfl) (Nat.le_of_ble_eq_true rfl) dX6_init_15 (fun q2 H hP hD hS => ?_)
  have hP : va_P D zm_classes [(h0, .inr (6, [.null, .null, .ref q1, .null, .null, .null, .int 0, .int 0])), (q1, .inl (c1, 36, .inl (fun _ => 0))), (q2, .inl (c2, 36, .inl (fun _ => 0)))] H := hP
  have hD : va_D A [(h0, .inr (6, [.null, .null, .ref q1, .null, .null, .null, .int 0, .int 0])), (q1, .inl (c1, 36, .inl (fun _ => 0))), (q2, .inl (c2, 36, .inl (fun _ => 0)))] := hD
  refine W.widen (k := 2) (n := 72) (by omega) (by omega) ?_
  refine va_putF (D := D) (ci := 6) (v := .ref q2) (ty := tyX6 3) (C := RX6) (T := TX6) (N := 8) hx hb hts hX6 tyX6 tyX6_ok nmX6 hown hK hP hD hS 0 rfl rfl 3 (by decide) (hts _ kw_193) (fun _ h9 => h9) rfl hin rfl (tyX6_ok 3 (by decide)) rfl rfl (Nat.le_of_ble_eq_true rfl) dX6_init_17 (fun H locs hP hD hS => ?_)
  have hP : va_P D zm_classes [(h0, .inr (6, [.null, .null, .ref q1, .ref q2, .null, .null, .int 0, .int 0])), (q1, .inl (c1, 36, .inl (fun _ => 0))), (q2, .inl (c2, 36, .inl (fun _ => 0)))] H := hP
  have hD : va_D A [(h0, .inr (6, [.null, .null, .ref q1, .ref q2, .null, .null, .int 0, .int 0])), (q1, .inl (c1, 36, .inl (fun _ => 0))), (q2, .inl (c2, 36, .inl (fun _ => 0)))] := hD
  refine lv_aload_n hx hb dX6_init_20 rfl (lv_at hl 0 rfl) ?_
  refine lv_bipush (v := 36) hx hb dX6_init_21 (by decide) ?_
  refine zn_newi hx hb (hts _ kw_97) hK hP hD hS hA 36 (by decide) (by decide) (by decide) (Nat.le_of_ble_eq_true rfl) (Nat.le_of_ble_eq_true rfl) dX6_init_23 (fun q3 H hP hD hS => ?_)
  have hP : va_P D zm_classes [(h0, .inr (6, [.null, .null, .ref q1, .ref q2, .null, .null, .int 0, .int 0])), (q1, .inl (c1, 36, .inl (fun _ => 0))), (q2, .inl (c2, 36, .inl (fun _ => 0))), (q3, .inl (c1, 36, .inl (fun _ => 0)))] H := hP
  have hD : va_D A [(h0, .inr (6, [.null, .null, .ref q1, .ref q2, .null, .null, .int 0, .int 0])), (q1, .inl (c1, 36, .inl (fun _ => 0))), (q2, .inl (c2, 36, .inl (fun _ => 0))), (q3, .inl (c1, 36, .inl (fun _ => 0)))] := hD
  refine W.widen (k := 3) (n := 108) (by omega) (by omega) ?_
  refine va_putF (D := D) (ci := 6) (v := .ref q3) (ty := tyX6 4) (C := RX6) (T := TX6) (N := 8) hx hb hts hX6 tyX6 tyX6_ok nmX6 hown hK hP hD hS 0 rfl rfl 4 (by decide) (hts _ kw_194) (fun _ h9 => h9) rfl hin rfl (tyX6_ok 4 (by decide)) rfl rfl (Nat.le_of_ble_eq_true rfl) dX6_init_25 (fun H locs hP hD hS => ?_)
  have hP : va_P D zm_classes [(h0, .inr (6, [.null, .null, .ref q1, .ref q2, .ref q3, .null, .int 0, .int 0])), (q1, .inl (c1, 36, .inl (fun _ => 0))), (q2, .inl (c2, 36, .inl (fun _ => 0))), (q3, .inl (c1, 36, .inl (fun _ => 0)))] H := hP
  have hD : va_D A [(h0, .inr (6, [.null, .null, .ref q1, .ref q2, .ref q3, .null, .int 0, .int 0])), (q1, .inl (c1, 36, .inl (fun _ => 0))), (q2, .inl (c2, 36, .inl (fun _ => 0))), (q3, .inl (c1, 36, .inl (fun _ => 0)))] := hD
  refine lv_aload_n hx hb dX6_init_28 rfl (lv_at hl 0 rfl) ?_
  refine lv_bipush (v := 36) hx hb dX6_init_29 (by decide) ?_
  refine zn_newi hx hb (hts _ kw_97) hK hP hD hS hA 36 (by decide) (by decide) (by decide) (Nat.le_of_ble_eq_true rfl) (Nat.le_of_ble_eq_true rfl) dX6_init_31 (fun q4 H hP hD hS => ?_)
  have hP : va_P D zm_classes [(h0, .inr (6, [.null, .null, .ref q1, .ref q2, .ref q3, .null, .int 0, .int 0])), (q1, .inl (c1, 36, .inl (fun _ => 0))), (q2, .inl (c2, 36, .inl (fun _ => 0))), (q3, .inl (c1, 36, .inl (fun _ => 0))), (q4, .inl (c1, 36, .inl (fun _ => 0)))] H := hP
  have hD : va_D A [(h0, .inr (6, [.null, .null, .ref q1, .ref q2, .ref q3, .null, .int 0, .int 0])), (q1, .inl (c1, 36, .inl (fun _ => 0))), (q2, .inl (c2, 36, .inl (fun _ => 0))), (q3, .inl (c1, 36, .inl (fun _ => 0))), (q4, .inl (c1, 36, .inl (fun _ => 0)))] := hD
  refine W.widen (k := 4) (n := 144) (by omega) (by omega) ?_
  refine va_putF (D := D) (ci := 6) (v := .ref q4) (ty := tyX6 5) (C := RX6) (T := TX6) (N := 8) hx hb hts hX6 tyX6 tyX6_ok nmX6 hown hK hP hD hS 0 rfl rfl 5 (by decide) (hts _ kw_195) (fun _ h9 => h9) rfl hin rfl (tyX6_ok 5 (by decide)) rfl rfl (Nat.le_of_ble_eq_true rfl) dX6_init_33 (fun H locs hP hD hS => ?_)
  have hP : va_P D zm_classes [(h0, .inr (6, [.null, .null, .ref q1, .ref q2, .ref q3, .ref q4, .int 0, .int 0])), (q1, .inl (c1, 36, .inl (fun _ => 0))), (q2, .inl (c2, 36, .inl (fun _ => 0))), (q3, .inl (c1, 36, .inl (fun _ => 0))), (q4, .inl (c1, 36, .inl (fun _ => 0)))] H := hP
  have hD : va_D A [(h0, .inr (6, [.null, .null, .ref q1, .ref q2, .ref q3, .ref q4, .int 0, .int 0])), (q1, .inl (c1, 36, .inl (fun _ => 0))), (q2, .inl (c2, 36, .inl (fun _ => 0))), (q3, .inl (c1, 36, .inl (fun _ => 0))), (q4, .inl (c1, 36, .inl (fun _ => 0)))] := hD
  refine lv_aload_n hx hb dX6_init_36 rfl (lv_at hl 0 rfl) ?_
  refine lv_aload_n hx hb dX6_init_37 rfl (lv_at hl 1 rfl) ?_
  refine va_putF (D := D) (ci := 6) (v := .ref a1) (ty := tyX6 0) (C := RX6) (T := TX6) (N := 8) hx hb hts hX6 tyX6 tyX6_ok nmX6 hown hK hP hD hS 0 rfl rfl 0 (by decide) (hts _ kw_190) (fun _ h9 => h9) rfl hin rfl (tyX6_ok 0 (by decide)) rfl rfl (Nat.le_of_ble_eq_true rfl) dX6_init_38 (fun H locs hP hD hS => ?_)
  have hP : va_P D zm_classes [(h0, .inr (6, [.ref a1, .null, .ref q1, .ref q2, .ref q3, .ref q4, .int 0, .int 0])), (q1, .inl (c1, 36, .inl (fun _ => 0))), (q2, .inl (c2, 36, .inl (fun _ => 0))), (q3, .inl (c1, 36, .inl (fun _ => 0))), (q4, .inl (c1, 36, .inl (fun _ => 0)))] H := hP
  have hD : va_D A [(h0, .inr (6, [.ref a1, .null, .ref q1, .ref q2, .ref q3, .ref q4, .int 0, .int 0])), (q1, .inl (c1, 36, .inl (fun _ => 0))), (q2, .inl (c2, 36, .inl (fun _ => 0))), (q3, .inl (c1, 36, .inl (fun _ => 0))), (q4, .inl (c1, 36, .inl (fun _ => 0)))] := hD
  refine lv_aload_n hx hb dX6_init_41 rfl (lv_at hl 0 rfl) ?_
  refine lv_aload_n hx hb dX6_init_42 rfl (lv_at hl 2 rfl) ?_
  refine va_putF (D := D) (ci := 6) (v := .ref a2) (ty := tyX6 1) (C := RX6) (T := TX6) (N := 8) hx hb hts hX6 tyX6 tyX6_ok nmX6 hown hK hP hD hS 0 rfl rfl 1 (by decide) (hts _ kw_191) (fun _ h9 => h9) rfl hin rfl (tyX6_ok 1 (by decide)) rfl rfl (Nat.le_of_ble_eq_true rfl) dX6_init_43 (fun H locs hP hD hS => ?_)
  have hP : va_P D zm_classes [(h0, .inr (6, [.ref a1, .ref a2, .ref q1, .ref q2, .ref q3, .ref q4, .int 0, .int 0])), (q1, .inl (c1, 36, .inl (fun _ => 0))), (q2, .inl (c2, 36, .inl (fun _ => 0))), (q3, .inl (c1, 36, .inl (fun _ => 0))), (q4, .inl (c1, 36, .inl (fun _ => 0)))] H := hP
  have hD : va_D A [(h0, .inr (6, [.ref a1, .ref a2, .ref q1, .ref q2, .ref q3, .ref q4, .int 0, .int 0])), (q1, .inl (c1, 36, .inl (fun _ => 0))), (q2, .inl (c2, 36, .inl (fun _ => 0))), (q3, .inl (c1, 36, .inl (fun _ => 0))), (q4, .inl (c1, 36, .inl (fun _ => 0)))] := hD
  have hP9 := hP.sub (ws' := [(h0, .inr (6, [.ref a1, .ref a2, .ref q1, .ref q2, .ref q3, .ref q4, .int 0, .int 0])), (q1, .inl (c1, 36, .inl (fun _ => 0))), (q2, .inl (c2, 36, .inl (fun _ => 0))), (q3, .inl (c1, 36, .inl (fun _ => 0))), (q4, .inl (c1, 36, .inl (fun _ => 0)))]) [0, 1, 2, 3, 4] rfl
  have hD9 := hD.sub (ws' := [(h0, .inr (6, [.ref a1, .ref a2, .ref q1, .ref q2, .ref q3, .ref q4, .int 0, .int 0])), (q1, .inl (c1, 36, .inl (fun _ => 0))), (q2, .inl (c2, 36, .inl (fun _ => 0))), (q3, .inl (c1, 36, .inl (fun _ => 0))), (q4, .inl (c1, 36, .inl (fun _ => 0)))]) [0, 1, 2, 3, 4] (by decide) rfl
  exact W.vret hx hb hr (fun t ht hW => ⟨⟨(), rfl, trivial, q1, q2, q3, q4, by rw [ht]; exact hP9, va_K.moved hW.alike hK, hD9⟩, hS.F ht⟩) hS.2.2 dX6_init_46
theorem dX7_init_0 : decode cX7_init 0 = .ok (.aload_n 0, 1) := by decide +kernel
theorem dX7_init_1 : decode cX7_init 1 = .ok (.invokespecial 3, 3) := by decide +kernel
theorem dX7_init_4 : decode cX7_init 4 = .ok (.aload_n 0, 1) := by decide +kernel
theorem dX7_init_5 : decode cX7_init 5 = .ok (.iconst 4, 1) := by decide +kernel
theorem dX7_init_6 : decode cX7_init 6 = .ok (.newarray .int, 2) := by decide +kernel
theorem dX7_init_8 : decode cX7_init 8 = .ok (.putfield 9, 3) := by decide +kernel
theorem dX7_init_11 : decode cX7_init 11 = .ok (.aload_n 0, 1) := by decide +kernel
theorem dX7_init_12 : decode cX7_init 12 = .ok (.bipush 36, 2) := by decide +kernel
theorem dX7_init_14 : decode cX7_init 14 = .ok (.newarray .int, 2) := by decide +kernel
theorem dX7_init_16 : decode cX7_init 16 = .ok (.putfield 15, 3) := by decide +kernel
theorem dX7_init_19 : decode cX7_init 19 = .ok (.aload_n 0, 1) := by decide +kernel
theorem dX7_init_20 : decode cX7_init 20 = .ok (.sipush 288, 3) := by decide +kernel
theorem dX7_init_23 : decode cX7_init 23 = .ok (.newarray .int, 2) := by decide +kernel
theorem dX7_init_25 : decode cX7_init 25 = .ok (.putfield 18, 3) := by decide +kernel
theorem dX7_init_28 : decode cX7_init 28 = .ok (.aload_n 0, 1) := by decide +kernel
theorem dX7_init_29 : decode cX7_init 29 = .ok (.sipush 288, 3) := by decide +kernel
theorem dX7_init_32 : decode cX7_init 32 = .ok (.newarray .boolean, 2) := by decide +kernel
theorem dX7_init_34 : decode cX7_init 34 = .ok (.putfield 21, 3) := by decide +kernel
theorem dX7_init_37 : decode cX7_init 37 = .ok (.aload_n 0, 1) := by decide +kernel
theorem dX7_init_38 : decode cX7_init 38 = .ok (.aload_n 1, 1) := by decide +kernel
theorem dX7_init_39 : decode cX7_init 39 = .ok (.putfield 25, 3) := by decide +kernel
theorem dX7_init_42 : decode cX7_init 42 = .ok (.aload_n 0, 1) := by decide +kernel
theorem dX7_init_43 : decode cX7_init 43 = .ok (.aload_n 2, 1) := by decide +kernel
theorem dX7_init_44 : decode cX7_init 44 = .ok (.putfield 29, 3) := by decide +kernel
theorem dX7_init_47 : decode cX7_init 47 = .ok (.iconst 0, 1) := by decide +kernel
theorem dX7_init_48 : decode cX7_init 48 = .ok (.istore_n 3, 1) := by decide +kernel
theorem dX7_init_49 : decode cX7_init 49 = .ok (.iload_n 3, 1) := by decide +kernel
theorem dX7_init_50 : decode cX7_init 50 = .ok (.bipush 36, 2) := by decide +kernel
theorem dX7_init_52 : decode cX7_init 52 = .ok (.if_icmp .ge 16, 3) := by decide +kernel
theorem dX7_init_55 : decode cX7_init 55 = .ok (.aload_n 0, 1) := by decide +kernel
theorem dX7_init_56 : decode cX7_init 56 = .ok (.getfield 15, 3) := by decide +kernel
theorem dX7_init_59 : decode cX7_init 59 = .ok (.iload_n 3, 1) := by decide +kernel
theorem dX7_init_60 : decode cX7_init 60 = .ok (.iload_n 3, 1) := by decide +kernel
theorem dX7_init_61 : decode cX7_init 61 = .ok (.iastore, 1) := by decide +kernel
theorem dX7_init_62 : decode cX7_init 62 = .ok (.iinc 3 1, 3) := by decide +kernel
theorem dX7_init_65 : decode cX7_init 65 = .ok (.goto (-16), 3) := by decide +kernel
theorem dX7_init_68 : decode cX7_init 68 = .ok (.return_, 1) := by decide +kernel
abbrev gX7_init : zm_Sig := (yX7_init, cX7_init, 4, none, 1, 12)
theorem kcX7 : Cond.code yX7_init cX7_init 4 none ∈ zm_tb := zm_tb_in 131 (by decide +kernel) (by decide +kernel)
theorem kw_132 : Cond.methodLink RX7 3 objectInit ∈ zm_tb := zm_tb_in 132 (by decide +kernel) (by decide +kernel)
theorem kw_135 : Cond.fieldLink RX7 9 (TX7 2).1 (TX7 2).2.1 (TX7 2).2.2.1 ∈ zm_tb := zm_tb_in 135 (by decide +kernel) (by decide +kernel)
theorem kw_136 : Cond.fieldLink RX7 15 (TX7 3).1 (TX7 3).2.1 (TX7 3).2.2.1 ∈ zm_tb := zm_tb_in 136 (by decide +kernel) (by decide +kernel)
theorem kw_138 : Cond.fieldLink RX7 18 (TX7 4).1 (TX7 4).2.1 (TX7 4).2.2.1 ∈ zm_tb := zm_tb_in 138 (by decide +kernel) (by decide +kernel)
theorem kw_139 : Cond.fieldLink RX7 21 (TX7 5).1 (TX7 5).2.1 (TX7 5).2.2.1 ∈ zm_tb := zm_tb_in 139 (by decide +kernel) (by decide +kernel)
theorem kw_133 : Cond.fieldLink RX7 25 (TX7 0).1 (TX7 0).2.1 (TX7 0).2.2.1 ∈ zm_tb := zm_tb_in 133 (by decide +kernel) (by decide +kernel)
theorem kw_134 : Cond.fieldLink RX7 29 (TX7 1).1 (TX7 1).2.1 (TX7 1).2.2.1 ∈ zm_tb := zm_tb_in 134 (by decide +kernel) (by decide +kernel)
set_option maxHeartbeats 4000000 in
set_option maxRecDepth 100000 in
theorem kX7_init (l : Launch) (D : va_G) (c1 c2 : ClassId) (h0 a1 a2 : Nat) (sz : Nat) : Met l yX7_init (zm_ws gX7_init) ({ frames := 1, cells := 4, slots := 616, locals := 12 }) (va_Pc [.ref h0, .ref a1, .ref a2] (fun U => U.heap.size = sz ∧ va_P D zm_classes [(h0, .inr (7, [.null, .null, .null, .null, .null, .null, .int 0]))] U.heap ∧ va_K D zm_classes (zm_tys c1 c2) U ∧ va_D (fun _ => True) [(h0, .inr (7, [.null, .null, .null, .null, .null, .null, .int 0]))])) (va_Qv (fun _ : Unit => True) (fun _ t => ∃ (q1 q2 q3 q4 : Nat) (f : Nat → Int32), (∀ j, j < 36 → f j = nI j) ∧ va_P D zm_classes [(h0, .inr (7, [.ref a1, .ref a2, .ref q1, .ref q2, .ref q3, .ref q4, .int 0])), (q1, .inl (c1, 4, .inl (fun _ => 0))), (q2, .inl (c1, 36, .inl f)), (q3, .inl (c1, 288, .inl (fun _ => 0))), (q4, .inl (c2, 288, .inl (fun _ => 0)))] t.heap ∧ va_K D zm_classes (zm_tys c1 c2) t ∧ va_D (va_A [(h0, .inr (7, [.null, .null, .null, .null, .null, .null, .int 0]))] sz) [(h0, .inr (7, [.ref a1, .ref a2, .ref q1, .ref q2, .ref q3, .ref q4, .int 0])), (q1, .inl (c1, 4, .inl (fun _ => 0))), (q2, .inl (c1, 36, .inl f)), (q3, .inl (c1, 288, .inl (fun _ => 0))), (q4, .inl (c2, 288, .inl (fun _ => 0)))]) (va_A [(h0, .inr (7, [.null, .null, .null, .null, .null, .null, .int 0]))] sz)) 4 616 (va_A [(h0, .inr (7, [.null, .null, .null, .null, .null, .null, .int 0]))] sz) := by
  refine Met.ofW (cc := cX7_init) (maxL := 4) (ret := none) (by decide +kernel) rfl ?_
  intro p e s m args below meth c s₁ B hml hv
  obtain ⟨rfl, hsz, hP, hK, hD0⟩ := hv
  have hx := B.exec
  have hb := B.bytes
  have hr := B.returns
  have hts0 := atoms_spec (ws := zm_ws gX7_init) B.pre
  have hts : ∀ w ∈ zm_tb, w.before _ s = true := fun w hw => hts0 w (List.mem_cons_of_mem _ hw)
  have hown : s.vm.findClass RX7 = some m.cls := findClass_of_methodNamed B.named
  have hlocks := B.notSynchronized
  have hin : meth.name = "<init>" := (name_of_methodNamed B.named B.method).1
  subst hsz
  have hD := hD0.self (sz := s.heap.size)
  generalize hAe : va_A [(h0, .inr (7, [.null, .null, .null, .null, .null, .null, .int 0]))] s.heap.size = A at hD ⊢
  have hA : ∀ q : Nat, s.heap.size ≤ q → A q := fun q h => by rw [← hAe]; exact Or.inr h
  have hS : va_S A s.heap s.heap [] := va_S.rf
  have hP : va_P D zm_classes [(h0, .inr (7, [.null, .null, .null, .null, .null, .null, .int 0]))] s.heap := hP
  have hl := lv_entry ([.ref h0, .ref a1, .ref a2]) (n := 4) (Nat.le_of_ble_eq_true rfl)
  rw [lg_entry_eq]
  generalize (lg_sl ([.ref h0, .ref a1, .ref a2]) ++ List.replicate (4 - (lg_sl ([.ref h0, .ref a1, .ref a2])).length) Slot.unset).toArray = ls at hl ⊢
  have hl : lv_has ls 4 [(0, .ref h0), (1, .ref a1), (2, .ref a2)] := hl
  refine lv_aload_n hx hb dX7_init_0 rfl (lv_at hl 0 rfl) ?_
  refine W.objInit hx hb hown (hts _ kw_132) (hts _ kw_43) (hts _ kw_44) rfl (by rw [hml]; exact hl.1) rfl dX7_init_1 (Nat.le_of_ble_eq_true rfl) (Nat.le_of_ble_eq_true rfl) ?_
  refine W.eq (g2 := F0 m 4 ls []) rfl ?_
  refine lv_aload_n hx hb dX7_init_4 rfl (lv_at hl 0 rfl) ?_
  refine lv_iconst (v := 4) hx hb dX7_init_5 (by decide) ?_
  refine zn_newi hx hb (hts _ kw_97) hK hP hD hS hA 4 (by decide) (by decide) (by decide) (Nat.le_of_ble_eq_true rfl) (Nat.le_of_ble_eq_true rfl) dX7_init_6 (fun q1 H hP hD hS => ?_)
  have hP : va_P D zm_classes [(h0, .inr (7, [.null, .null, .null, .null, .null, .null, .int 0])), (q1, .inl (c1, 4, .inl (fun _ => 0)))] H := hP
  have hD : va_D A [(h0, .inr (7, [.null, .null, .null, .null, .null, .null, .int 0])), (q1, .inl (c1, 4, .inl (fun _ => 0)))] := hD
  refine W.widen (k := 1) (n := 4) (by omega) (by omega) ?_
  refine va_putF (D := D) (ci := 7) (v := .ref q1) (ty := tyX7 2) (C := RX7) (T := TX7) (N := 7) hx hb hts hX7 tyX7 tyX7_ok nmX7 hown hK hP hD hS 0 rfl rfl 2 (by decide) (hts _ kw_135) (fun _ h9 => h9) rfl hin rfl (tyX7_ok 2 (by decide)) rfl rfl (Nat.le_of_ble_eq_true rfl) dX7_init_8 (fun H locs hP hD hS => ?_)
  have hP : va_P D zm_classes [(h0, .inr (7, [.null, .null, .ref q1, .null, .null, .null, .int 0])), (q1, .inl (c1, 4, .inl (fun _ => 0)))] H := hP
  have hD : va_D A [(h0, .inr (7, [.null, .null, .ref q1, .null, .null, .null, .int 0])), (q1, .inl (c1, 4, .inl (fun _ => 0)))] := hD
  refine lv_aload_n hx hb dX7_init_11 rfl (lv_at hl 0 rfl) ?_
  refine lv_bipush (v := 36) hx hb dX7_init_12 (by decide) ?_
  refine zn_newi hx hb (hts _ kw_97) hK hP hD hS hA 36 (by decide) (by decide) (by decide) (Nat.le_of_ble_eq_true rfl) (Nat.le_of_ble_eq_true rfl) dX7_init_14 (fun q2 H hP hD hS => ?_)
  have hP : va_P D zm_classes [(h0, .inr (7, [.null, .null, .ref q1, .null, .null, .null, .int 0])), (q1, .inl (c1, 4, .inl (fun _ => 0))), (q2, .inl (c1, 36, .inl (fun _ => 0)))] H := hP
  have hD : va_D A [(h0, .inr (7, [.null, .null, .ref q1, .null, .null, .null, .int 0])), (q1, .inl (c1, 4, .inl (fun _ => 0))), (q2, .inl (c1, 36, .inl (fun _ => 0)))] := hD
  refine W.widen (k := 2) (n := 40) (by omega) (by omega) ?_
  refine va_putF (D := D) (ci := 7) (v := .ref q2) (ty := tyX7 3) (C := RX7) (T := TX7) (N := 7) hx hb hts hX7 tyX7 tyX7_ok nmX7 hown hK hP hD hS 0 rfl rfl 3 (by decide) (hts _ kw_136) (fun _ h9 => h9) rfl hin rfl (tyX7_ok 3 (by decide)) rfl rfl (Nat.le_of_ble_eq_true rfl) dX7_init_16 (fun H locs hP hD hS => ?_)
  have hP : va_P D zm_classes [(h0, .inr (7, [.null, .null, .ref q1, .ref q2, .null, .null, .int 0])), (q1, .inl (c1, 4, .inl (fun _ => 0))), (q2, .inl (c1, 36, .inl (fun _ => 0)))] H := hP
  have hD : va_D A [(h0, .inr (7, [.null, .null, .ref q1, .ref q2, .null, .null, .int 0])), (q1, .inl (c1, 4, .inl (fun _ => 0))), (q2, .inl (c1, 36, .inl (fun _ => 0)))] := hD
  refine lv_aload_n hx hb dX7_init_19 rfl (lv_at hl 0 rfl) ?_
  refine lv_sipush (v := 288) hx hb dX7_init_20 (by decide) ?_
  refine zn_newi hx hb (hts _ kw_97) hK hP hD hS hA 288 (by decide) (by decide) (by decide) (Nat.le_of_ble_eq_true rfl) (Nat.le_of_ble_eq_true rfl) dX7_init_23 (fun q3 H hP hD hS => ?_)
  have hP : va_P D zm_classes [(h0, .inr (7, [.null, .null, .ref q1, .ref q2, .null, .null, .int 0])), (q1, .inl (c1, 4, .inl (fun _ => 0))), (q2, .inl (c1, 36, .inl (fun _ => 0))), (q3, .inl (c1, 288, .inl (fun _ => 0)))] H := hP
  have hD : va_D A [(h0, .inr (7, [.null, .null, .ref q1, .ref q2, .null, .null, .int 0])), (q1, .inl (c1, 4, .inl (fun _ => 0))), (q2, .inl (c1, 36, .inl (fun _ => 0))), (q3, .inl (c1, 288, .inl (fun _ => 0)))] := hD
  refine W.widen (k := 3) (n := 328) (by omega) (by omega) ?_
  refine va_putF (D := D) (ci := 7) (v := .ref q3) (ty := tyX7 4) (C := RX7) (T := TX7) (N := 7) hx hb hts hX7 tyX7 tyX7_ok nmX7 hown hK hP hD hS 0 rfl rfl 4 (by decide) (hts _ kw_138) (fun _ h9 => h9) rfl hin rfl (tyX7_ok 4 (by decide)) rfl rfl (Nat.le_of_ble_eq_true rfl) dX7_init_25 (fun H locs hP hD hS => ?_)
  have hP : va_P D zm_classes [(h0, .inr (7, [.null, .null, .ref q1, .ref q2, .ref q3, .null, .int 0])), (q1, .inl (c1, 4, .inl (fun _ => 0))), (q2, .inl (c1, 36, .inl (fun _ => 0))), (q3, .inl (c1, 288, .inl (fun _ => 0)))] H := hP
  have hD : va_D A [(h0, .inr (7, [.null, .null, .ref q1, .ref q2, .ref q3, .null, .int 0])), (q1, .inl (c1, 4, .inl (fun _ => 0))), (q2, .inl (c1, 36, .inl (fun _ => 0))), (q3, .inl (c1, 288, .inl (fun _ => 0)))] := hD
  refine lv_aload_n hx hb dX7_init_28 rfl (lv_at hl 0 rfl) ?_
  refine lv_sipush (v := 288) hx hb dX7_init_29 (by decide) ?_
  refine zn_newz hx hb (hts _ kw_157) hK hP hD hS hA 288 (by decide) (by decide) (by decide) (Nat.le_of_ble_eq_true rfl) (Nat.le_of_ble_eq_true rfl) dX7_init_32 (fun q4 H hP hD hS => ?_)
  have hP : va_P D zm_classes [(h0, .inr (7, [.null, .null, .ref q1, .ref q2, .ref q3, .null, .int 0])), (q1, .inl (c1, 4, .inl (fun _ => 0))), (q2, .inl (c1, 36, .inl (fun _ => 0))), (q3, .inl (c1, 288, .inl (fun _ => 0))), (q4, .inl (c2, 288, .inl (fun _ => 0)))] H := hP
  have hD : va_D A [(h0, .inr (7, [.null, .null, .ref q1, .ref q2, .ref q3, .null, .int 0])), (q1, .inl (c1, 4, .inl (fun _ => 0))), (q2, .inl (c1, 36, .inl (fun _ => 0))), (q3, .inl (c1, 288, .inl (fun _ => 0))), (q4, .inl (c2, 288, .inl (fun _ => 0)))] := hD
  refine W.widen (k := 4) (n := 616) (by omega) (by omega) ?_
  refine va_putF (D := D) (ci := 7) (v := .ref q4) (ty := tyX7 5) (C := RX7) (T := TX7) (N := 7) hx hb hts hX7 tyX7 tyX7_ok nmX7 hown hK hP hD hS 0 rfl rfl 5 (by decide) (hts _ kw_139) (fun _ h9 => h9) rfl hin rfl (tyX7_ok 5 (by decide)) rfl rfl (Nat.le_of_ble_eq_true rfl) dX7_init_34 (fun H locs hP hD hS => ?_)
  have hP : va_P D zm_classes [(h0, .inr (7, [.null, .null, .ref q1, .ref q2, .ref q3, .ref q4, .int 0])), (q1, .inl (c1, 4, .inl (fun _ => 0))), (q2, .inl (c1, 36, .inl (fun _ => 0))), (q3, .inl (c1, 288, .inl (fun _ => 0))), (q4, .inl (c2, 288, .inl (fun _ => 0)))] H := hP
  have hD : va_D A [(h0, .inr (7, [.null, .null, .ref q1, .ref q2, .ref q3, .ref q4, .int 0])), (q1, .inl (c1, 4, .inl (fun _ => 0))), (q2, .inl (c1, 36, .inl (fun _ => 0))), (q3, .inl (c1, 288, .inl (fun _ => 0))), (q4, .inl (c2, 288, .inl (fun _ => 0)))] := hD
  refine lv_aload_n hx hb dX7_init_37 rfl (lv_at hl 0 rfl) ?_
  refine lv_aload_n hx hb dX7_init_38 rfl (lv_at hl 1 rfl) ?_
  refine va_putF (D := D) (ci := 7) (v := .ref a1) (ty := tyX7 0) (C := RX7) (T := TX7) (N := 7) hx hb hts hX7 tyX7 tyX7_ok nmX7 hown hK hP hD hS 0 rfl rfl 0 (by decide) (hts _ kw_133) (fun _ h9 => h9) rfl hin rfl (tyX7_ok 0 (by decide)) rfl rfl (Nat.le_of_ble_eq_true rfl) dX7_init_39 (fun H locs hP hD hS => ?_)
  have hP : va_P D zm_classes [(h0, .inr (7, [.ref a1, .null, .ref q1, .ref q2, .ref q3, .ref q4, .int 0])), (q1, .inl (c1, 4, .inl (fun _ => 0))), (q2, .inl (c1, 36, .inl (fun _ => 0))), (q3, .inl (c1, 288, .inl (fun _ => 0))), (q4, .inl (c2, 288, .inl (fun _ => 0)))] H := hP
  have hD : va_D A [(h0, .inr (7, [.ref a1, .null, .ref q1, .ref q2, .ref q3, .ref q4, .int 0])), (q1, .inl (c1, 4, .inl (fun _ => 0))), (q2, .inl (c1, 36, .inl (fun _ => 0))), (q3, .inl (c1, 288, .inl (fun _ => 0))), (q4, .inl (c2, 288, .inl (fun _ => 0)))] := hD
  refine lv_aload_n hx hb dX7_init_42 rfl (lv_at hl 0 rfl) ?_
  refine lv_aload_n hx hb dX7_init_43 rfl (lv_at hl 2 rfl) ?_
  refine va_putF (D := D) (ci := 7) (v := .ref a2) (ty := tyX7 1) (C := RX7) (T := TX7) (N := 7) hx hb hts hX7 tyX7 tyX7_ok nmX7 hown hK hP hD hS 0 rfl rfl 1 (by decide) (hts _ kw_134) (fun _ h9 => h9) rfl hin rfl (tyX7_ok 1 (by decide)) rfl rfl (Nat.le_of_ble_eq_true rfl) dX7_init_44 (fun H locs hP hD hS => ?_)
  have hP : va_P D zm_classes [(h0, .inr (7, [.ref a1, .ref a2, .ref q1, .ref q2, .ref q3, .ref q4, .int 0])), (q1, .inl (c1, 4, .inl (fun _ => 0))), (q2, .inl (c1, 36, .inl (fun _ => 0))), (q3, .inl (c1, 288, .inl (fun _ => 0))), (q4, .inl (c2, 288, .inl (fun _ => 0)))] H := hP
  have hD : va_D A [(h0, .inr (7, [.ref a1, .ref a2, .ref q1, .ref q2, .ref q3, .ref q4, .int 0])), (q1, .inl (c1, 4, .inl (fun _ => 0))), (q2, .inl (c1, 36, .inl (fun _ => 0))), (q3, .inl (c1, 288, .inl (fun _ => 0))), (q4, .inl (c2, 288, .inl (fun _ => 0)))] := hD
  refine lv_iconst (v := 0) hx hb dX7_init_47 (by decide) ?_
  refine lv_istore_n (lv' := [(3, .int 0), (0, .ref h0), (1, .ref a1), (2, .ref a2)]) hx hb dX7_init_48 rfl hl (by decide) rfl (fun ls hl => ?_)
  have loop : ∀ (k i : Nat) (f : Nat → Int32) (H : Heap) (locs : List Loc) (ls : Array Slot), i + k = 36 → (∀ j, j < i → f j = nI j) → va_P D zm_classes [(h0, .inr (7, [.ref a1, .ref a2, .ref q1, .ref q2, .ref q3, .ref q4, .int 0])), (q1, .inl (c1, 4, .inl (fun _ => 0))), (q2, .inl (c1, 36, .inl f)), (q3, .inl (c1, 288, .inl (fun _ => 0))), (q4, .inl (c2, 288, .inl (fun _ => 0)))] H → va_D A [(h0, .inr (7, [.ref a1, .ref a2, .ref q1, .ref q2, .ref q3, .ref q4, .int 0])), (q1, .inl (c1, 4, .inl (fun _ => 0))), (q2, .inl (c1, 36, .inl f)), (q3, .inl (c1, 288, .inl (fun _ => 0))), (q4, .inl (c2, 288, .inl (fun _ => 0)))] → va_S A s.heap H locs → lv_has ls 4 [(3, .int (nI i)), (0, .ref h0), (1, .ref a1), (2, .ref a2)] → W p l e ({ frames := 1, cells := 4, slots := 616, locals := 12 }) s m ([.ref h0, .ref a1, .ref a2] : List Value).toArray below meth c H locs 4 616 (MQ below (va_Qv (fun _ : Unit => True) (fun _ t => ∃ (q1 q2 q3 q4 : Nat) (f : Nat → Int32), (∀ j, j < 36 → f j = nI j) ∧ va_P D zm_classes [(h0, .inr (7, [.ref a1, .ref a2, .ref q1, .ref q2, .ref q3, .ref q4, .int 0])), (q1, .inl (c1, 4, .inl (fun _ => 0))), (q2, .inl (c1, 36, .inl f)), (q3, .inl (c1, 288, .inl (fun _ => 0))), (q4, .inl (c2, 288, .inl (fun _ => 0)))] t.heap ∧ va_K D zm_classes (zm_tys c1 c2) t ∧ va_D A [(h0, .inr (7, [.ref a1, .ref a2, .ref q1, .ref q2, .ref q3, .ref q4, .int 0])), (q1, .inl (c1, 4, .inl (fun _ => 0))), (q2, .inl (c1, 36, .inl f)), (q3, .inl (c1, 288, .inl (fun _ => 0))), (q4, .inl (c2, 288, .inl (fun _ => 0)))]) A) ([.ref h0, .ref a1, .ref a2] : List Value).toArray s 4 616 A) (F0 m 49 ls []) := by
    intro k
    induction k with
    | zero =>
      intro i f H locs ls hi hf hP hD hS hl
      refine lv_iload_n hx hb dX7_init_49 rfl (lv_at hl 0 rfl) ?_
      refine lv_bipush (v := 36) hx hb dX7_init_50 (by decide) ?_
      refine lv_icmp_ge (tgt := 68) hx hb dX7_init_52 (by decide) (fun _ => ?_) (fun z => absurd ?_ z)
      · have hP9 := hP.sub (ws' := [(h0, .inr (7, [.ref a1, .ref a2, .ref q1, .ref q2, .ref q3, .ref q4, .int 0])), (q1, .inl (c1, 4, .inl (fun _ => 0))), (q2, .inl (c1, 36, .inl f)), (q3, .inl (c1, 288, .inl (fun _ => 0))), (q4, .inl (c2, 288, .inl (fun _ => 0)))]) [0, 1, 2, 3, 4] rfl
        have hD9 := hD.sub (ws' := [(h0, .inr (7, [.ref a1, .ref a2, .ref q1, .ref q2, .ref q3, .ref q4, .int 0])), (q1, .inl (c1, 4, .inl (fun _ => 0))), (q2, .inl (c1, 36, .inl f)), (q3, .inl (c1, 288, .inl (fun _ => 0))), (q4, .inl (c2, 288, .inl (fun _ => 0)))]) [0, 1, 2, 3, 4] (by decide) rfl
        exact W.vret hx hb hr (fun t ht hW => ⟨⟨(), rfl, trivial, q1, q2, q3, q4, f, fun j hj => hf j (by omega), by rw [ht]; exact hP9, va_K.moved hW.alike hK, hD9⟩, hS.F ht⟩) hS.2.2 dX7_init_68
      · rw [show i = 36 by omega]; decide
    | succ k ih =>
      intro i f H locs ls hi hf hP hD hS hl
      refine lv_iload_n hx hb dX7_init_49 rfl (lv_at hl 0 rfl) ?_
      refine lv_bipush (v := 36) hx hb dX7_init_50 (by decide) ?_
      refine lv_icmp_ge (tgt := 68) hx hb dX7_init_52 (by decide) (fun z => ?_) (fun _ => ?_)
      · exact absurd ((nI_leI (a := 36) (b := i) (by decide) (by omega)).mp z) (by omega)
      · refine lv_aload_n hx hb dX7_init_55 rfl (lv_at hl 1 rfl) ?_
        refine va_get (D := D) (ci := 7) (v := .ref q2) (C := RX7) (T := TX7) (N := 7) hx hb hts hX7 hown hK hP 0 rfl rfl 3 (by decide) (hts _ kw_136) (fun _ h9 => h9) rfl dX7_init_56 ?_
        refine lv_iload_n hx hb dX7_init_59 rfl (lv_at hl 0 rfl) ?_
        refine lv_iload_n hx hb dX7_init_60 rfl (lv_at hl 0 rfl) ?_
        refine va_iast (D := D) hx hb hK hP hD hS 2 0 (cA := c1) (f := f) rfl rfl (pk_in i 36 (by omega)) dX7_init_61 (fun H1 locs1 hP hD hS => ?_)
        rw [nI_clamp (by omega)] at hP hD
        refine lv_iinc (v := nI (i + 1)) (lv' := [(3, .int (nI (i + 1))), (0, .ref h0), (1, .ref a1), (2, .ref a2)]) hx hb dX7_init_62 hl (k := 0) rfl (nI_1 i) (by decide) rfl (fun ls hl => ?_)
        refine lv_goto (tgt := 49) hx hb dX7_init_65 (by decide) ?_
        refine ih (i + 1) (upd f i (nI i)) H1 locs1 ls (by omega) (fun j hj => ?_) hP hD hS hl
        by_cases q : j = i
        · simp [upd, q]
        · simp [upd, q]; exact hf j (by omega)
  exact loop 36 0 (fun _ => 0) _ _ ls rfl (fun j hj => by omega) hP hD hS hl
theorem dX9_init_0 : decode cX9_init 0 = .ok (.aload_n 0, 1) := by decide +kernel
theorem dX9_init_1 : decode cX9_init 1 = .ok (.invokespecial 1, 3) := by decide +kernel
theorem dX9_init_4 : decode cX9_init 4 = .ok (.aload_n 0, 1) := by decide +kernel
theorem dX9_init_5 : decode cX9_init 5 = .ok (.iconst 4, 1) := by decide +kernel
theorem dX9_init_6 : decode cX9_init 6 = .ok (.putfield 7, 3) := by decide +kernel
theorem dX9_init_9 : decode cX9_init 9 = .ok (.aload_n 0, 1) := by decide +kernel
theorem dX9_init_10 : decode cX9_init 10 = .ok (.iconst 4, 1) := by decide +kernel
theorem dX9_init_11 : decode cX9_init 11 = .ok (.putfield 13, 3) := by decide +kernel
theorem dX9_init_14 : decode cX9_init 14 = .ok (.aload_n 0, 1) := by decide +kernel
theorem dX9_init_15 : decode cX9_init 15 = .ok (.iconst 2, 1) := by decide +kernel
theorem dX9_init_16 : decode cX9_init 16 = .ok (.putfield 16, 3) := by decide +kernel
theorem dX9_init_19 : decode cX9_init 19 = .ok (.aload_n 0, 1) := by decide +kernel
theorem dX9_init_20 : decode cX9_init 20 = .ok (.bipush 36, 2) := by decide +kernel
theorem dX9_init_22 : decode cX9_init 22 = .ok (.newarray .int, 2) := by decide +kernel
theorem dX9_init_24 : decode cX9_init 24 = .ok (.putfield 19, 3) := by decide +kernel
theorem dX9_init_27 : decode cX9_init 27 = .ok (.aload_n 0, 1) := by decide +kernel
theorem dX9_init_28 : decode cX9_init 28 = .ok (.bipush 36, 2) := by decide +kernel
theorem dX9_init_30 : decode cX9_init 30 = .ok (.newarray .int, 2) := by decide +kernel
theorem dX9_init_32 : decode cX9_init 32 = .ok (.putfield 23, 3) := by decide +kernel
theorem dX9_init_35 : decode cX9_init 35 = .ok (.aload_n 0, 1) := by decide +kernel
theorem dX9_init_36 : decode cX9_init 36 = .ok (.bipush 36, 2) := by decide +kernel
theorem dX9_init_38 : decode cX9_init 38 = .ok (.newarray .int, 2) := by decide +kernel
theorem dX9_init_40 : decode cX9_init 40 = .ok (.putfield 26, 3) := by decide +kernel
theorem dX9_init_43 : decode cX9_init 43 = .ok (.aload_n 0, 1) := by decide +kernel
theorem dX9_init_44 : decode cX9_init 44 = .ok (.bipush 36, 2) := by decide +kernel
theorem dX9_init_46 : decode cX9_init 46 = .ok (.newarray .int, 2) := by decide +kernel
theorem dX9_init_48 : decode cX9_init 48 = .ok (.putfield 29, 3) := by decide +kernel
theorem dX9_init_51 : decode cX9_init 51 = .ok (.aload_n 0, 1) := by decide +kernel
theorem dX9_init_52 : decode cX9_init 52 = .ok (.iconst 4, 1) := by decide +kernel
theorem dX9_init_53 : decode cX9_init 53 = .ok (.newarray .int, 2) := by decide +kernel
theorem dX9_init_55 : decode cX9_init 55 = .ok (.putfield 32, 3) := by decide +kernel
theorem dX9_init_58 : decode cX9_init 58 = .ok (.aload_n 0, 1) := by decide +kernel
theorem dX9_init_59 : decode cX9_init 59 = .ok (.iconst 4, 1) := by decide +kernel
theorem dX9_init_60 : decode cX9_init 60 = .ok (.newarray .int, 2) := by decide +kernel
theorem dX9_init_62 : decode cX9_init 62 = .ok (.putfield 35, 3) := by decide +kernel
theorem dX9_init_65 : decode cX9_init 65 = .ok (.aload_n 0, 1) := by decide +kernel
theorem dX9_init_66 : decode cX9_init 66 = .ok (.sipush 288, 3) := by decide +kernel
theorem dX9_init_69 : decode cX9_init 69 = .ok (.newarray .boolean, 2) := by decide +kernel
theorem dX9_init_71 : decode cX9_init 71 = .ok (.putfield 38, 3) := by decide +kernel
theorem dX9_init_74 : decode cX9_init 74 = .ok (.aload_n 0, 1) := by decide +kernel
theorem dX9_init_75 : decode cX9_init 75 = .ok (.sipush 288, 3) := by decide +kernel
theorem dX9_init_78 : decode cX9_init 78 = .ok (.newarray .int, 2) := by decide +kernel
theorem dX9_init_80 : decode cX9_init 80 = .ok (.putfield 42, 3) := by decide +kernel
theorem dX9_init_83 : decode cX9_init 83 = .ok (.aload_n 0, 1) := by decide +kernel
theorem dX9_init_84 : decode cX9_init 84 = .ok (.bipush 36, 2) := by decide +kernel
theorem dX9_init_86 : decode cX9_init 86 = .ok (.newarray .boolean, 2) := by decide +kernel
theorem dX9_init_88 : decode cX9_init 88 = .ok (.putfield 45, 3) := by decide +kernel
theorem dX9_init_91 : decode cX9_init 91 = .ok (.aload_n 0, 1) := by decide +kernel
theorem dX9_init_92 : decode cX9_init 92 = .ok (.iconst 4, 1) := by decide +kernel
theorem dX9_init_93 : decode cX9_init 93 = .ok (.newarray .int, 2) := by decide +kernel
theorem dX9_init_95 : decode cX9_init 95 = .ok (.putfield 48, 3) := by decide +kernel
theorem dX9_init_98 : decode cX9_init 98 = .ok (.aload_n 0, 1) := by decide +kernel
theorem dX9_init_99 : decode cX9_init 99 = .ok (.bipush 36, 2) := by decide +kernel
theorem dX9_init_101 : decode cX9_init 101 = .ok (.newarray .int, 2) := by decide +kernel
theorem dX9_init_103 : decode cX9_init 103 = .ok (.putfield 51, 3) := by decide +kernel
theorem dX9_init_106 : decode cX9_init 106 = .ok (.aload_n 0, 1) := by decide +kernel
theorem dX9_init_107 : decode cX9_init 107 = .ok (.bipush 36, 2) := by decide +kernel
theorem dX9_init_109 : decode cX9_init 109 = .ok (.newarray .int, 2) := by decide +kernel
theorem dX9_init_111 : decode cX9_init 111 = .ok (.putfield 54, 3) := by decide +kernel
theorem dX9_init_114 : decode cX9_init 114 = .ok (.aload_n 0, 1) := by decide +kernel
theorem dX9_init_115 : decode cX9_init 115 = .ok (.bipush 36, 2) := by decide +kernel
theorem dX9_init_117 : decode cX9_init 117 = .ok (.newarray .int, 2) := by decide +kernel
theorem dX9_init_119 : decode cX9_init 119 = .ok (.putfield 57, 3) := by decide +kernel
theorem dX9_init_122 : decode cX9_init 122 = .ok (.aload_n 0, 1) := by decide +kernel
theorem dX9_init_123 : decode cX9_init 123 = .ok (.bipush 36, 2) := by decide +kernel
theorem dX9_init_125 : decode cX9_init 125 = .ok (.newarray .boolean, 2) := by decide +kernel
theorem dX9_init_127 : decode cX9_init 127 = .ok (.putfield 60, 3) := by decide +kernel
theorem dX9_init_130 : decode cX9_init 130 = .ok (.aload_n 0, 1) := by decide +kernel
theorem dX9_init_131 : decode cX9_init 131 = .ok (.bipush 36, 2) := by decide +kernel
theorem dX9_init_133 : decode cX9_init 133 = .ok (.newarray .int, 2) := by decide +kernel
theorem dX9_init_135 : decode cX9_init 135 = .ok (.putfield 63, 3) := by decide +kernel
theorem dX9_init_138 : decode cX9_init 138 = .ok (.aload_n 0, 1) := by decide +kernel
theorem dX9_init_139 : decode cX9_init 139 = .ok (.sipush 10368, 3) := by decide +kernel
theorem dX9_init_142 : decode cX9_init 142 = .ok (.newarray .int, 2) := by decide +kernel
theorem dX9_init_144 : decode cX9_init 144 = .ok (.putfield 66, 3) := by decide +kernel
theorem dX9_init_147 : decode cX9_init 147 = .ok (.return_, 1) := by decide +kernel
abbrev gX9_init : zm_Sig := (yX9_init, cX9_init, 1, none, 1, 12)
theorem kcX9 : Cond.code yX9_init cX9_init 1 none ∈ zm_tb := zm_tb_in 765 (by decide +kernel) (by decide +kernel)
theorem kw_766 : Cond.methodLink RX9 1 objectInit ∈ zm_tb := zm_tb_in 766 (by decide +kernel) (by decide +kernel)
theorem kw_768 : Cond.fieldLink RX9 7 (TX9 1).1 (TX9 1).2.1 (TX9 1).2.2.1 ∈ zm_tb := zm_tb_in 768 (by decide +kernel) (by decide +kernel)
theorem kw_769 : Cond.fieldLink RX9 13 (TX9 2).1 (TX9 2).2.1 (TX9 2).2.2.1 ∈ zm_tb := zm_tb_in 769 (by decide +kernel) (by decide +kernel)
theorem kw_770 : Cond.fieldLink RX9 16 (TX9 3).1 (TX9 3).2.1 (TX9 3).2.2.1 ∈ zm_tb := zm_tb_in 770 (by decide +kernel) (by decide +kernel)
theorem kw_771 : Cond.fieldLink RX9 19 (TX9 4).1 (TX9 4).2.1 (TX9 4).2.2.1 ∈ zm_tb := zm_tb_in 771 (by decide +kernel) (by decide +kernel)
theorem kw_772 : Cond.fieldLink RX9 23 (TX9 5).1 (TX9 5).2.1 (TX9 5).2.2.1 ∈ zm_tb := zm_tb_in 772 (by decide +kernel) (by decide +kernel)
theorem kw_773 : Cond.fieldLink RX9 26 (TX9 6).1 (TX9 6).2.1 (TX9 6).2.2.1 ∈ zm_tb := zm_tb_in 773 (by decide +kernel) (by decide +kernel)
theorem kw_774 : Cond.fieldLink RX9 29 (TX9 7).1 (TX9 7).2.1 (TX9 7).2.2.1 ∈ zm_tb := zm_tb_in 774 (by decide +kernel) (by decide +kernel)
theorem kw_775 : Cond.fieldLink RX9 32 (TX9 8).1 (TX9 8).2.1 (TX9 8).2.2.1 ∈ zm_tb := zm_tb_in 775 (by decide +kernel) (by decide +kernel)
theorem kw_776 : Cond.fieldLink RX9 35 (TX9 9).1 (TX9 9).2.1 (TX9 9).2.2.1 ∈ zm_tb := zm_tb_in 776 (by decide +kernel) (by decide +kernel)
theorem kw_778 : Cond.fieldLink RX9 38 (TX9 11).1 (TX9 11).2.1 (TX9 11).2.2.1 ∈ zm_tb := zm_tb_in 778 (by decide +kernel) (by decide +kernel)
theorem kw_779 : Cond.fieldLink RX9 42 (TX9 12).1 (TX9 12).2.1 (TX9 12).2.2.1 ∈ zm_tb := zm_tb_in 779 (by decide +kernel) (by decide +kernel)
theorem kw_780 : Cond.fieldLink RX9 45 (TX9 13).1 (TX9 13).2.1 (TX9 13).2.2.1 ∈ zm_tb := zm_tb_in 780 (by decide +kernel) (by decide +kernel)
theorem kw_781 : Cond.fieldLink RX9 48 (TX9 14).1 (TX9 14).2.1 (TX9 14).2.2.1 ∈ zm_tb := zm_tb_in 781 (by decide +kernel) (by decide +kernel)
theorem kw_782 : Cond.fieldLink RX9 51 (TX9 15).1 (TX9 15).2.1 (TX9 15).2.2.1 ∈ zm_tb := zm_tb_in 782 (by decide +kernel) (by decide +kernel)
theorem kw_783 : Cond.fieldLink RX9 54 (TX9 16).1 (TX9 16).2.1 (TX9 16).2.2.1 ∈ zm_tb := zm_tb_in 783 (by decide +kernel) (by decide +kernel)
theorem kw_784 : Cond.fieldLink RX9 57 (TX9 17).1 (TX9 17).2.1 (TX9 17).2.2.1 ∈ zm_tb := zm_tb_in 784 (by decide +kernel) (by decide +kernel)
theorem kw_785 : Cond.fieldLink RX9 60 (TX9 18).1 (TX9 18).2.1 (TX9 18).2.2.1 ∈ zm_tb := zm_tb_in 785 (by decide +kernel) (by decide +kernel)
theorem kw_786 : Cond.fieldLink RX9 63 (TX9 19).1 (TX9 19).2.1 (TX9 19).2.2.1 ∈ zm_tb := zm_tb_in 786 (by decide +kernel) (by decide +kernel)
theorem kw_788 : Cond.fieldLink RX9 66 (TX9 21).1 (TX9 21).2.1 (TX9 21).2.2.1 ∈ zm_tb := zm_tb_in 788 (by decide +kernel) (by decide +kernel)
set_option maxHeartbeats 4000000 in
set_option maxRecDepth 100000 in
theorem kX9_init (l : Launch) (D : va_G) (c1 c2 : ClassId) (h0 : Nat) (sz : Nat) : Met l yX9_init (zm_ws gX9_init) ({ frames := 1, cells := 16, slots := 11316, locals := 12 }) (va_Pc [.ref h0] (fun U => U.heap.size = sz ∧ va_P D zm_classes [(h0, .inr (9, [.int 0, .int 0, .int 0, .int 0, .null, .null, .null, .null, .null, .null, .int 0, .null, .null, .null, .null, .null, .null, .null, .null, .null, .int 0, .null]))] U.heap ∧ va_K D zm_classes (zm_tys c1 c2) U ∧ va_D (fun _ => True) [(h0, .inr (9, [.int 0, .int 0, .int 0, .int 0, .null, .null, .null, .null, .null, .null, .int 0, .null, .null, .null, .null, .null, .null, .null, .null, .null, .int 0, .null]))])) (va_Qv (fun _ : Unit => True) (fun _ t => ∃ (q1 q2 q3 q4 q5 q6 q7 q8 q9 q10 q11 q12 q13 q14 q15 q16 : Nat), va_P D zm_classes [(h0, .inr (9, [.int 0, .int 4, .int 4, .int 2, .ref q1, .ref q2, .ref q3, .ref q4, .ref q5, .ref q6, .int 0, .ref q7, .ref q8, .ref q9, .ref q10, .ref q11, .ref q12, .ref q13, .ref q14, .ref q15, .int 0, .ref q16])), (q1, .inl (c1, 36, .inl (fun _ => 0))), (q2, .inl (c1, 36, .inl (fun _ => 0))), (q3, .inl (c1, 36, .inl (fun _ => 0))), (q4, .inl (c1, 36, .inl (fun _ => 0))), (q5, .inl (c1, 4, .inl (fun _ => 0))), (q6, .inl (c1, 4, .inl (fun _ => 0))), (q7, .inl (c2, 288, .inl (fun _ => 0))), (q8, .inl (c1, 288, .inl (fun _ => 0))), (q9, .inl (c2, 36, .inl (fun _ => 0))), (q10, .inl (c1, 4, .inl (fun _ => 0))), (q11, .inl (c1, 36, .inl (fun _ => 0))), (q12, .inl (c1, 36, .inl (fun _ => 0))), (q13, .inl (c1, 36, .inl (fun _ => 0))), (q14, .inl (c2, 36, .inl (fun _ => 0))), (q15, .inl (c1, 36, .inl (fun _ => 0))), (q16, .inl (c1, 10368, .inl (fun _ => 0)))] t.heap ∧ va_K D zm_classes (zm_tys c1 c2) t ∧ va_D (va_A [(h0, .inr (9, [.int 0, .int 0, .int 0, .int 0, .null, .null, .null, .null, .null, .null, .int 0, .null, .null, .null, .null, .null, .null, .null, .null, .null, .int 0, .null]))] sz) [(h0, .inr (9, [.int 0, .int 4, .int 4, .int 2, .ref q1, .ref q2, .ref q3, .ref q4, .ref q5, .ref q6, .int 0, .ref q7, .ref q8, .ref q9, .ref q10, .ref q11, .ref q12, .ref q13, .ref q14, .ref q15, .int 0, .ref q16])), (q1, .inl (c1, 36, .inl (fun _ => 0))), (q2, .inl (c1, 36, .inl (fun _ => 0))), (q3, .inl (c1, 36, .inl (fun _ => 0))), (q4, .inl (c1, 36, .inl (fun _ => 0))), (q5, .inl (c1, 4, .inl (fun _ => 0))), (q6, .inl (c1, 4, .inl (fun _ => 0))), (q7, .inl (c2, 288, .inl (fun _ => 0))), (q8, .inl (c1, 288, .inl (fun _ => 0))), (q9, .inl (c2, 36, .inl (fun _ => 0))), (q10, .inl (c1, 4, .inl (fun _ => 0))), (q11, .inl (c1, 36, .inl (fun _ => 0))), (q12, .inl (c1, 36, .inl (fun _ => 0))), (q13, .inl (c1, 36, .inl (fun _ => 0))), (q14, .inl (c2, 36, .inl (fun _ => 0))), (q15, .inl (c1, 36, .inl (fun _ => 0))), (q16, .inl (c1, 10368, .inl (fun _ => 0)))]) (va_A [(h0, .inr (9, [.int 0, .int 0, .int 0, .int 0, .null, .null, .null, .null, .null, .null, .int 0, .null, .null, .null, .null, .null, .null, .null, .null, .null, .int 0, .null]))] sz)) 16 11316 (va_A [(h0, .inr (9, [.int 0, .int 0, .int 0, .int 0, .null, .null, .null, .null, .null, .null, .int 0, .null, .null, .null, .null, .null, .null, .null, .null, .null, .int 0, .null]))] sz) := by
  refine Met.ofW (cc := cX9_init) (maxL := 1) (ret := none) (by decide +kernel) rfl ?_
  intro p e s m args below meth c s₁ B hml hv
  obtain ⟨rfl, hsz, hP, hK, hD0⟩ := hv
  have hx := B.exec
  have hb := B.bytes
  have hr := B.returns
  have hts0 := atoms_spec (ws := zm_ws gX9_init) B.pre
  have hts : ∀ w ∈ zm_tb, w.before _ s = true := fun w hw => hts0 w (List.mem_cons_of_mem _ hw)
  have hown : s.vm.findClass RX9 = some m.cls := findClass_of_methodNamed B.named
  have hlocks := B.notSynchronized
  have hin : meth.name = "<init>" := (name_of_methodNamed B.named B.method).1
  subst hsz
  have hD := hD0.self (sz := s.heap.size)
  generalize hAe : va_A [(h0, .inr (9, [.int 0, .int 0, .int 0, .int 0, .null, .null, .null, .null, .null, .null, .int 0, .null, .null, .null, .null, .null, .null, .null, .null, .null, .int 0, .null]))] s.heap.size = A at hD ⊢
  have hA : ∀ q : Nat, s.heap.size ≤ q → A q := fun q h => by rw [← hAe]; exact Or.inr h
  have hS : va_S A s.heap s.heap [] := va_S.rf
  have hP : va_P D zm_classes [(h0, .inr (9, [.int 0, .int 0, .int 0, .int 0, .null, .null, .null, .null, .null, .null, .int 0, .null, .null, .null, .null, .null, .null, .null, .null, .null, .int 0, .null]))] s.heap := hP
  have hl := lv_entry ([.ref h0]) (n := 1) (Nat.le_of_ble_eq_true rfl)
  rw [lg_entry_eq]
  generalize (lg_sl ([.ref h0]) ++ List.replicate (1 - (lg_sl ([.ref h0])).length) Slot.unset).toArray = ls at hl ⊢
  have hl : lv_has ls 1 [(0, .ref h0)] := hl
  refine lv_aload_n hx hb dX9_init_0 rfl (lv_at hl 0 rfl) ?_
  refine W.objInit hx hb hown (hts _ kw_766) (hts _ kw_43) (hts _ kw_44) rfl (by rw [hml]; exact hl.1) rfl dX9_init_1 (Nat.le_of_ble_eq_true rfl) (Nat.le_of_ble_eq_true rfl) ?_
  refine W.eq (g2 := F0 m 4 ls []) rfl ?_
  refine lv_aload_n hx hb dX9_init_4 rfl (lv_at hl 0 rfl) ?_
  refine lv_iconst (v := 4) hx hb dX9_init_5 (by decide) ?_
  refine va_put (D := D) (ci := 9) (v := .int 4) (ty := tyX9 1) (C := RX9) (T := TX9) (N := 22) hx hb hts hX9 tyX9 tyX9_ok nmX9 hown hK hP hD hS 0 rfl rfl 1 (by decide) (hts _ kw_768) (fun _ h9 => h9) rfl (tyX9_ok 1 (by decide)) rfl rfl (Nat.le_of_ble_eq_true rfl) dX9_init_6 (fun H locs hP hD hS => ?_)
  have hP : va_P D zm_classes [(h0, .inr (9, [.int 0, .int 4, .int 0, .int 0, .null, .null, .null, .null, .null, .null, .int 0, .null, .null, .null, .null, .null, .null, .null, .null, .null, .int 0, .null]))] H := hP
  have hD : va_D A [(h0, .inr (9, [.int 0, .int 4, .int 0, .int 0, .null, .null, .null, .null, .null, .null, .int 0, .null, .null, .null, .null, .null, .null, .null, .null, .null, .int 0, .null]))] := hD
  refine lv_aload_n hx hb dX9_init_9 rfl (lv_at hl 0 rfl) ?_
  refine lv_iconst (v := 4) hx hb dX9_init_10 (by decide) ?_
  refine va_put (D := D) (ci := 9) (v := .int 4) (ty := tyX9 2) (C := RX9) (T := TX9) (N := 22) hx hb hts hX9 tyX9 tyX9_ok nmX9 hown hK hP hD hS 0 rfl rfl 2 (by decide) (hts _ kw_769) (fun _ h9 => h9) rfl (tyX9_ok 2 (by decide)) rfl rfl (Nat.le_of_ble_eq_true rfl) dX9_init_11 (fun H locs hP hD hS => ?_)
  have hP : va_P D zm_classes [(h0, .inr (9, [.int 0, .int 4, .int 4, .int 0, .null, .null, .null, .null, .null, .null, .int 0, .null, .null, .null, .null, .null, .null, .null, .null, .null, .int 0, .null]))] H := hP
  have hD : va_D A [(h0, .inr (9, [.int 0, .int 4, .int 4, .int 0, .null, .null, .null, .null, .null, .null, .int 0, .null, .null, .null, .null, .null, .null, .null, .null, .null, .int 0, .null]))] := hD
  refine lv_aload_n hx hb dX9_init_14 rfl (lv_at hl 0 rfl) ?_
  refine lv_iconst (v := 2) hx hb dX9_init_15 (by decide) ?_
  refine va_put (D := D) (ci := 9) (v := .int 2) (ty := tyX9 3) (C := RX9) (T := TX9) (N := 22) hx hb hts hX9 tyX9 tyX9_ok nmX9 hown hK hP hD hS 0 rfl rfl 3 (by decide) (hts _ kw_770) (fun _ h9 => h9) rfl (tyX9_ok 3 (by decide)) rfl rfl (Nat.le_of_ble_eq_true rfl) dX9_init_16 (fun H locs hP hD hS => ?_)
  have hP : va_P D zm_classes [(h0, .inr (9, [.int 0, .int 4, .int 4, .int 2, .null, .null, .null, .null, .null, .null, .int 0, .null, .null, .null, .null, .null, .null, .null, .null, .null, .int 0, .null]))] H := hP
  have hD : va_D A [(h0, .inr (9, [.int 0, .int 4, .int 4, .int 2, .null, .null, .null, .null, .null, .null, .int 0, .null, .null, .null, .null, .null, .null, .null, .null, .null, .int 0, .null]))] := hD
  refine lv_aload_n hx hb dX9_init_19 rfl (lv_at hl 0 rfl) ?_
  refine lv_bipush (v := 36) hx hb dX9_init_20 (by decide) ?_
  refine zn_newi hx hb (hts _ kw_97) hK hP hD hS hA 36 (by decide) (by decide) (by decide) (Nat.le_of_ble_eq_true rfl) (Nat.le_of_ble_eq_true rfl) dX9_init_22 (fun q1 H hP hD hS => ?_)
  have hP : va_P D zm_classes [(h0, .inr (9, [.int 0, .int 4, .int 4, .int 2, .null, .null, .null, .null, .null, .null, .int 0, .null, .null, .null, .null, .null, .null, .null, .null, .null, .int 0, .null])), (q1, .inl (c1, 36, .inl (fun _ => 0)))] H := hP
  have hD : va_D A [(h0, .inr (9, [.int 0, .int 4, .int 4, .int 2, .null, .null, .null, .null, .null, .null, .int 0, .null, .null, .null, .null, .null, .null, .null, .null, .null, .int 0, .null])), (q1, .inl (c1, 36, .inl (fun _ => 0)))] := hD
  refine W.widen (k := 1) (n := 36) (by omega) (by omega) ?_
  refine va_putF (D := D) (ci := 9) (v := .ref q1) (ty := tyX9 4) (C := RX9) (T := TX9) (N := 22) hx hb hts hX9 tyX9 tyX9_ok nmX9 hown hK hP hD hS 0 rfl rfl 4 (by decide) (hts _ kw_771) (fun _ h9 => h9) rfl hin rfl (tyX9_ok 4 (by decide)) rfl rfl (Nat.le_of_ble_eq_true rfl) dX9_init_24 (fun H locs hP hD hS => ?_)
  have hP : va_P D zm_classes [(h0, .inr (9, [.int 0, .int 4, .int 4, .int 2, .ref q1, .null, .null, .null, .null, .null, .int 0, .null, .null, .null, .null, .null, .null, .null, .null, .null, .int 0, .null])), (q1, .inl (c1, 36, .inl (fun _ => 0)))] H := hP
  have hD : va_D A [(h0, .inr (9, [.int 0, .int 4, .int 4, .int 2, .ref q1, .null, .null, .null, .null, .null, .int 0, .null, .null, .null, .null, .null, .null, .null, .null, .null, .int 0, .null])), (q1, .inl (c1, 36, .inl (fun _ => 0)))] := hD
  refine lv_aload_n hx hb dX9_init_27 rfl (lv_at hl 0 rfl) ?_
  refine lv_bipush (v := 36) hx hb dX9_init_28 (by decide) ?_
  refine zn_newi hx hb (hts _ kw_97) hK hP hD hS hA 36 (by decide) (by decide) (by decide) (Nat.le_of_ble_eq_true rfl) (Nat.le_of_ble_eq_true rfl) dX9_init_30 (fun q2 H hP hD hS => ?_)
  have hP : va_P D zm_classes [(h0, .inr (9, [.int 0, .int 4, .int 4, .int 2, .ref q1, .null, .null, .null, .null, .null, .int 0, .null, .null, .null, .null, .null, .null, .null, .null, .null, .int 0, .null])), (q1, .inl (c1, 36, .inl (fun _ => 0))), (q2, .inl (c1, 36, .inl (fun _ => 0)))] H := hP
  have hD : va_D A [(h0, .inr (9, [.int 0, .int 4, .int 4, .int 2, .ref q1, .null, .null, .null, .null, .null, .int 0, .null, .null, .null, .null, .null, .null, .null, .null, .null, .int 0, .null])), (q1, .inl (c1, 36, .inl (fun _ => 0))), (q2, .inl (c1, 36, .inl (fun _ => 0)))] := hD
  refine W.widen (k := 2) (n := 72) (by omega) (by omega) ?_
  refine va_putF (D := D) (ci := 9) (v := .ref q2) (ty := tyX9 5) (C := RX9) (T := TX9) (N := 22) hx hb hts hX9 tyX9 tyX9_ok nmX9 hown hK hP hD hS 0 rfl rfl 5 (by decide) (hts _ kw_772) (fun _ h9 => h9) rfl hin rfl (tyX9_ok 5 (by decide)) rfl rfl (Nat.le_of_ble_eq_true rfl) dX9_init_32 (fun H locs hP hD hS => ?_)
  have hP : va_P D zm_classes [(h0, .inr (9, [.int 0, .int 4, .int 4, .int 2, .ref q1, .ref q2, .null, .null, .null, .null, .int 0, .null, .null, .null, .null, .null, .null, .null, .null, .null, .int 0, .null])), (q1, .inl (c1, 36, .inl (fun _ => 0))), (q2, .inl (c1, 36, .inl (fun _ => 0)))] H := hP
  have hD : va_D A [(h0, .inr (9, [.int 0, .int 4, .int 4, .int 2, .ref q1, .ref q2, .null, .null, .null, .null, .int 0, .null, .null, .null, .null, .null, .null, .null, .null, .null, .int 0, .null])), (q1, .inl (c1, 36, .inl (fun _ => 0))), (q2, .inl (c1, 36, .inl (fun _ => 0)))] := hD
  refine lv_aload_n hx hb dX9_init_35 rfl (lv_at hl 0 rfl) ?_
  refine lv_bipush (v := 36) hx hb dX9_init_36 (by decide) ?_
  refine zn_newi hx hb (hts _ kw_97) hK hP hD hS hA 36 (by decide) (by decide) (by decide) (Nat.le_of_ble_eq_true rfl) (Nat.le_of_ble_eq_true rfl) dX9_init_38 (fun q3 H hP hD hS => ?_)
  have hP : va_P D zm_classes [(h0, .inr (9, [.int 0, .int 4, .int 4, .int 2, .ref q1, .ref q2, .null, .null, .null, .null, .int 0, .null, .null, .null, .null, .null, .null, .null, .null, .null, .int 0, .null])), (q1, .inl (c1, 36, .inl (fun _ => 0))), (q2, .inl (c1, 36, .inl (fun _ => 0))), (q3, .inl (c1, 36, .inl (fun _ => 0)))] H := hP
  have hD : va_D A [(h0, .inr (9, [.int 0, .int 4, .int 4, .int 2, .ref q1, .ref q2, .null, .null, .null, .null, .int 0, .null, .null, .null, .null, .null, .null, .null, .null, .null, .int 0, .null])), (q1, .inl (c1, 36, .inl (fun _ => 0))), (q2, .inl (c1, 36, .inl (fun _ => 0))), (q3, .inl (c1, 36, .inl (fun _ => 0)))] := hD
  refine W.widen (k := 3) (n := 108) (by omega) (by omega) ?_
  refine va_putF (D := D) (ci := 9) (v := .ref q3) (ty := tyX9 6) (C := RX9) (T := TX9) (N := 22) hx hb hts hX9 tyX9 tyX9_ok nmX9 hown hK hP hD hS 0 rfl rfl 6 (by decide) (hts _ kw_773) (fun _ h9 => h9) rfl hin rfl (tyX9_ok 6 (by decide)) rfl rfl (Nat.le_of_ble_eq_true rfl) dX9_init_40 (fun H locs hP hD hS => ?_)
  have hP : va_P D zm_classes [(h0, .inr (9, [.int 0, .int 4, .int 4, .int 2, .ref q1, .ref q2, .ref q3, .null, .null, .null, .int 0, .null, .null, .null, .null, .null, .null, .null, .null, .null, .int 0, .null])), (q1, .inl (c1, 36, .inl (fun _ => 0))), (q2, .inl (c1, 36, .inl (fun _ => 0))), (q3, .inl (c1, 36, .inl (fun _ => 0)))] H := hP
  have hD : va_D A [(h0, .inr (9, [.int 0, .int 4, .int 4, .int 2, .ref q1, .ref q2, .ref q3, .null, .null, .null, .int 0, .null, .null, .null, .null, .null, .null, .null, .null, .null, .int 0, .null])), (q1, .inl (c1, 36, .inl (fun _ => 0))), (q2, .inl (c1, 36, .inl (fun _ => 0))), (q3, .inl (c1, 36, .inl (fun _ => 0)))] := hD
  refine lv_aload_n hx hb dX9_init_43 rfl (lv_at hl 0 rfl) ?_
  refine lv_bipush (v := 36) hx hb dX9_init_44 (by decide) ?_
  refine zn_newi hx hb (hts _ kw_97) hK hP hD hS hA 36 (by decide) (by decide) (by decide) (Nat.le_of_ble_eq_true rfl) (Nat.le_of_ble_eq_true rfl) dX9_init_46 (fun q4 H hP hD hS => ?_)
  have hP : va_P D zm_classes [(h0, .inr (9, [.int 0, .int 4, .int 4, .int 2, .ref q1, .ref q2, .ref q3, .null, .null, .null, .int 0, .null, .null, .null, .null, .null, .null, .null, .null, .null, .int 0, .null])), (q1, .inl (c1, 36, .inl (fun _ => 0))), (q2, .inl (c1, 36, .inl (fun _ => 0))), (q3, .inl (c1, 36, .inl (fun _ => 0))), (q4, .inl (c1, 36, .inl (fun _ => 0)))] H := hP
  have hD : va_D A [(h0, .inr (9, [.int 0, .int 4, .int 4, .int 2, .ref q1, .ref q2, .ref q3, .null, .null, .null, .int 0, .null, .null, .null, .null, .null, .null, .null, .null, .null, .int 0, .null])), (q1, .inl (c1, 36, .inl (fun _ => 0))), (q2, .inl (c1, 36, .inl (fun _ => 0))), (q3, .inl (c1, 36, .inl (fun _ => 0))), (q4, .inl (c1, 36, .inl (fun _ => 0)))] := hD
  refine W.widen (k := 4) (n := 144) (by omega) (by omega) ?_
  refine va_putF (D := D) (ci := 9) (v := .ref q4) (ty := tyX9 7) (C := RX9) (T := TX9) (N := 22) hx hb hts hX9 tyX9 tyX9_ok nmX9 hown hK hP hD hS 0 rfl rfl 7 (by decide) (hts _ kw_774) (fun _ h9 => h9) rfl hin rfl (tyX9_ok 7 (by decide)) rfl rfl (Nat.le_of_ble_eq_true rfl) dX9_init_48 (fun H locs hP hD hS => ?_)
  have hP : va_P D zm_classes [(h0, .inr (9, [.int 0, .int 4, .int 4, .int 2, .ref q1, .ref q2, .ref q3, .ref q4, .null, .null, .int 0, .null, .null, .null, .null, .null, .null, .null, .null, .null, .int 0, .null])), (q1, .inl (c1, 36, .inl (fun _ => 0))), (q2, .inl (c1, 36, .inl (fun _ => 0))), (q3, .inl (c1, 36, .inl (fun _ => 0))), (q4, .inl (c1, 36, .inl (fun _ => 0)))] H := hP
  have hD : va_D A [(h0, .inr (9, [.int 0, .int 4, .int 4, .int 2, .ref q1, .ref q2, .ref q3, .ref q4, .null, .null, .int 0, .null, .null, .null, .null, .null, .null, .null, .null, .null, .int 0, .null])), (q1, .inl (c1, 36, .inl (fun _ => 0))), (q2, .inl (c1, 36, .inl (fun _ => 0))), (q3, .inl (c1, 36, .inl (fun _ => 0))), (q4, .inl (c1, 36, .inl (fun _ => 0)))] := hD
  refine lv_aload_n hx hb dX9_init_51 rfl (lv_at hl 0 rfl) ?_
  refine lv_iconst (v := 4) hx hb dX9_init_52 (by decide) ?_
  refine zn_newi hx hb (hts _ kw_97) hK hP hD hS hA 4 (by decide) (by decide) (by decide) (Nat.le_of_ble_eq_true rfl) (Nat.le_of_ble_eq_true rfl) dX9_init_53 (fun q5 H hP hD hS => ?_)
  have hP : va_P D zm_classes [(h0, .inr (9, [.int 0, .int 4, .int 4, .int 2, .ref q1, .ref q2, .ref q3, .ref q4, .null, .null, .int 0, .null, .null, .null, .null, .null, .null, .null, .null, .null, .int 0, .null])), (q1, .inl (c1, 36, .inl (fun _ => 0))), (q2, .inl (c1, 36, .inl (fun _ => 0))), (q3, .inl (c1, 36, .inl (fun _ => 0))), (q4, .inl (c1, 36, .inl (fun _ => 0))), (q5, .inl (c1, 4, .inl (fun _ => 0)))] H := hP
  have hD : va_D A [(h0, .inr (9, [.int 0, .int 4, .int 4, .int 2, .ref q1, .ref q2, .ref q3, .ref q4, .null, .null, .int 0, .null, .null, .null, .null, .null, .null, .null, .null, .null, .int 0, .null])), (q1, .inl (c1, 36, .inl (fun _ => 0))), (q2, .inl (c1, 36, .inl (fun _ => 0))), (q3, .inl (c1, 36, .inl (fun _ => 0))), (q4, .inl (c1, 36, .inl (fun _ => 0))), (q5, .inl (c1, 4, .inl (fun _ => 0)))] := hD
  refine W.widen (k := 5) (n := 148) (by omega) (by omega) ?_
  refine va_putF (D := D) (ci := 9) (v := .ref q5) (ty := tyX9 8) (C := RX9) (T := TX9) (N := 22) hx hb hts hX9 tyX9 tyX9_ok nmX9 hown hK hP hD hS 0 rfl rfl 8 (by decide) (hts _ kw_775) (fun _ h9 => h9) rfl hin rfl (tyX9_ok 8 (by decide)) rfl rfl (Nat.le_of_ble_eq_true rfl) dX9_init_55 (fun H locs hP hD hS => ?_)
  have hP : va_P D zm_classes [(h0, .inr (9, [.int 0, .int 4, .int 4, .int 2, .ref q1, .ref q2, .ref q3, .ref q4, .ref q5, .null, .int 0, .null, .null, .null, .null, .null, .null, .null, .null, .null, .int 0, .null])), (q1, .inl (c1, 36, .inl (fun _ => 0))), (q2, .inl (c1, 36, .inl (fun _ => 0))), (q3, .inl (c1, 36, .inl (fun _ => 0))), (q4, .inl (c1, 36, .inl (fun _ => 0))), (q5, .inl (c1, 4, .inl (fun _ => 0)))] H := hP
  have hD : va_D A [(h0, .inr (9, [.int 0, .int 4, .int 4, .int 2, .ref q1, .ref q2, .ref q3, .ref q4, .ref q5, .null, .int 0, .null, .null, .null, .null, .null, .null, .null, .null, .null, .int 0, .null])), (q1, .inl (c1, 36, .inl (fun _ => 0))), (q2, .inl (c1, 36, .inl (fun _ => 0))), (q3, .inl (c1, 36, .inl (fun _ => 0))), (q4, .inl (c1, 36, .inl (fun _ => 0))), (q5, .inl (c1, 4, .inl (fun _ => 0)))] := hD
  refine lv_aload_n hx hb dX9_init_58 rfl (lv_at hl 0 rfl) ?_
  refine lv_iconst (v := 4) hx hb dX9_init_59 (by decide) ?_
  refine zn_newi hx hb (hts _ kw_97) hK hP hD hS hA 4 (by decide) (by decide) (by decide) (Nat.le_of_ble_eq_true rfl) (Nat.le_of_ble_eq_true rfl) dX9_init_60 (fun q6 H hP hD hS => ?_)
  have hP : va_P D zm_classes [(h0, .inr (9, [.int 0, .int 4, .int 4, .int 2, .ref q1, .ref q2, .ref q3, .ref q4, .ref q5, .null, .int 0, .null, .null, .null, .null, .null, .null, .null, .null, .null, .int 0, .null])), (q1, .inl (c1, 36, .inl (fun _ => 0))), (q2, .inl (c1, 36, .inl (fun _ => 0))), (q3, .inl (c1, 36, .inl (fun _ => 0))), (q4, .inl (c1, 36, .inl (fun _ => 0))), (q5, .inl (c1, 4, .inl (fun _ => 0))), (q6, .inl (c1, 4, .inl (fun _ => 0)))] H := hP
  have hD : va_D A [(h0, .inr (9, [.int 0, .int 4, .int 4, .int 2, .ref q1, .ref q2, .ref q3, .ref q4, .ref q5, .null, .int 0, .null, .null, .null, .null, .null, .null, .null, .null, .null, .int 0, .null])), (q1, .inl (c1, 36, .inl (fun _ => 0))), (q2, .inl (c1, 36, .inl (fun _ => 0))), (q3, .inl (c1, 36, .inl (fun _ => 0))), (q4, .inl (c1, 36, .inl (fun _ => 0))), (q5, .inl (c1, 4, .inl (fun _ => 0))), (q6, .inl (c1, 4, .inl (fun _ => 0)))] := hD
  refine W.widen (k := 6) (n := 152) (by omega) (by omega) ?_
  refine va_putF (D := D) (ci := 9) (v := .ref q6) (ty := tyX9 9) (C := RX9) (T := TX9) (N := 22) hx hb hts hX9 tyX9 tyX9_ok nmX9 hown hK hP hD hS 0 rfl rfl 9 (by decide) (hts _ kw_776) (fun _ h9 => h9) rfl hin rfl (tyX9_ok 9 (by decide)) rfl rfl (Nat.le_of_ble_eq_true rfl) dX9_init_62 (fun H locs hP hD hS => ?_)
  have hP : va_P D zm_classes [(h0, .inr (9, [.int 0, .int 4, .int 4, .int 2, .ref q1, .ref q2, .ref q3, .ref q4, .ref q5, .ref q6, .int 0, .null, .null, .null, .null, .null, .null, .null, .null, .null, .int 0, .null])), (q1, .inl (c1, 36, .inl (fun _ => 0))), (q2, .inl (c1, 36, .inl (fun _ => 0))), (q3, .inl (c1, 36, .inl (fun _ => 0))), (q4, .inl (c1, 36, .inl (fun _ => 0))), (q5, .inl (c1, 4, .inl (fun _ => 0))), (q6, .inl (c1, 4, .inl (fun _ => 0)))] H := hP
  have hD : va_D A [(h0, .inr (9, [.int 0, .int 4, .int 4, .int 2, .ref q1, .ref q2, .ref q3, .ref q4, .ref q5, .ref q6, .int 0, .null, .null, .null, .null, .null, .null, .null, .null, .null, .int 0, .null])), (q1, .inl (c1, 36, .inl (fun _ => 0))), (q2, .inl (c1, 36, .inl (fun _ => 0))), (q3, .inl (c1, 36, .inl (fun _ => 0))), (q4, .inl (c1, 36, .inl (fun _ => 0))), (q5, .inl (c1, 4, .inl (fun _ => 0))), (q6, .inl (c1, 4, .inl (fun _ => 0)))] := hD
  refine lv_aload_n hx hb dX9_init_65 rfl (lv_at hl 0 rfl) ?_
  refine lv_sipush (v := 288) hx hb dX9_init_66 (by decide) ?_
  refine zn_newz hx hb (hts _ kw_157) hK hP hD hS hA 288 (by decide) (by decide) (by decide) (Nat.le_of_ble_eq_true rfl) (Nat.le_of_ble_eq_true rfl) dX9_init_69 (fun q7 H hP hD hS => ?_)
  have hP : va_P D zm_classes [(h0, .inr (9, [.int 0, .int 4, .int 4, .int 2, .ref q1, .ref q2, .ref q3, .ref q4, .ref q5, .ref q6, .int 0, .null, .null, .null, .null, .null, .null, .null, .null, .null, .int 0, .null])), (q1, .inl (c1, 36, .inl (fun _ => 0))), (q2, .inl (c1, 36, .inl (fun _ => 0))), (q3, .inl (c1, 36, .inl (fun _ => 0))), (q4, .inl (c1, 36, .inl (fun _ => 0))), (q5, .inl (c1, 4, .inl (fun _ => 0))), (q6, .inl (c1, 4, .inl (fun _ => 0))), (q7, .inl (c2, 288, .inl (fun _ => 0)))] H := hP
  have hD : va_D A [(h0, .inr (9, [.int 0, .int 4, .int 4, .int 2, .ref q1, .ref q2, .ref q3, .ref q4, .ref q5, .ref q6, .int 0, .null, .null, .null, .null, .null, .null, .null, .null, .null, .int 0, .null])), (q1, .inl (c1, 36, .inl (fun _ => 0))), (q2, .inl (c1, 36, .inl (fun _ => 0))), (q3, .inl (c1, 36, .inl (fun _ => 0))), (q4, .inl (c1, 36, .inl (fun _ => 0))), (q5, .inl (c1, 4, .inl (fun _ => 0))), (q6, .inl (c1, 4, .inl (fun _ => 0))), (q7, .inl (c2, 288, .inl (fun _ => 0)))] := hD
  refine W.widen (k := 7) (n := 440) (by omega) (by omega) ?_
  refine va_putF (D := D) (ci := 9) (v := .ref q7) (ty := tyX9 11) (C := RX9) (T := TX9) (N := 22) hx hb hts hX9 tyX9 tyX9_ok nmX9 hown hK hP hD hS 0 rfl rfl 11 (by decide) (hts _ kw_778) (fun _ h9 => h9) rfl hin rfl (tyX9_ok 11 (by decide)) rfl rfl (Nat.le_of_ble_eq_true rfl) dX9_init_71 (fun H locs hP hD hS => ?_)
  have hP : va_P D zm_classes [(h0, .inr (9, [.int 0, .int 4, .int 4, .int 2, .ref q1, .ref q2, .ref q3, .ref q4, .ref q5, .ref q6, .int 0, .ref q7, .null, .null, .null, .null, .null, .null, .null, .null, .int 0, .null])), (q1, .inl (c1, 36, .inl (fun _ => 0))), (q2, .inl (c1, 36, .inl (fun _ => 0))), (q3, .inl (c1, 36, .inl (fun _ => 0))), (q4, .inl (c1, 36, .inl (fun _ => 0))), (q5, .inl (c1, 4, .inl (fun _ => 0))), (q6, .inl (c1, 4, .inl (fun _ => 0))), (q7, .inl (c2, 288, .inl (fun _ => 0)))] H := hP
  have hD : va_D A [(h0, .inr (9, [.int 0, .int 4, .int 4, .int 2, .ref q1, .ref q2, .ref q3, .ref q4, .ref q5, .ref q6, .int 0, .ref q7, .null, .null, .null, .null, .null, .null, .null, .null, .int 0, .null])), (q1, .inl (c1, 36, .inl (fun _ => 0))), (q2, .inl (c1, 36, .inl (fun _ => 0))), (q3, .inl (c1, 36, .inl (fun _ => 0))), (q4, .inl (c1, 36, .inl (fun _ => 0))), (q5, .inl (c1, 4, .inl (fun _ => 0))), (q6, .inl (c1, 4, .inl (fun _ => 0))), (q7, .inl (c2, 288, .inl (fun _ => 0)))] := hD
  refine lv_aload_n hx hb dX9_init_74 rfl (lv_at hl 0 rfl) ?_
  refine lv_sipush (v := 288) hx hb dX9_init_75 (by decide) ?_
  refine zn_newi hx hb (hts _ kw_97) hK hP hD hS hA 288 (by decide) (by decide) (by decide) (Nat.le_of_ble_eq_true rfl) (Nat.le_of_ble_eq_true rfl) dX9_init_78 (fun q8 H hP hD hS => ?_)
  have hP : va_P D zm_classes [(h0, .inr (9, [.int 0, .int 4, .int 4, .int 2, .ref q1, .ref q2, .ref q3, .ref q4, .ref q5, .ref q6, .int 0, .ref q7, .null, .null, .null, .null, .null, .null, .null, .null, .int 0, .null])), (q1, .inl (c1, 36, .inl (fun _ => 0))), (q2, .inl (c1, 36, .inl (fun _ => 0))), (q3, .inl (c1, 36, .inl (fun _ => 0))), (q4, .inl (c1, 36, .inl (fun _ => 0))), (q5, .inl (c1, 4, .inl (fun _ => 0))), (q6, .inl (c1, 4, .inl (fun _ => 0))), (q7, .inl (c2, 288, .inl (fun _ => 0))), (q8, .inl (c1, 288, .inl (fun _ => 0)))] H := hP
  have hD : va_D A [(h0, .inr (9, [.int 0, .int 4, .int 4, .int 2, .ref q1, .ref q2, .ref q3, .ref q4, .ref q5, .ref q6, .int 0, .ref q7, .null, .null, .null, .null, .null, .null, .null, .null, .int 0, .null])), (q1, .inl (c1, 36, .inl (fun _ => 0))), (q2, .inl (c1, 36, .inl (fun _ => 0))), (q3, .inl (c1, 36, .inl (fun _ => 0))), (q4, .inl (c1, 36, .inl (fun _ => 0))), (q5, .inl (c1, 4, .inl (fun _ => 0))), (q6, .inl (c1, 4, .inl (fun _ => 0))), (q7, .inl (c2, 288, .inl (fun _ => 0))), (q8, .inl (c1, 288, .inl (fun _ => 0)))] := hD
  refine W.widen (k := 8) (n := 728) (by omega) (by omega) ?_
  refine va_putF (D := D) (ci := 9) (v := .ref q8) (ty := tyX9 12) (C := RX9) (T := TX9) (N := 22) hx hb hts hX9 tyX9 tyX9_ok nmX9 hown hK hP hD hS 0 rfl rfl 12 (by decide) (hts _ kw_779) (fun _ h9 => h9) rfl hin rfl (tyX9_ok 12 (by decide)) rfl rfl (Nat.le_of_ble_eq_true rfl) dX9_init_80 (fun H locs hP hD hS => ?_)
  have hP : va_P D zm_classes [(h0, .inr (9, [.int 0, .int 4, .int 4, .int 2, .ref q1, .ref q2, .ref q3, .ref q4, .ref q5, .ref q6, .int 0, .ref q7, .ref q8, .null, .null, .null, .null, .null, .null, .null, .int 0, .null])), (q1, .inl (c1, 36, .inl (fun _ => 0))), (q2, .inl (c1, 36, .inl (fun _ => 0))), (q3, .inl (c1, 36, .inl (fun _ => 0))), (q4, .inl (c1, 36, .inl (fun _ => 0))), (q5, .inl (c1, 4, .inl (fun _ => 0))), (q6, .inl (c1, 4, .inl (fun _ => 0))), (q7, .inl (c2, 288, .inl (fun _ => 0))), (q8, .inl (c1, 288, .inl (fun _ => 0)))] H := hP
  have hD : va_D A [(h0, .inr (9, [.int 0, .int 4, .int 4, .int 2, .ref q1, .ref q2, .ref q3, .ref q4, .ref q5, .ref q6, .int 0, .ref q7, .ref q8, .null, .null, .null, .null, .null, .null, .null, .int 0, .null])), (q1, .inl (c1, 36, .inl (fun _ => 0))), (q2, .inl (c1, 36, .inl (fun _ => 0))), (q3, .inl (c1, 36, .inl (fun _ => 0))), (q4, .inl (c1, 36, .inl (fun _ => 0))), (q5, .inl (c1, 4, .inl (fun _ => 0))), (q6, .inl (c1, 4, .inl (fun _ => 0))), (q7, .inl (c2, 288, .inl (fun _ => 0))), (q8, .inl (c1, 288, .inl (fun _ => 0)))] := hD
  refine lv_aload_n hx hb dX9_init_83 rfl (lv_at hl 0 rfl) ?_
  refine lv_bipush (v := 36) hx hb dX9_init_84 (by decide) ?_
  refine zn_newz hx hb (hts _ kw_157) hK hP hD hS hA 36 (by decide) (by decide) (by decide) (Nat.le_of_ble_eq_true rfl) (Nat.le_of_ble_eq_true rfl) dX9_init_86 (fun q9 H hP hD hS => ?_)
  have hP : va_P D zm_classes [(h0, .inr (9, [.int 0, .int 4, .int 4, .int 2, .ref q1, .ref q2, .ref q3, .ref q4, .ref q5, .ref q6, .int 0, .ref q7, .ref q8, .null, .null, .null, .null, .null, .null, .null, .int 0, .null])), (q1, .inl (c1, 36, .inl (fun _ => 0))), (q2, .inl (c1, 36, .inl (fun _ => 0))), (q3, .inl (c1, 36, .inl (fun _ => 0))), (q4, .inl (c1, 36, .inl (fun _ => 0))), (q5, .inl (c1, 4, .inl (fun _ => 0))), (q6, .inl (c1, 4, .inl (fun _ => 0))), (q7, .inl (c2, 288, .inl (fun _ => 0))), (q8, .inl (c1, 288, .inl (fun _ => 0))), (q9, .inl (c2, 36, .inl (fun _ => 0)))] H := hP
  have hD : va_D A [(h0, .inr (9, [.int 0, .int 4, .int 4, .int 2, .ref q1, .ref q2, .ref q3, .ref q4, .ref q5, .ref q6, .int 0, .ref q7, .ref q8, .null, .null, .null, .null, .null, .null, .null, .int 0, .null])), (q1, .inl (c1, 36, .inl (fun _ => 0))), (q2, .inl (c1, 36, .inl (fun _ => 0))), (q3, .inl (c1, 36, .inl (fun _ => 0))), (q4, .inl (c1, 36, .inl (fun _ => 0))), (q5, .inl (c1, 4, .inl (fun _ => 0))), (q6, .inl (c1, 4, .inl (fun _ => 0))), (q7, .inl (c2, 288, .inl (fun _ => 0))), (q8, .inl (c1, 288, .inl (fun _ => 0))), (q9, .inl (c2, 36, .inl (fun _ => 0)))] := hD
  refine W.widen (k := 9) (n := 764) (by omega) (by omega) ?_
  refine va_putF (D := D) (ci := 9) (v := .ref q9) (ty := tyX9 13) (C := RX9) (T := TX9) (N := 22) hx hb hts hX9 tyX9 tyX9_ok nmX9 hown hK hP hD hS 0 rfl rfl 13 (by decide) (hts _ kw_780) (fun _ h9 => h9) rfl hin rfl (tyX9_ok 13 (by decide)) rfl rfl (Nat.le_of_ble_eq_true rfl) dX9_init_88 (fun H locs hP hD hS => ?_)
  have hP : va_P D zm_classes [(h0, .inr (9, [.int 0, .int 4, .int 4, .int 2, .ref q1, .ref q2, .ref q3, .ref q4, .ref q5, .ref q6, .int 0, .ref q7, .ref q8, .ref q9, .null, .null, .null, .null, .null, .null, .int 0, .null])), (q1, .inl (c1, 36, .inl (fun _ => 0))), (q2, .inl (c1, 36, .inl (fun _ => 0))), (q3, .inl (c1, 36, .inl (fun _ => 0))), (q4, .inl (c1, 36, .inl (fun _ => 0))), (q5, .inl (c1, 4, .inl (fun _ => 0))), (q6, .inl (c1, 4, .inl (fun _ => 0))), (q7, .inl (c2, 288, .inl (fun _ => 0))), (q8, .inl (c1, 288, .inl (fun _ => 0))), (q9, .inl (c2, 36, .inl (fun _ => 0)))] H := hP
  have hD : va_D A [(h0, .inr (9, [.int 0, .int 4, .int 4, .int 2, .ref q1, .ref q2, .ref q3, .ref q4, .ref q5, .ref q6, .int 0, .ref q7, .ref q8, .ref q9, .null, .null, .null, .null, .null, .null, .int 0, .null])), (q1, .inl (c1, 36, .inl (fun _ => 0))), (q2, .inl (c1, 36, .inl (fun _ => 0))), (q3, .inl (c1, 36, .inl (fun _ => 0))), (q4, .inl (c1, 36, .inl (fun _ => 0))), (q5, .inl (c1, 4, .inl (fun _ => 0))), (q6, .inl (c1, 4, .inl (fun _ => 0))), (q7, .inl (c2, 288, .inl (fun _ => 0))), (q8, .inl (c1, 288, .inl (fun _ => 0))), (q9, .inl (c2, 36, .inl (fun _ => 0)))] := hD
  refine lv_aload_n hx hb dX9_init_91 rfl (lv_at hl 0 rfl) ?_
  refine lv_iconst (v := 4) hx hb dX9_init_92 (by decide) ?_
  refine zn_newi hx hb (hts _ kw_97) hK hP hD hS hA 4 (by decide) (by decide) (by decide) (Nat.le_of_ble_eq_true rfl) (Nat.le_of_ble_eq_true rfl) dX9_init_93 (fun q10 H hP hD hS => ?_)
  have hP : va_P D zm_classes [(h0, .inr (9, [.int 0, .int 4, .int 4, .int 2, .ref q1, .ref q2, .ref q3, .ref q4, .ref q5, .ref q6, .int 0, .ref q7, .ref q8, .ref q9, .null, .null, .null, .null, .null, .null, .int 0, .null])), (q1, .inl (c1, 36, .inl (fun _ => 0))), (q2, .inl (c1, 36, .inl (fun _ => 0))), (q3, .inl (c1, 36, .inl (fun _ => 0))), (q4, .inl (c1, 36, .inl (fun _ => 0))), (q5, .inl (c1, 4, .inl (fun _ => 0))), (q6, .inl (c1, 4, .inl (fun _ => 0))), (q7, .inl (c2, 288, .inl (fun _ => 0))), (q8, .inl (c1, 288, .inl (fun _ => 0))), (q9, .inl (c2, 36, .inl (fun _ => 0))), (q10, .inl (c1, 4, .inl (fun _ => 0)))] H := hP
  have hD : va_D A [(h0, .inr (9, [.int 0, .int 4, .int 4, .int 2, .ref q1, .ref q2, .ref q3, .ref q4, .ref q5, .ref q6, .int 0, .ref q7, .ref q8, .ref q9, .null, .null, .null, .null, .null, .null, .int 0, .null])), (q1, .inl (c1, 36, .inl (fun _ => 0))), (q2, .inl (c1, 36, .inl (fun _ => 0))), (q3, .inl (c1, 36, .inl (fun _ => 0))), (q4, .inl (c1, 36, .inl (fun _ => 0))), (q5, .inl (c1, 4, .inl (fun _ => 0))), (q6, .inl (c1, 4, .inl (fun _ => 0))), (q7, .inl (c2, 288, .inl (fun _ => 0))), (q8, .inl (c1, 288, .inl (fun _ => 0))), (q9, .inl (c2, 36, .inl (fun _ => 0))), (q10, .inl (c1, 4, .inl (fun _ => 0)))] := hD
  refine W.widen (k := 10) (n := 768) (by omega) (by omega) ?_
  refine va_putF (D := D) (ci := 9) (v := .ref q10) (ty := tyX9 14) (C := RX9) (T := TX9) (N := 22) hx hb hts hX9 tyX9 tyX9_ok nmX9 hown hK hP hD hS 0 rfl rfl 14 (by decide) (hts _ kw_781) (fun _ h9 => h9) rfl hin rfl (tyX9_ok 14 (by decide)) rfl rfl (Nat.le_of_ble_eq_true rfl) dX9_init_95 (fun H locs hP hD hS => ?_)
  have hP : va_P D zm_classes [(h0, .inr (9, [.int 0, .int 4, .int 4, .int 2, .ref q1, .ref q2, .ref q3, .ref q4, .ref q5, .ref q6, .int 0, .ref q7, .ref q8, .ref q9, .ref q10, .null, .null, .null, .null, .null, .int 0, .null])), (q1, .inl (c1, 36, .inl (fun _ => 0))), (q2, .inl (c1, 36, .inl (fun _ => 0))), (q3, .inl (c1, 36, .inl (fun _ => 0))), (q4, .inl (c1, 36, .inl (fun _ => 0))), (q5, .inl (c1, 4, .inl (fun _ => 0))), (q6, .inl (c1, 4, .inl (fun _ => 0))), (q7, .inl (c2, 288, .inl (fun _ => 0))), (q8, .inl (c1, 288, .inl (fun _ => 0))), (q9, .inl (c2, 36, .inl (fun _ => 0))), (q10, .inl (c1, 4, .inl (fun _ => 0)))] H := hP
  have hD : va_D A [(h0, .inr (9, [.int 0, .int 4, .int 4, .int 2, .ref q1, .ref q2, .ref q3, .ref q4, .ref q5, .ref q6, .int 0, .ref q7, .ref q8, .ref q9, .ref q10, .null, .null, .null, .null, .null, .int 0, .null])), (q1, .inl (c1, 36, .inl (fun _ => 0))), (q2, .inl (c1, 36, .inl (fun _ => 0))), (q3, .inl (c1, 36, .inl (fun _ => 0))), (q4, .inl (c1, 36, .inl (fun _ => 0))), (q5, .inl (c1, 4, .inl (fun _ => 0))), (q6, .inl (c1, 4, .inl (fun _ => 0))), (q7, .inl (c2, 288, .inl (fun _ => 0))), (q8, .inl (c1, 288, .inl (fun _ => 0))), (q9, .inl (c2, 36, .inl (fun _ => 0))), (q10, .inl (c1, 4, .inl (fun _ => 0)))] := hD
  refine lv_aload_n hx hb dX9_init_98 rfl (lv_at hl 0 rfl) ?_
  refine lv_bipush (v := 36) hx hb dX9_init_99 (by decide) ?_
  refine zn_newi hx hb (hts _ kw_97) hK hP hD hS hA 36 (by decide) (by decide) (by decide) (Nat.le_of_ble_eq_true rfl) (Nat.le_of_ble_eq_true rfl) dX9_init_101 (fun q11 H hP hD hS => ?_)
  have hP : va_P D zm_classes [(h0, .inr (9, [.int 0, .int 4, .int 4, .int 2, .ref q1, .ref q2, .ref q3, .ref q4, .ref q5, .ref q6, .int 0, .ref q7, .ref q8, .ref q9, .ref q10, .null, .null, .null, .null, .null, .int 0, .null])), (q1, .inl (c1, 36, .inl (fun _ => 0))), (q2, .inl (c1, 36, .inl (fun _ => 0))), (q3, .inl (c1, 36, .inl (fun _ => 0))), (q4, .inl (c1, 36, .inl (fun _ => 0))), (q5, .inl (c1, 4, .inl (fun _ => 0))), (q6, .inl (c1, 4, .inl (fun _ => 0))), (q7, .inl (c2, 288, .inl (fun _ => 0))), (q8, .inl (c1, 288, .inl (fun _ => 0))), (q9, .inl (c2, 36, .inl (fun _ => 0))), (q10, .inl (c1, 4, .inl (fun _ => 0))), (q11, .inl (c1, 36, .inl (fun _ => 0)))] H := hP
  have hD : va_D A [(h0, .inr (9, [.int 0, .int 4, .int 4, .int 2, .ref q1, .ref q2, .ref q3, .ref q4, .ref q5, .ref q6, .int 0, .ref q7, .ref q8, .ref q9, .ref q10, .null, .null, .null, .null, .null, .int 0, .null])), (q1, .inl (c1, 36, .inl (fun _ => 0))), (q2, .inl (c1, 36, .inl (fun _ => 0))), (q3, .inl (c1, 36, .inl (fun _ => 0))), (q4, .inl (c1, 36, .inl (fun _ => 0))), (q5, .inl (c1, 4, .inl (fun _ => 0))), (q6, .inl (c1, 4, .inl (fun _ => 0))), (q7, .inl (c2, 288, .inl (fun _ => 0))), (q8, .inl (c1, 288, .inl (fun _ => 0))), (q9, .inl (c2, 36, .inl (fun _ => 0))), (q10, .inl (c1, 4, .inl (fun _ => 0))), (q11, .inl (c1, 36, .inl (fun _ => 0)))] := hD
  refine W.widen (k := 11) (n := 804) (by omega) (by omega) ?_
  refine va_putF (D := D) (ci := 9) (v := .ref q11) (ty := tyX9 15) (C := RX9) (T := TX9) (N := 22) hx hb hts hX9 tyX9 tyX9_ok nmX9 hown hK hP hD hS 0 rfl rfl 15 (by decide) (hts _ kw_782) (fun _ h9 => h9) rfl hin rfl (tyX9_ok 15 (by decide)) rfl rfl (Nat.le_of_ble_eq_true rfl) dX9_init_103 (fun H locs hP hD hS => ?_)
  have hP : va_P D zm_classes [(h0, .inr (9, [.int 0, .int 4, .int 4, .int 2, .ref q1, .ref q2, .ref q3, .ref q4, .ref q5, .ref q6, .int 0, .ref q7, .ref q8, .ref q9, .ref q10, .ref q11, .null, .null, .null, .null, .int 0, .null])), (q1, .inl (c1, 36, .inl (fun _ => 0))), (q2, .inl (c1, 36, .inl (fun _ => 0))), (q3, .inl (c1, 36, .inl (fun _ => 0))), (q4, .inl (c1, 36, .inl (fun _ => 0))), (q5, .inl (c1, 4, .inl (fun _ => 0))), (q6, .inl (c1, 4, .inl (fun _ => 0))), (q7, .inl (c2, 288, .inl (fun _ => 0))), (q8, .inl (c1, 288, .inl (fun _ => 0))), (q9, .inl (c2, 36, .inl (fun _ => 0))), (q10, .inl (c1, 4, .inl (fun _ => 0))), (q11, .inl (c1, 36, .inl (fun _ => 0)))] H := hP
  have hD : va_D A [(h0, .inr (9, [.int 0, .int 4, .int 4, .int 2, .ref q1, .ref q2, .ref q3, .ref q4, .ref q5, .ref q6, .int 0, .ref q7, .ref q8, .ref q9, .ref q10, .ref q11, .null, .null, .null, .null, .int 0, .null])), (q1, .inl (c1, 36, .inl (fun _ => 0))), (q2, .inl (c1, 36, .inl (fun _ => 0))), (q3, .inl (c1, 36, .inl (fun _ => 0))), (q4, .inl (c1, 36, .inl (fun _ => 0))), (q5, .inl (c1, 4, .inl (fun _ => 0))), (q6, .inl (c1, 4, .inl (fun _ => 0))), (q7, .inl (c2, 288, .inl (fun _ => 0))), (q8, .inl (c1, 288, .inl (fun _ => 0))), (q9, .inl (c2, 36, .inl (fun _ => 0))), (q10, .inl (c1, 4, .inl (fun _ => 0))), (q11, .inl (c1, 36, .inl (fun _ => 0)))] := hD
  refine lv_aload_n hx hb dX9_init_106 rfl (lv_at hl 0 rfl) ?_
  refine lv_bipush (v := 36) hx hb dX9_init_107 (by decide) ?_
  refine zn_newi hx hb (hts _ kw_97) hK hP hD hS hA 36 (by decide) (by decide) (by decide) (Nat.le_of_ble_eq_true rfl) (Nat.le_of_ble_eq_true rfl) dX9_init_109 (fun q12 H hP hD hS => ?_)
  have hP : va_P D zm_classes [(h0, .inr (9, [.int 0, .int 4, .int 4, .int 2, .ref q1, .ref q2, .ref q3, .ref q4, .ref q5, .ref q6, .int 0, .ref q7, .ref q8, .ref q9, .ref q10, .ref q11, .null, .null, .null, .null, .int 0, .null])), (q1, .inl (c1, 36, .inl (fun _ => 0))), (q2, .inl (c1, 36, .inl (fun _ => 0))), (q3, .inl (c1, 36, .inl (fun _ => 0))), (q4, .inl (c1, 36, .inl (fun _ => 0))), (q5, .inl (c1, 4, .inl (fun _ => 0))), (q6, .inl (c1, 4, .inl (fun _ => 0))), (q7, .inl (c2, 288, .inl (fun _ => 0))), (q8, .inl (c1, 288, .inl (fun _ => 0))), (q9, .inl (c2, 36, .inl (fun _ => 0))), (q10, .inl (c1, 4, .inl (fun _ => 0))), (q11, .inl (c1, 36, .inl (fun _ => 0))), (q12, .inl (c1, 36, .inl (fun _ => 0)))] H := hP
  have hD : va_D A [(h0, .inr (9, [.int 0, .int 4, .int 4, .int 2, .ref q1, .ref q2, .ref q3, .ref q4, .ref q5, .ref q6, .int 0, .ref q7, .ref q8, .ref q9, .ref q10, .ref q11, .null, .null, .null, .null, .int 0, .null])), (q1, .inl (c1, 36, .inl (fun _ => 0))), (q2, .inl (c1, 36, .inl (fun _ => 0))), (q3, .inl (c1, 36, .inl (fun _ => 0))), (q4, .inl (c1, 36, .inl (fun _ => 0))), (q5, .inl (c1, 4, .inl (fun _ => 0))), (q6, .inl (c1, 4, .inl (fun _ => 0))), (q7, .inl (c2, 288, .inl (fun _ => 0))), (q8, .inl (c1, 288, .inl (fun _ => 0))), (q9, .inl (c2, 36, .inl (fun _ => 0))), (q10, .inl (c1, 4, .inl (fun _ => 0))), (q11, .inl (c1, 36, .inl (fun _ => 0))), (q12, .inl (c1, 36, .inl (fun _ => 0)))] := hD
  refine W.widen (k := 12) (n := 840) (by omega) (by omega) ?_
  refine va_putF (D := D) (ci := 9) (v := .ref q12) (ty := tyX9 16) (C := RX9) (T := TX9) (N := 22) hx hb hts hX9 tyX9 tyX9_ok nmX9 hown hK hP hD hS 0 rfl rfl 16 (by decide) (hts _ kw_783) (fun _ h9 => h9) rfl hin rfl (tyX9_ok 16 (by decide)) rfl rfl (Nat.le_of_ble_eq_true rfl) dX9_init_111 (fun H locs hP hD hS => ?_)
  have hP : va_P D zm_classes [(h0, .inr (9, [.int 0, .int 4, .int 4, .int 2, .ref q1, .ref q2, .ref q3, .ref q4, .ref q5, .ref q6, .int 0, .ref q7, .ref q8, .ref q9, .ref q10, .ref q11, .ref q12, .null, .null, .null, .int 0, .null])), (q1, .inl (c1, 36, .inl (fun _ => 0))), (q2, .inl (c1, 36, .inl (fun _ => 0))), (q3, .inl (c1, 36, .inl (fun _ => 0))), (q4, .inl (c1, 36, .inl (fun _ => 0))), (q5, .inl (c1, 4, .inl (fun _ => 0))), (q6, .inl (c1, 4, .inl (fun _ => 0))), (q7, .inl (c2, 288, .inl (fun _ => 0))), (q8, .inl (c1, 288, .inl (fun _ => 0))), (q9, .inl (c2, 36, .inl (fun _ => 0))), (q10, .inl (c1, 4, .inl (fun _ => 0))), (q11, .inl (c1, 36, .inl (fun _ => 0))), (q12, .inl (c1, 36, .inl (fun _ => 0)))] H := hP
  have hD : va_D A [(h0, .inr (9, [.int 0, .int 4, .int 4, .int 2, .ref q1, .ref q2, .ref q3, .ref q4, .ref q5, .ref q6, .int 0, .ref q7, .ref q8, .ref q9, .ref q10, .ref q11, .ref q12, .null, .null, .null, .int 0, .null])), (q1, .inl (c1, 36, .inl (fun _ => 0))), (q2, .inl (c1, 36, .inl (fun _ => 0))), (q3, .inl (c1, 36, .inl (fun _ => 0))), (q4, .inl (c1, 36, .inl (fun _ => 0))), (q5, .inl (c1, 4, .inl (fun _ => 0))), (q6, .inl (c1, 4, .inl (fun _ => 0))), (q7, .inl (c2, 288, .inl (fun _ => 0))), (q8, .inl (c1, 288, .inl (fun _ => 0))), (q9, .inl (c2, 36, .inl (fun _ => 0))), (q10, .inl (c1, 4, .inl (fun _ => 0))), (q11, .inl (c1, 36, .inl (fun _ => 0))), (q12, .inl (c1, 36, .inl (fun _ => 0)))] := hD
  refine lv_aload_n hx hb dX9_init_114 rfl (lv_at hl 0 rfl) ?_
  refine lv_bipush (v := 36) hx hb dX9_init_115 (by decide) ?_
  refine zn_newi hx hb (hts _ kw_97) hK hP hD hS hA 36 (by decide) (by decide) (by decide) (Nat.le_of_ble_eq_true rfl) (Nat.le_of_ble_eq_true rfl) dX9_init_117 (fun q13 H hP hD hS => ?_)
  have hP : va_P D zm_classes [(h0, .inr (9, [.int 0, .int 4, .int 4, .int 2, .ref q1, .ref q2, .ref q3, .ref q4, .ref q5, .ref q6, .int 0, .ref q7, .ref q8, .ref q9, .ref q10, .ref q11, .ref q12, .null, .null, .null, .int 0, .null])), (q1, .inl (c1, 36, .inl (fun _ => 0))), (q2, .inl (c1, 36, .inl (fun _ => 0))), (q3, .inl (c1, 36, .inl (fun _ => 0))), (q4, .inl (c1, 36, .inl (fun _ => 0))), (q5, .inl (c1, 4, .inl (fun _ => 0))), (q6, .inl (c1, 4, .inl (fun _ => 0))), (q7, .inl (c2, 288, .inl (fun _ => 0))), (q8, .inl (c1, 288, .inl (fun _ => 0))), (q9, .inl (c2, 36, .inl (fun _ => 0))), (q10, .inl (c1, 4, .inl (fun _ => 0))), (q11, .inl (c1, 36, .inl (fun _ => 0))), (q12, .inl (c1, 36, .inl (fun _ => 0))), (q13, .inl (c1, 36, .inl (fun _ => 0)))] H := hP
  have hD : va_D A [(h0, .inr (9, [.int 0, .int 4, .int 4, .int 2, .ref q1, .ref q2, .ref q3, .ref q4, .ref q5, .ref q6, .int 0, .ref q7, .ref q8, .ref q9, .ref q10, .ref q11, .ref q12, .null, .null, .null, .int 0, .null])), (q1, .inl (c1, 36, .inl (fun _ => 0))), (q2, .inl (c1, 36, .inl (fun _ => 0))), (q3, .inl (c1, 36, .inl (fun _ => 0))), (q4, .inl (c1, 36, .inl (fun _ => 0))), (q5, .inl (c1, 4, .inl (fun _ => 0))), (q6, .inl (c1, 4, .inl (fun _ => 0))), (q7, .inl (c2, 288, .inl (fun _ => 0))), (q8, .inl (c1, 288, .inl (fun _ => 0))), (q9, .inl (c2, 36, .inl (fun _ => 0))), (q10, .inl (c1, 4, .inl (fun _ => 0))), (q11, .inl (c1, 36, .inl (fun _ => 0))), (q12, .inl (c1, 36, .inl (fun _ => 0))), (q13, .inl (c1, 36, .inl (fun _ => 0)))] := hD
  refine W.widen (k := 13) (n := 876) (by omega) (by omega) ?_
  refine va_putF (D := D) (ci := 9) (v := .ref q13) (ty := tyX9 17) (C := RX9) (T := TX9) (N := 22) hx hb hts hX9 tyX9 tyX9_ok nmX9 hown hK hP hD hS 0 rfl rfl 17 (by decide) (hts _ kw_784) (fun _ h9 => h9) rfl hin rfl (tyX9_ok 17 (by decide)) rfl rfl (Nat.le_of_ble_eq_true rfl) dX9_init_119 (fun H locs hP hD hS => ?_)
  have hP : va_P D zm_classes [(h0, .inr (9, [.int 0, .int 4, .int 4, .int 2, .ref q1, .ref q2, .ref q3, .ref q4, .ref q5, .ref q6, .int 0, .ref q7, .ref q8, .ref q9, .ref q10, .ref q11, .ref q12, .ref q13, .null, .null, .int 0, .null])), (q1, .inl (c1, 36, .inl (fun _ => 0))), (q2, .inl (c1, 36, .inl (fun _ => 0))), (q3, .inl (c1, 36, .inl (fun _ => 0))), (q4, .inl (c1, 36, .inl (fun _ => 0))), (q5, .inl (c1, 4, .inl (fun _ => 0))), (q6, .inl (c1, 4, .inl (fun _ => 0))), (q7, .inl (c2, 288, .inl (fun _ => 0))), (q8, .inl (c1, 288, .inl (fun _ => 0))), (q9, .inl (c2, 36, .inl (fun _ => 0))), (q10, .inl (c1, 4, .inl (fun _ => 0))), (q11, .inl (c1, 36, .inl (fun _ => 0))), (q12, .inl (c1, 36, .inl (fun _ => 0))), (q13, .inl (c1, 36, .inl (fun _ => 0)))] H := hP
  have hD : va_D A [(h0, .inr (9, [.int 0, .int 4, .int 4, .int 2, .ref q1, .ref q2, .ref q3, .ref q4, .ref q5, .ref q6, .int 0, .ref q7, .ref q8, .ref q9, .ref q10, .ref q11, .ref q12, .ref q13, .null, .null, .int 0, .null])), (q1, .inl (c1, 36, .inl (fun _ => 0))), (q2, .inl (c1, 36, .inl (fun _ => 0))), (q3, .inl (c1, 36, .inl (fun _ => 0))), (q4, .inl (c1, 36, .inl (fun _ => 0))), (q5, .inl (c1, 4, .inl (fun _ => 0))), (q6, .inl (c1, 4, .inl (fun _ => 0))), (q7, .inl (c2, 288, .inl (fun _ => 0))), (q8, .inl (c1, 288, .inl (fun _ => 0))), (q9, .inl (c2, 36, .inl (fun _ => 0))), (q10, .inl (c1, 4, .inl (fun _ => 0))), (q11, .inl (c1, 36, .inl (fun _ => 0))), (q12, .inl (c1, 36, .inl (fun _ => 0))), (q13, .inl (c1, 36, .inl (fun _ => 0)))] := hD
  refine lv_aload_n hx hb dX9_init_122 rfl (lv_at hl 0 rfl) ?_
  refine lv_bipush (v := 36) hx hb dX9_init_123 (by decide) ?_
  refine zn_newz hx hb (hts _ kw_157) hK hP hD hS hA 36 (by decide) (by decide) (by decide) (Nat.le_of_ble_eq_true rfl) (Nat.le_of_ble_eq_true rfl) dX9_init_125 (fun q14 H hP hD hS => ?_)
  have hP : va_P D zm_classes [(h0, .inr (9, [.int 0, .int 4, .int 4, .int 2, .ref q1, .ref q2, .ref q3, .ref q4, .ref q5, .ref q6, .int 0, .ref q7, .ref q8, .ref q9, .ref q10, .ref q11, .ref q12, .ref q13, .null, .null, .int 0, .null])), (q1, .inl (c1, 36, .inl (fun _ => 0))), (q2, .inl (c1, 36, .inl (fun _ => 0))), (q3, .inl (c1, 36, .inl (fun _ => 0))), (q4, .inl (c1, 36, .inl (fun _ => 0))), (q5, .inl (c1, 4, .inl (fun _ => 0))), (q6, .inl (c1, 4, .inl (fun _ => 0))), (q7, .inl (c2, 288, .inl (fun _ => 0))), (q8, .inl (c1, 288, .inl (fun _ => 0))), (q9, .inl (c2, 36, .inl (fun _ => 0))), (q10, .inl (c1, 4, .inl (fun _ => 0))), (q11, .inl (c1, 36, .inl (fun _ => 0))), (q12, .inl (c1, 36, .inl (fun _ => 0))), (q13, .inl (c1, 36, .inl (fun _ => 0))), (q14, .inl (c2, 36, .inl (fun _ => 0)))] H := hP
  have hD : va_D A [(h0, .inr (9, [.int 0, .int 4, .int 4, .int 2, .ref q1, .ref q2, .ref q3, .ref q4, .ref q5, .ref q6, .int 0, .ref q7, .ref q8, .ref q9, .ref q10, .ref q11, .ref q12, .ref q13, .null, .null, .int 0, .null])), (q1, .inl (c1, 36, .inl (fun _ => 0))), (q2, .inl (c1, 36, .inl (fun _ => 0))), (q3, .inl (c1, 36, .inl (fun _ => 0))), (q4, .inl (c1, 36, .inl (fun _ => 0))), (q5, .inl (c1, 4, .inl (fun _ => 0))), (q6, .inl (c1, 4, .inl (fun _ => 0))), (q7, .inl (c2, 288, .inl (fun _ => 0))), (q8, .inl (c1, 288, .inl (fun _ => 0))), (q9, .inl (c2, 36, .inl (fun _ => 0))), (q10, .inl (c1, 4, .inl (fun _ => 0))), (q11, .inl (c1, 36, .inl (fun _ => 0))), (q12, .inl (c1, 36, .inl (fun _ => 0))), (q13, .inl (c1, 36, .inl (fun _ => 0))), (q14, .inl (c2, 36, .inl (fun _ => 0)))] := hD
  refine W.widen (k := 14) (n := 912) (by omega) (by omega) ?_
  refine va_putF (D := D) (ci := 9) (v := .ref q14) (ty := tyX9 18) (C := RX9) (T := TX9) (N := 22) hx hb hts hX9 tyX9 tyX9_ok nmX9 hown hK hP hD hS 0 rfl rfl 18 (by decide) (hts _ kw_785) (fun _ h9 => h9) rfl hin rfl (tyX9_ok 18 (by decide)) rfl rfl (Nat.le_of_ble_eq_true rfl) dX9_init_127 (fun H locs hP hD hS => ?_)
  have hP : va_P D zm_classes [(h0, .inr (9, [.int 0, .int 4, .int 4, .int 2, .ref q1, .ref q2, .ref q3, .ref q4, .ref q5, .ref q6, .int 0, .ref q7, .ref q8, .ref q9, .ref q10, .ref q11, .ref q12, .ref q13, .ref q14, .null, .int 0, .null])), (q1, .inl (c1, 36, .inl (fun _ => 0))), (q2, .inl (c1, 36, .inl (fun _ => 0))), (q3, .inl (c1, 36, .inl (fun _ => 0))), (q4, .inl (c1, 36, .inl (fun _ => 0))), (q5, .inl (c1, 4, .inl (fun _ => 0))), (q6, .inl (c1, 4, .inl (fun _ => 0))), (q7, .inl (c2, 288, .inl (fun _ => 0))), (q8, .inl (c1, 288, .inl (fun _ => 0))), (q9, .inl (c2, 36, .inl (fun _ => 0))), (q10, .inl (c1, 4, .inl (fun _ => 0))), (q11, .inl (c1, 36, .inl (fun _ => 0))), (q12, .inl (c1, 36, .inl (fun _ => 0))), (q13, .inl (c1, 36, .inl (fun _ => 0))), (q14, .inl (c2, 36, .inl (fun _ => 0)))] H := hP
  have hD : va_D A [(h0, .inr (9, [.int 0, .int 4, .int 4, .int 2, .ref q1, .ref q2, .ref q3, .ref q4, .ref q5, .ref q6, .int 0, .ref q7, .ref q8, .ref q9, .ref q10, .ref q11, .ref q12, .ref q13, .ref q14, .null, .int 0, .null])), (q1, .inl (c1, 36, .inl (fun _ => 0))), (q2, .inl (c1, 36, .inl (fun _ => 0))), (q3, .inl (c1, 36, .inl (fun _ => 0))), (q4, .inl (c1, 36, .inl (fun _ => 0))), (q5, .inl (c1, 4, .inl (fun _ => 0))), (q6, .inl (c1, 4, .inl (fun _ => 0))), (q7, .inl (c2, 288, .inl (fun _ => 0))), (q8, .inl (c1, 288, .inl (fun _ => 0))), (q9, .inl (c2, 36, .inl (fun _ => 0))), (q10, .inl (c1, 4, .inl (fun _ => 0))), (q11, .inl (c1, 36, .inl (fun _ => 0))), (q12, .inl (c1, 36, .inl (fun _ => 0))), (q13, .inl (c1, 36, .inl (fun _ => 0))), (q14, .inl (c2, 36, .inl (fun _ => 0)))] := hD
  refine lv_aload_n hx hb dX9_init_130 rfl (lv_at hl 0 rfl) ?_
  refine lv_bipush (v := 36) hx hb dX9_init_131 (by decide) ?_
  refine zn_newi hx hb (hts _ kw_97) hK hP hD hS hA 36 (by decide) (by decide) (by decide) (Nat.le_of_ble_eq_true rfl) (Nat.le_of_ble_eq_true rfl) dX9_init_133 (fun q15 H hP hD hS => ?_)
  have hP : va_P D zm_classes [(h0, .inr (9, [.int 0, .int 4, .int 4, .int 2, .ref q1, .ref q2, .ref q3, .ref q4, .ref q5, .ref q6, .int 0, .ref q7, .ref q8, .ref q9, .ref q10, .ref q11, .ref q12, .ref q13, .ref q14, .null, .int 0, .null])), (q1, .inl (c1, 36, .inl (fun _ => 0))), (q2, .inl (c1, 36, .inl (fun _ => 0))), (q3, .inl (c1, 36, .inl (fun _ => 0))), (q4, .inl (c1, 36, .inl (fun _ => 0))), (q5, .inl (c1, 4, .inl (fun _ => 0))), (q6, .inl (c1, 4, .inl (fun _ => 0))), (q7, .inl (c2, 288, .inl (fun _ => 0))), (q8, .inl (c1, 288, .inl (fun _ => 0))), (q9, .inl (c2, 36, .inl (fun _ => 0))), (q10, .inl (c1, 4, .inl (fun _ => 0))), (q11, .inl (c1, 36, .inl (fun _ => 0))), (q12, .inl (c1, 36, .inl (fun _ => 0))), (q13, .inl (c1, 36, .inl (fun _ => 0))), (q14, .inl (c2, 36, .inl (fun _ => 0))), (q15, .inl (c1, 36, .inl (fun _ => 0)))] H := hP
  have hD : va_D A [(h0, .inr (9, [.int 0, .int 4, .int 4, .int 2, .ref q1, .ref q2, .ref q3, .ref q4, .ref q5, .ref q6, .int 0, .ref q7, .ref q8, .ref q9, .ref q10, .ref q11, .ref q12, .ref q13, .ref q14, .null, .int 0, .null])), (q1, .inl (c1, 36, .inl (fun _ => 0))), (q2, .inl (c1, 36, .inl (fun _ => 0))), (q3, .inl (c1, 36, .inl (fun _ => 0))), (q4, .inl (c1, 36, .inl (fun _ => 0))), (q5, .inl (c1, 4, .inl (fun _ => 0))), (q6, .inl (c1, 4, .inl (fun _ => 0))), (q7, .inl (c2, 288, .inl (fun _ => 0))), (q8, .inl (c1, 288, .inl (fun _ => 0))), (q9, .inl (c2, 36, .inl (fun _ => 0))), (q10, .inl (c1, 4, .inl (fun _ => 0))), (q11, .inl (c1, 36, .inl (fun _ => 0))), (q12, .inl (c1, 36, .inl (fun _ => 0))), (q13, .inl (c1, 36, .inl (fun _ => 0))), (q14, .inl (c2, 36, .inl (fun _ => 0))), (q15, .inl (c1, 36, .inl (fun _ => 0)))] := hD
  refine W.widen (k := 15) (n := 948) (by omega) (by omega) ?_
  refine va_putF (D := D) (ci := 9) (v := .ref q15) (ty := tyX9 19) (C := RX9) (T := TX9) (N := 22) hx hb hts hX9 tyX9 tyX9_ok nmX9 hown hK hP hD hS 0 rfl rfl 19 (by decide) (hts _ kw_786) (fun _ h9 => h9) rfl hin rfl (tyX9_ok 19 (by decide)) rfl rfl (Nat.le_of_ble_eq_true rfl) dX9_init_135 (fun H locs hP hD hS => ?_)
  have hP : va_P D zm_classes [(h0, .inr (9, [.int 0, .int 4, .int 4, .int 2, .ref q1, .ref q2, .ref q3, .ref q4, .ref q5, .ref q6, .int 0, .ref q7, .ref q8, .ref q9, .ref q10, .ref q11, .ref q12, .ref q13, .ref q14, .ref q15, .int 0, .null])), (q1, .inl (c1, 36, .inl (fun _ => 0))), (q2, .inl (c1, 36, .inl (fun _ => 0))), (q3, .inl (c1, 36, .inl (fun _ => 0))), (q4, .inl (c1, 36, .inl (fun _ => 0))), (q5, .inl (c1, 4, .inl (fun _ => 0))), (q6, .inl (c1, 4, .inl (fun _ => 0))), (q7, .inl (c2, 288, .inl (fun _ => 0))), (q8, .inl (c1, 288, .inl (fun _ => 0))), (q9, .inl (c2, 36, .inl (fun _ => 0))), (q10, .inl (c1, 4, .inl (fun _ => 0))), (q11, .inl (c1, 36, .inl (fun _ => 0))), (q12, .inl (c1, 36, .inl (fun _ => 0))), (q13, .inl (c1, 36, .inl (fun _ => 0))), (q14, .inl (c2, 36, .inl (fun _ => 0))), (q15, .inl (c1, 36, .inl (fun _ => 0)))] H := hP
  have hD : va_D A [(h0, .inr (9, [.int 0, .int 4, .int 4, .int 2, .ref q1, .ref q2, .ref q3, .ref q4, .ref q5, .ref q6, .int 0, .ref q7, .ref q8, .ref q9, .ref q10, .ref q11, .ref q12, .ref q13, .ref q14, .ref q15, .int 0, .null])), (q1, .inl (c1, 36, .inl (fun _ => 0))), (q2, .inl (c1, 36, .inl (fun _ => 0))), (q3, .inl (c1, 36, .inl (fun _ => 0))), (q4, .inl (c1, 36, .inl (fun _ => 0))), (q5, .inl (c1, 4, .inl (fun _ => 0))), (q6, .inl (c1, 4, .inl (fun _ => 0))), (q7, .inl (c2, 288, .inl (fun _ => 0))), (q8, .inl (c1, 288, .inl (fun _ => 0))), (q9, .inl (c2, 36, .inl (fun _ => 0))), (q10, .inl (c1, 4, .inl (fun _ => 0))), (q11, .inl (c1, 36, .inl (fun _ => 0))), (q12, .inl (c1, 36, .inl (fun _ => 0))), (q13, .inl (c1, 36, .inl (fun _ => 0))), (q14, .inl (c2, 36, .inl (fun _ => 0))), (q15, .inl (c1, 36, .inl (fun _ => 0)))] := hD
  refine lv_aload_n hx hb dX9_init_138 rfl (lv_at hl 0 rfl) ?_
  refine lv_sipush (v := 10368) hx hb dX9_init_139 (by decide) ?_
  refine zn_newi hx hb (hts _ kw_97) hK hP hD hS hA 10368 (by decide) (by decide) (by decide) (Nat.le_of_ble_eq_true rfl) (Nat.le_of_ble_eq_true rfl) dX9_init_142 (fun q16 H hP hD hS => ?_)
  have hP : va_P D zm_classes [(h0, .inr (9, [.int 0, .int 4, .int 4, .int 2, .ref q1, .ref q2, .ref q3, .ref q4, .ref q5, .ref q6, .int 0, .ref q7, .ref q8, .ref q9, .ref q10, .ref q11, .ref q12, .ref q13, .ref q14, .ref q15, .int 0, .null])), (q1, .inl (c1, 36, .inl (fun _ => 0))), (q2, .inl (c1, 36, .inl (fun _ => 0))), (q3, .inl (c1, 36, .inl (fun _ => 0))), (q4, .inl (c1, 36, .inl (fun _ => 0))), (q5, .inl (c1, 4, .inl (fun _ => 0))), (q6, .inl (c1, 4, .inl (fun _ => 0))), (q7, .inl (c2, 288, .inl (fun _ => 0))), (q8, .inl (c1, 288, .inl (fun _ => 0))), (q9, .inl (c2, 36, .inl (fun _ => 0))), (q10, .inl (c1, 4, .inl (fun _ => 0))), (q11, .inl (c1, 36, .inl (fun _ => 0))), (q12, .inl (c1, 36, .inl (fun _ => 0))), (q13, .inl (c1, 36, .inl (fun _ => 0))), (q14, .inl (c2, 36, .inl (fun _ => 0))), (q15, .inl (c1, 36, .inl (fun _ => 0))), (q16, .inl (c1, 10368, .inl (fun _ => 0)))] H := hP
  have hD : va_D A [(h0, .inr (9, [.int 0, .int 4, .int 4, .int 2, .ref q1, .ref q2, .ref q3, .ref q4, .ref q5, .ref q6, .int 0, .ref q7, .ref q8, .ref q9, .ref q10, .ref q11, .ref q12, .ref q13, .ref q14, .ref q15, .int 0, .null])), (q1, .inl (c1, 36, .inl (fun _ => 0))), (q2, .inl (c1, 36, .inl (fun _ => 0))), (q3, .inl (c1, 36, .inl (fun _ => 0))), (q4, .inl (c1, 36, .inl (fun _ => 0))), (q5, .inl (c1, 4, .inl (fun _ => 0))), (q6, .inl (c1, 4, .inl (fun _ => 0))), (q7, .inl (c2, 288, .inl (fun _ => 0))), (q8, .inl (c1, 288, .inl (fun _ => 0))), (q9, .inl (c2, 36, .inl (fun _ => 0))), (q10, .inl (c1, 4, .inl (fun _ => 0))), (q11, .inl (c1, 36, .inl (fun _ => 0))), (q12, .inl (c1, 36, .inl (fun _ => 0))), (q13, .inl (c1, 36, .inl (fun _ => 0))), (q14, .inl (c2, 36, .inl (fun _ => 0))), (q15, .inl (c1, 36, .inl (fun _ => 0))), (q16, .inl (c1, 10368, .inl (fun _ => 0)))] := hD
  refine W.widen (k := 16) (n := 11316) (by omega) (by omega) ?_
  refine va_putF (D := D) (ci := 9) (v := .ref q16) (ty := tyX9 21) (C := RX9) (T := TX9) (N := 22) hx hb hts hX9 tyX9 tyX9_ok nmX9 hown hK hP hD hS 0 rfl rfl 21 (by decide) (hts _ kw_788) (fun _ h9 => h9) rfl hin rfl (tyX9_ok 21 (by decide)) rfl rfl (Nat.le_of_ble_eq_true rfl) dX9_init_144 (fun H locs hP hD hS => ?_)
  have hP : va_P D zm_classes [(h0, .inr (9, [.int 0, .int 4, .int 4, .int 2, .ref q1, .ref q2, .ref q3, .ref q4, .ref q5, .ref q6, .int 0, .ref q7, .ref q8, .ref q9, .ref q10, .ref q11, .ref q12, .ref q13, .ref q14, .ref q15, .int 0, .ref q16])), (q1, .inl (c1, 36, .inl (fun _ => 0))), (q2, .inl (c1, 36, .inl (fun _ => 0))), (q3, .inl (c1, 36, .inl (fun _ => 0))), (q4, .inl (c1, 36, .inl (fun _ => 0))), (q5, .inl (c1, 4, .inl (fun _ => 0))), (q6, .inl (c1, 4, .inl (fun _ => 0))), (q7, .inl (c2, 288, .inl (fun _ => 0))), (q8, .inl (c1, 288, .inl (fun _ => 0))), (q9, .inl (c2, 36, .inl (fun _ => 0))), (q10, .inl (c1, 4, .inl (fun _ => 0))), (q11, .inl (c1, 36, .inl (fun _ => 0))), (q12, .inl (c1, 36, .inl (fun _ => 0))), (q13, .inl (c1, 36, .inl (fun _ => 0))), (q14, .inl (c2, 36, .inl (fun _ => 0))), (q15, .inl (c1, 36, .inl (fun _ => 0))), (q16, .inl (c1, 10368, .inl (fun _ => 0)))] H := hP
  have hD : va_D A [(h0, .inr (9, [.int 0, .int 4, .int 4, .int 2, .ref q1, .ref q2, .ref q3, .ref q4, .ref q5, .ref q6, .int 0, .ref q7, .ref q8, .ref q9, .ref q10, .ref q11, .ref q12, .ref q13, .ref q14, .ref q15, .int 0, .ref q16])), (q1, .inl (c1, 36, .inl (fun _ => 0))), (q2, .inl (c1, 36, .inl (fun _ => 0))), (q3, .inl (c1, 36, .inl (fun _ => 0))), (q4, .inl (c1, 36, .inl (fun _ => 0))), (q5, .inl (c1, 4, .inl (fun _ => 0))), (q6, .inl (c1, 4, .inl (fun _ => 0))), (q7, .inl (c2, 288, .inl (fun _ => 0))), (q8, .inl (c1, 288, .inl (fun _ => 0))), (q9, .inl (c2, 36, .inl (fun _ => 0))), (q10, .inl (c1, 4, .inl (fun _ => 0))), (q11, .inl (c1, 36, .inl (fun _ => 0))), (q12, .inl (c1, 36, .inl (fun _ => 0))), (q13, .inl (c1, 36, .inl (fun _ => 0))), (q14, .inl (c2, 36, .inl (fun _ => 0))), (q15, .inl (c1, 36, .inl (fun _ => 0))), (q16, .inl (c1, 10368, .inl (fun _ => 0)))] := hD
  have hP9 := hP.sub (ws' := [(h0, .inr (9, [.int 0, .int 4, .int 4, .int 2, .ref q1, .ref q2, .ref q3, .ref q4, .ref q5, .ref q6, .int 0, .ref q7, .ref q8, .ref q9, .ref q10, .ref q11, .ref q12, .ref q13, .ref q14, .ref q15, .int 0, .ref q16])), (q1, .inl (c1, 36, .inl (fun _ => 0))), (q2, .inl (c1, 36, .inl (fun _ => 0))), (q3, .inl (c1, 36, .inl (fun _ => 0))), (q4, .inl (c1, 36, .inl (fun _ => 0))), (q5, .inl (c1, 4, .inl (fun _ => 0))), (q6, .inl (c1, 4, .inl (fun _ => 0))), (q7, .inl (c2, 288, .inl (fun _ => 0))), (q8, .inl (c1, 288, .inl (fun _ => 0))), (q9, .inl (c2, 36, .inl (fun _ => 0))), (q10, .inl (c1, 4, .inl (fun _ => 0))), (q11, .inl (c1, 36, .inl (fun _ => 0))), (q12, .inl (c1, 36, .inl (fun _ => 0))), (q13, .inl (c1, 36, .inl (fun _ => 0))), (q14, .inl (c2, 36, .inl (fun _ => 0))), (q15, .inl (c1, 36, .inl (fun _ => 0))), (q16, .inl (c1, 10368, .inl (fun _ => 0)))]) [0, 1, 2, 3, 4, 5, 6, 7, 8, 9, 10, 11, 12, 13, 14, 15, 16] rfl
  have hD9 := hD.sub (ws' := [(h0, .inr (9, [.int 0, .int 4, .int 4, .int 2, .ref q1, .ref q2, .ref q3, .ref q4, .ref q5, .ref q6, .int 0, .ref q7, .ref q8, .ref q9, .ref q10, .ref q11, .ref q12, .ref q13, .ref q14, .ref q15, .int 0, .ref q16])), (q1, .inl (c1, 36, .inl (fun _ => 0))), (q2, .inl (c1, 36, .inl (fun _ => 0))), (q3, .inl (c1, 36, .inl (fun _ => 0))), (q4, .inl (c1, 36, .inl (fun _ => 0))), (q5, .inl (c1, 4, .inl (fun _ => 0))), (q6, .inl (c1, 4, .inl (fun _ => 0))), (q7, .inl (c2, 288, .inl (fun _ => 0))), (q8, .inl (c1, 288, .inl (fun _ => 0))), (q9, .inl (c2, 36, .inl (fun _ => 0))), (q10, .inl (c1, 4, .inl (fun _ => 0))), (q11, .inl (c1, 36, .inl (fun _ => 0))), (q12, .inl (c1, 36, .inl (fun _ => 0))), (q13, .inl (c1, 36, .inl (fun _ => 0))), (q14, .inl (c2, 36, .inl (fun _ => 0))), (q15, .inl (c1, 36, .inl (fun _ => 0))), (q16, .inl (c1, 10368, .inl (fun _ => 0)))]) [0, 1, 2, 3, 4, 5, 6, 7, 8, 9, 10, 11, 12, 13, 14, 15, 16] (by decide) rfl
  exact W.vret hx hb hr (fun t ht hW => ⟨⟨(), rfl, trivial, q1, q2, q3, q4, q5, q6, q7, q8, q9, q10, q11, q12, q13, q14, q15, q16, by rw [ht]; exact hP9, va_K.moved hW.alike hK, hD9⟩, hS.F ht⟩) hS.2.2 dX9_init_147
theorem dX8_init_0 : decode cX8_init 0 = .ok (.aload_n 0, 1) := by decide +kernel
theorem dX8_init_1 : decode cX8_init 1 = .ok (.invokespecial 1, 3) := by decide +kernel
theorem dX8_init_4 : decode cX8_init 4 = .ok (.aload_n 0, 1) := by decide +kernel
theorem dX8_init_5 : decode cX8_init 5 = .ok (.new 7, 3) := by decide +kernel
theorem dX8_init_8 : decode cX8_init 8 = .ok (.dup, 1) := by decide +kernel
theorem dX8_init_9 : decode cX8_init 9 = .ok (.invokespecial 9, 3) := by decide +kernel
theorem dX8_init_12 : decode cX8_init 12 = .ok (.putfield 10, 3) := by decide +kernel
theorem dX8_init_15 : decode cX8_init 15 = .ok (.aload_n 0, 1) := by decide +kernel
theorem dX8_init_16 : decode cX8_init 16 = .ok (.new 16, 3) := by decide +kernel
theorem dX8_init_19 : decode cX8_init 19 = .ok (.dup, 1) := by decide +kernel
theorem dX8_init_20 : decode cX8_init 20 = .ok (.aload_n 0, 1) := by decide +kernel
theorem dX8_init_21 : decode cX8_init 21 = .ok (.getfield 10, 3) := by decide +kernel
theorem dX8_init_24 : decode cX8_init 24 = .ok (.invokespecial 18, 3) := by decide +kernel
theorem dX8_init_27 : decode cX8_init 27 = .ok (.putfield 21, 3) := by decide +kernel
theorem dX8_init_30 : decode cX8_init 30 = .ok (.aload_n 0, 1) := by decide +kernel
theorem dX8_init_31 : decode cX8_init 31 = .ok (.new 25, 3) := by decide +kernel
theorem dX8_init_34 : decode cX8_init 34 = .ok (.dup, 1) := by decide +kernel
theorem dX8_init_35 : decode cX8_init 35 = .ok (.aload_n 0, 1) := by decide +kernel
theorem dX8_init_36 : decode cX8_init 36 = .ok (.getfield 10, 3) := by decide +kernel
theorem dX8_init_39 : decode cX8_init 39 = .ok (.aload_n 0, 1) := by decide +kernel
theorem dX8_init_40 : decode cX8_init 40 = .ok (.getfield 21, 3) := by decide +kernel
theorem dX8_init_43 : decode cX8_init 43 = .ok (.invokespecial 27, 3) := by decide +kernel
theorem dX8_init_46 : decode cX8_init 46 = .ok (.putfield 30, 3) := by decide +kernel
theorem dX8_init_49 : decode cX8_init 49 = .ok (.aload_n 0, 1) := by decide +kernel
theorem dX8_init_50 : decode cX8_init 50 = .ok (.new 34, 3) := by decide +kernel
theorem dX8_init_53 : decode cX8_init 53 = .ok (.dup, 1) := by decide +kernel
theorem dX8_init_54 : decode cX8_init 54 = .ok (.aload_n 0, 1) := by decide +kernel
theorem dX8_init_55 : decode cX8_init 55 = .ok (.getfield 10, 3) := by decide +kernel
theorem dX8_init_58 : decode cX8_init 58 = .ok (.aload_n 0, 1) := by decide +kernel
theorem dX8_init_59 : decode cX8_init 59 = .ok (.getfield 21, 3) := by decide +kernel
theorem dX8_init_62 : decode cX8_init 62 = .ok (.invokespecial 36, 3) := by decide +kernel
theorem dX8_init_65 : decode cX8_init 65 = .ok (.putfield 37, 3) := by decide +kernel
theorem dX8_init_68 : decode cX8_init 68 = .ok (.aload_n 0, 1) := by decide +kernel
theorem dX8_init_69 : decode cX8_init 69 = .ok (.new 41, 3) := by decide +kernel
theorem dX8_init_72 : decode cX8_init 72 = .ok (.dup, 1) := by decide +kernel
theorem dX8_init_73 : decode cX8_init 73 = .ok (.aload_n 0, 1) := by decide +kernel
theorem dX8_init_74 : decode cX8_init 74 = .ok (.getfield 10, 3) := by decide +kernel
theorem dX8_init_77 : decode cX8_init 77 = .ok (.aload_n 0, 1) := by decide +kernel
theorem dX8_init_78 : decode cX8_init 78 = .ok (.getfield 21, 3) := by decide +kernel
theorem dX8_init_81 : decode cX8_init 81 = .ok (.invokespecial 43, 3) := by decide +kernel
theorem dX8_init_84 : decode cX8_init 84 = .ok (.putfield 44, 3) := by decide +kernel
theorem dX8_init_87 : decode cX8_init 87 = .ok (.aload_n 0, 1) := by decide +kernel
theorem dX8_init_88 : decode cX8_init 88 = .ok (.new 48, 3) := by decide +kernel
theorem dX8_init_91 : decode cX8_init 91 = .ok (.dup, 1) := by decide +kernel
theorem dX8_init_92 : decode cX8_init 92 = .ok (.aload_n 0, 1) := by decide +kernel
theorem dX8_init_93 : decode cX8_init 93 = .ok (.getfield 10, 3) := by decide +kernel
theorem dX8_init_96 : decode cX8_init 96 = .ok (.invokespecial 50, 3) := by decide +kernel
theorem dX8_init_99 : decode cX8_init 99 = .ok (.putfield 51, 3) := by decide +kernel
theorem dX8_init_102 : decode cX8_init 102 = .ok (.aload_n 0, 1) := by decide +kernel
theorem dX8_init_103 : decode cX8_init 103 = .ok (.new 55, 3) := by decide +kernel
theorem dX8_init_106 : decode cX8_init 106 = .ok (.dup, 1) := by decide +kernel
theorem dX8_init_107 : decode cX8_init 107 = .ok (.aload_n 0, 1) := by decide +kernel
theorem dX8_init_108 : decode cX8_init 108 = .ok (.getfield 10, 3) := by decide +kernel
theorem dX8_init_111 : decode cX8_init 111 = .ok (.aload_n 0, 1) := by decide +kernel
theorem dX8_init_112 : decode cX8_init 112 = .ok (.getfield 21, 3) := by decide +kernel
theorem dX8_init_115 : decode cX8_init 115 = .ok (.invokespecial 57, 3) := by decide +kernel
theorem dX8_init_118 : decode cX8_init 118 = .ok (.putfield 58, 3) := by decide +kernel
theorem dX8_init_121 : decode cX8_init 121 = .ok (.aload_n 0, 1) := by decide +kernel
theorem dX8_init_122 : decode cX8_init 122 = .ok (.new 62, 3) := by decide +kernel
theorem dX8_init_125 : decode cX8_init 125 = .ok (.dup, 1) := by decide +kernel
theorem dX8_init_126 : decode cX8_init 126 = .ok (.aload_n 0, 1) := by decide +kernel
theorem dX8_init_127 : decode cX8_init 127 = .ok (.getfield 10, 3) := by decide +kernel
theorem dX8_init_130 : decode cX8_init 130 = .ok (.aload_n 0, 1) := by decide +kernel
theorem dX8_init_131 : decode cX8_init 131 = .ok (.getfield 21, 3) := by decide +kernel
theorem dX8_init_134 : decode cX8_init 134 = .ok (.invokespecial 64, 3) := by decide +kernel
theorem dX8_init_137 : decode cX8_init 137 = .ok (.putfield 65, 3) := by decide +kernel
theorem dX8_init_140 : decode cX8_init 140 = .ok (.return_, 1) := by decide +kernel
abbrev gX8_init : zm_Sig := (yX8_init, cX8_init, 1, none, 2, 35)
theorem kcX8 : Cond.code yX8_init cX8_init 1 none ∈ zm_tb := zm_tb_in 41 (by decide +kernel) (by decide +kernel)
theorem kw_42 : Cond.methodLink RX8 1 objectInit ∈ zm_tb := zm_tb_in 42 (by decide +kernel) (by decide +kernel)
theorem kw_45 : Cond.classLink RX8 7 RX1 ∈ zm_tb := zm_tb_in 45 (by decide +kernel) (by decide +kernel)
theorem kw_46 : Cond.instantiable RX1 3 ∈ zm_tb := zm_tb_in 46 (by decide +kernel) (by decide +kernel)
theorem kw_27 : Cond.initialized RX1 ∈ zm_tb := zm_tb_in 27 (by decide +kernel) (by decide +kernel)
theorem kw_47 : Cond.methodLink RX8 9 yX1_init ∈ zm_tb := zm_tb_in 47 (by decide +kernel) (by decide +kernel)
theorem kw_48 : Cond.instanceMethod yX1_init ∈ zm_tb := zm_tb_in 48 (by decide +kernel) (by decide +kernel)
theorem kw_215 : Cond.fieldLink RX8 10 (TX8 0).1 (TX8 0).2.1 (TX8 0).2.2.1 ∈ zm_tb := zm_tb_in 215 (by decide +kernel) (by decide +kernel)
theorem kw_70 : Cond.classLink RX8 16 RX5 ∈ zm_tb := zm_tb_in 70 (by decide +kernel) (by decide +kernel)
theorem kw_71 : Cond.instantiable RX5 4 ∈ zm_tb := zm_tb_in 71 (by decide +kernel) (by decide +kernel)
theorem kw_28 : Cond.initialized RX5 ∈ zm_tb := zm_tb_in 28 (by decide +kernel) (by decide +kernel)
theorem kw_72 : Cond.methodLink RX8 18 yX5_init ∈ zm_tb := zm_tb_in 72 (by decide +kernel) (by decide +kernel)
theorem kw_73 : Cond.instanceMethod yX5_init ∈ zm_tb := zm_tb_in 73 (by decide +kernel) (by decide +kernel)
theorem kw_216 : Cond.fieldLink RX8 21 (TX8 1).1 (TX8 1).2.1 (TX8 1).2.2.1 ∈ zm_tb := zm_tb_in 216 (by decide +kernel) (by decide +kernel)
theorem kw_98 : Cond.classLink RX8 25 RX2 ∈ zm_tb := zm_tb_in 98 (by decide +kernel) (by decide +kernel)
theorem kw_99 : Cond.instantiable RX2 2 ∈ zm_tb := zm_tb_in 99 (by decide +kernel) (by decide +kernel)
theorem kw_29 : Cond.initialized RX2 ∈ zm_tb := zm_tb_in 29 (by decide +kernel) (by decide +kernel)
theorem kw_100 : Cond.methodLink RX8 27 yX2_init ∈ zm_tb := zm_tb_in 100 (by decide +kernel) (by decide +kernel)
theorem kw_101 : Cond.instanceMethod yX2_init ∈ zm_tb := zm_tb_in 101 (by decide +kernel) (by decide +kernel)
theorem kw_217 : Cond.fieldLink RX8 30 (TX8 2).1 (TX8 2).2.1 (TX8 2).2.2.1 ∈ zm_tb := zm_tb_in 217 (by decide +kernel) (by decide +kernel)
theorem kw_111 : Cond.classLink RX8 34 RX4 ∈ zm_tb := zm_tb_in 111 (by decide +kernel) (by decide +kernel)
theorem kw_112 : Cond.instantiable RX4 3 ∈ zm_tb := zm_tb_in 112 (by decide +kernel) (by decide +kernel)
theorem kw_30 : Cond.initialized RX4 ∈ zm_tb := zm_tb_in 30 (by decide +kernel) (by decide +kernel)
theorem kw_113 : Cond.methodLink RX8 36 yX4_init ∈ zm_tb := zm_tb_in 113 (by decide +kernel) (by decide +kernel)
theorem kw_114 : Cond.instanceMethod yX4_init ∈ zm_tb := zm_tb_in 114 (by decide +kernel) (by decide +kernel)
theorem kw_218 : Cond.fieldLink RX8 37 (TX8 3).1 (TX8 3).2.1 (TX8 3).2.2.1 ∈ zm_tb := zm_tb_in 218 (by decide +kernel) (by decide +kernel)
theorem kw_127 : Cond.classLink RX8 41 RX7 ∈ zm_tb := zm_tb_in 127 (by decide +kernel) (by decide +kernel)
theorem kw_128 : Cond.instantiable RX7 7 ∈ zm_tb := zm_tb_in 128 (by decide +kernel) (by decide +kernel)
theorem kw_31 : Cond.initialized RX7 ∈ zm_tb := zm_tb_in 31 (by decide +kernel) (by decide +kernel)
theorem kw_129 : Cond.methodLink RX8 43 yX7_init ∈ zm_tb := zm_tb_in 129 (by decide +kernel) (by decide +kernel)
theorem kw_130 : Cond.instanceMethod yX7_init ∈ zm_tb := zm_tb_in 130 (by decide +kernel) (by decide +kernel)
theorem kw_219 : Cond.fieldLink RX8 44 (TX8 4).1 (TX8 4).2.1 (TX8 4).2.2.1 ∈ zm_tb := zm_tb_in 219 (by decide +kernel) (by decide +kernel)
theorem kw_158 : Cond.classLink RX8 48 RX0 ∈ zm_tb := zm_tb_in 158 (by decide +kernel) (by decide +kernel)
theorem kw_159 : Cond.instantiable RX0 2 ∈ zm_tb := zm_tb_in 159 (by decide +kernel) (by decide +kernel)
theorem kw_32 : Cond.initialized RX0 ∈ zm_tb := zm_tb_in 32 (by decide +kernel) (by decide +kernel)
theorem kw_160 : Cond.methodLink RX8 50 yX0_init ∈ zm_tb := zm_tb_in 160 (by decide +kernel) (by decide +kernel)
theorem kw_161 : Cond.instanceMethod yX0_init ∈ zm_tb := zm_tb_in 161 (by decide +kernel) (by decide +kernel)
theorem kw_220 : Cond.fieldLink RX8 51 (TX8 5).1 (TX8 5).2.1 (TX8 5).2.2.1 ∈ zm_tb := zm_tb_in 220 (by decide +kernel) (by decide +kernel)
theorem kw_171 : Cond.classLink RX8 55 RX3 ∈ zm_tb := zm_tb_in 171 (by decide +kernel) (by decide +kernel)
theorem kw_172 : Cond.instantiable RX3 2 ∈ zm_tb := zm_tb_in 172 (by decide +kernel) (by decide +kernel)
theorem kw_33 : Cond.initialized RX3 ∈ zm_tb := zm_tb_in 33 (by decide +kernel) (by decide +kernel)
theorem kw_173 : Cond.methodLink RX8 57 yX3_init ∈ zm_tb := zm_tb_in 173 (by decide +kernel) (by decide +kernel)
theorem kw_174 : Cond.instanceMethod yX3_init ∈ zm_tb := zm_tb_in 174 (by decide +kernel) (by decide +kernel)
theorem kw_221 : Cond.fieldLink RX8 58 (TX8 6).1 (TX8 6).2.1 (TX8 6).2.2.1 ∈ zm_tb := zm_tb_in 221 (by decide +kernel) (by decide +kernel)
theorem kw_184 : Cond.classLink RX8 62 RX6 ∈ zm_tb := zm_tb_in 184 (by decide +kernel) (by decide +kernel)
theorem kw_185 : Cond.instantiable RX6 8 ∈ zm_tb := zm_tb_in 185 (by decide +kernel) (by decide +kernel)
theorem kw_34 : Cond.initialized RX6 ∈ zm_tb := zm_tb_in 34 (by decide +kernel) (by decide +kernel)
theorem kw_186 : Cond.methodLink RX8 64 yX6_init ∈ zm_tb := zm_tb_in 186 (by decide +kernel) (by decide +kernel)
theorem kw_187 : Cond.instanceMethod yX6_init ∈ zm_tb := zm_tb_in 187 (by decide +kernel) (by decide +kernel)
theorem kw_222 : Cond.fieldLink RX8 65 (TX8 7).1 (TX8 7).2.1 (TX8 7).2.2.1 ∈ zm_tb := zm_tb_in 222 (by decide +kernel) (by decide +kernel)
set_option maxHeartbeats 4000000 in
set_option maxRecDepth 100000 in
theorem kX8_init (l : Launch) (D : va_G) (c1 c2 : ClassId) (h0 : Nat) (sz : Nat) : Met l yX8_init (zm_ws gX8_init) ({ frames := 2, cells := 20, slots := 903, locals := 35 }) (va_Pc [.ref h0] (fun U => U.heap.size = sz ∧ va_P D zm_classes [(h0, .inr (8, [.null, .null, .null, .null, .null, .null, .null, .null]))] U.heap ∧ va_K D zm_classes (zm_tys c1 c2) U ∧ va_D (fun _ => True) [(h0, .inr (8, [.null, .null, .null, .null, .null, .null, .null, .null]))])) (va_Qv (fun _ : Unit => True) (fun _ t => ∃ (q101 q102 q103 q104 q105 q106 q107 q108 q109 q110 q111 q112 q113 q114 q115 q116 q117 q118 q119 q120 : Nat) (f : Nat → Int32), (∀ j, j < 36 → f j = nI j) ∧ va_P D zm_classes [(h0, .inr (8, [.ref q101, .ref q102, .ref q105, .ref q106, .ref q108, .ref q113, .ref q115, .ref q116])), (q101, .inr (1, [.int 4, .int 4, .int 16])), (q102, .inr (5, [.ref q101, .ref q103, .ref q104, .int 2])), (q103, .inl (c1, 36, .inl (fun _ => 0))), (q104, .inl (c1, 36, .inl (fun _ => 0))), (q105, .inr (2, [.ref q101, .ref q102])), (q106, .inr (4, [.ref q101, .ref q102, .ref q107])), (q107, .inl (c1, 4, .inl (fun _ => 0))), (q108, .inr (7, [.ref q101, .ref q102, .ref q109, .ref q110, .ref q111, .ref q112, .int 0])), (q109, .inl (c1, 4, .inl (fun _ => 0))), (q110, .inl (c1, 36, .inl f)), (q111, .inl (c1, 288, .inl (fun _ => 0))), (q112, .inl (c2, 288, .inl (fun _ => 0))), (q113, .inr (0, [.ref q101, .ref q114])), (q114, .inl (c2, 36, .inl (fun _ => 0))), (q115, .inr (3, [.ref q101, .ref q102])), (q116, .inr (6, [.ref q101, .ref q102, .ref q117, .ref q118, .ref q119, .ref q120, .int 0, .int 0])), (q117, .inl (c1, 36, .inl (fun _ => 0))), (q118, .inl (c2, 36, .inl (fun _ => 0))), (q119, .inl (c1, 36, .inl (fun _ => 0))), (q120, .inl (c1, 36, .inl (fun _ => 0)))] t.heap ∧ va_K D zm_classes (zm_tys c1 c2) t ∧ va_D (va_A [(h0, .inr (8, [.null, .null, .null, .null, .null, .null, .null, .null]))] sz) [(h0, .inr (8, [.ref q101, .ref q102, .ref q105, .ref q106, .ref q108, .ref q113, .ref q115, .ref q116])), (q101, .inr (1, [.int 4, .int 4, .int 16])), (q102, .inr (5, [.ref q101, .ref q103, .ref q104, .int 2])), (q103, .inl (c1, 36, .inl (fun _ => 0))), (q104, .inl (c1, 36, .inl (fun _ => 0))), (q105, .inr (2, [.ref q101, .ref q102])), (q106, .inr (4, [.ref q101, .ref q102, .ref q107])), (q107, .inl (c1, 4, .inl (fun _ => 0))), (q108, .inr (7, [.ref q101, .ref q102, .ref q109, .ref q110, .ref q111, .ref q112, .int 0])), (q109, .inl (c1, 4, .inl (fun _ => 0))), (q110, .inl (c1, 36, .inl f)), (q111, .inl (c1, 288, .inl (fun _ => 0))), (q112, .inl (c2, 288, .inl (fun _ => 0))), (q113, .inr (0, [.ref q101, .ref q114])), (q114, .inl (c2, 36, .inl (fun _ => 0))), (q115, .inr (3, [.ref q101, .ref q102])), (q116, .inr (6, [.ref q101, .ref q102, .ref q117, .ref q118, .ref q119, .ref q120, .int 0, .int 0])), (q117, .inl (c1, 36, .inl (fun _ => 0))), (q118, .inl (c2, 36, .inl (fun _ => 0))), (q119, .inl (c1, 36, .inl (fun _ => 0))), (q120, .inl (c1, 36, .inl (fun _ => 0)))]) (va_A [(h0, .inr (8, [.null, .null, .null, .null, .null, .null, .null, .null]))] sz)) 20 903 (va_A [(h0, .inr (8, [.null, .null, .null, .null, .null, .null, .null, .null]))] sz) := by
  refine Met.ofW (cc := cX8_init) (maxL := 1) (ret := none) (by decide +kernel) rfl ?_
  intro p e s m args below meth c s₁ B hml hv
  obtain ⟨rfl, hsz, hP, hK, hD0⟩ := hv
  have hx := B.exec
  have hb := B.bytes
  have hr := B.returns
  have hts0 := atoms_spec (ws := zm_ws gX8_init) B.pre
  have hts : ∀ w ∈ zm_tb, w.before _ s = true := fun w hw => hts0 w (List.mem_cons_of_mem _ hw)
  have hown : s.vm.findClass RX8 = some m.cls := findClass_of_methodNamed B.named
  have hlocks := B.notSynchronized
  have hin : meth.name = "<init>" := (name_of_methodNamed B.named B.method).1
  subst hsz
  have hD := hD0.self (sz := s.heap.size)
  generalize hAe : va_A [(h0, .inr (8, [.null, .null, .null, .null, .null, .null, .null, .null]))] s.heap.size = A at hD ⊢
  have hA : ∀ q : Nat, s.heap.size ≤ q → A q := fun q h => by rw [← hAe]; exact Or.inr h
  have hS : va_S A s.heap s.heap [] := va_S.rf
  have hP : va_P D zm_classes [(h0, .inr (8, [.null, .null, .null, .null, .null, .null, .null, .null]))] s.heap := hP
  have hl := lv_entry ([.ref h0]) (n := 1) (Nat.le_of_ble_eq_true rfl)
  rw [lg_entry_eq]
  generalize (lg_sl ([.ref h0]) ++ List.replicate (1 - (lg_sl ([.ref h0])).length) Slot.unset).toArray = ls at hl ⊢
  have hl : lv_has ls 1 [(0, .ref h0)] := hl
  refine lv_aload_n hx hb dX8_init_0 rfl (lv_at hl 0 rfl) ?_
  refine W.objInit hx hb hown (hts _ kw_42) (hts _ kw_43) (hts _ kw_44) rfl (by rw [hml]; exact hl.1) rfl dX8_init_1 (Nat.le_of_ble_eq_true rfl) (Nat.le_of_ble_eq_true rfl) ?_
  refine W.eq (g2 := F0 m 4 ls []) rfl ?_
  refine lv_aload_n hx hb dX8_init_4 rfl (lv_at hl 0 rfl) ?_
  refine va_new (ci := 1) (fs := [.int 0, .int 0, .int 0]) (C := RX1) (T := TX1) (N := 3) hx hb hts hX1 tyX1 tyX1_ok hown (hts _ kw_45) (hts _ kw_46) (hts _ kw_27) hK hP hD hS hA rfl (fun j hj => by rcases (show j = 0 ∨ j = 1 ∨ j = 2 by omega) with rfl | rfl | rfl <;> rfl) (Nat.le_of_ble_eq_true rfl) (Nat.le_of_ble_eq_true rfl) dX8_init_5 (fun q101 H hP hD hS => ?_)
  have hP : va_P D zm_classes [(h0, .inr (8, [.null, .null, .null, .null, .null, .null, .null, .null])), (q101, .inr (1, [.int 0, .int 0, .int 0]))] H := hP
  have hD : va_D A [(h0, .inr (8, [.null, .null, .null, .null, .null, .null, .null, .null])), (q101, .inr (1, [.int 0, .int 0, .int 0]))] := hD
  refine W.widen (k := 1) (n := 3) (by omega) (by omega) ?_
  refine lv_dup hx hb dX8_init_8 rfl ?_
  have hPc := hP.sub (ws' := [(q101, .inr (1, [.int 0, .int 0, .int 0]))]) [1] rfl
  have hDc := hD.sub (ws' := [(q101, .inr (1, [.int 0, .int 0, .int 0]))]) [1] (by decide) rfl
  have hFc := va_free (wc := [(q101, .inr (1, [.int 0, .int 0, .int 0]))]) hD hS hA [1] rfl
  refine va_callv (va_runI (As := []) (rest := [.ref q101, .ref h0]) ⟨hx, hb, hml, hown, hts⟩ (kX1_init l D c1 c2 q101 H.size) (cwI 0 hts (zm_goodI kcX1) rfl rfl rfl (hts _ kw_27) (hts _ kw_47) (hts _ kw_48) rfl (by decide +kernel) ⟨Nat.le_of_ble_eq_true rfl, Nat.le_of_ble_eq_true rfl⟩) ⟨fun a U g mk q => by obtain ⟨q0, q1, qP, qK, qD⟩ := q; exact ⟨q0, q1, qP, va_K.moved (u := U) (U := U.calling g mk a) (Vm.Alike.refl U.vm) qK, qD⟩, fun U hU hW => ⟨rfl, by rw [hU], by rw [hU]; exact hPc, va_K.moved hW.alike hK, hDc.weaken (fun _ _ _ _ => trivial)⟩⟩ rfl rfl hl.1 rfl (lv_room (Nat.le_of_ble_eq_true rfl)) dX8_init_9 ⟨Nat.le_of_ble_eq_true rfl, Nat.le_of_ble_eq_true rfl⟩) hS (fun q _ h => hFc q h) hFc (fun u t H1 locs ht hvm hw hB hz1 hk1 hS => ?_)
  obtain ⟨hP1, hK1, hD1⟩ := hB
  rw [ht] at hP1
  obtain ⟨hP, hD⟩ := va_join (wr := [(h0, .inr (8, [.null, .null, .null, .null, .null, .null, .null, .null]))]) (w1 := [(q101, .inr (1, [.int 4, .int 4, .int 16]))]) hP hD [1] [0] rfl rfl (by decide) (by decide) hk1 hFc hP1 hD1
  generalize H1 = H at hP hS ⊢
  have hP : va_P D zm_classes [(h0, .inr (8, [.null, .null, .null, .null, .null, .null, .null, .null])), (q101, .inr (1, [.int 4, .int 4, .int 16]))] H := hP
  have hD : va_D A [(h0, .inr (8, [.null, .null, .null, .null, .null, .null, .null, .null])), (q101, .inr (1, [.int 4, .int 4, .int 16]))] := hD
  refine W.widen (k := 1) (n := 3) (by omega) (by omega) ?_
  refine va_putF (D := D) (ci := 8) (v := .ref q101) (ty := tyX8 0) (C := RX8) (T := TX8) (N := 8) hx hb hts hX8 tyX8 tyX8_ok nmX8 hown hK hP hD hS 0 rfl rfl 0 (by decide) (hts _ kw_215) (fun _ h9 => h9) rfl hin rfl (tyX8_ok 0 (by decide)) rfl rfl (Nat.le_of_ble_eq_true rfl) dX8_init_12 (fun H locs hP hD hS => ?_)
  have hP : va_P D zm_classes [(h0, .inr (8, [.ref q101, .null, .null, .null, .null, .null, .null, .null])), (q101, .inr (1, [.int 4, .int 4, .int 16]))] H := hP
  have hD : va_D A [(h0, .inr (8, [.ref q101, .null, .null, .null, .null, .null, .null, .null])), (q101, .inr (1, [.int 4, .int 4, .int 16]))] := hD
  refine lv_aload_n hx hb dX8_init_15 rfl (lv_at hl 0 rfl) ?_
  refine va_new (ci := 5) (fs := [.null, .null, .null, .int 0]) (C := RX5) (T := TX5) (N := 4) hx hb hts hX5 tyX5 tyX5_ok hown (hts _ kw_70) (hts _ kw_71) (hts _ kw_28) hK hP hD hS hA rfl (fun j hj => by rcases (show j = 0 ∨ j = 1 ∨ j = 2 ∨ j = 3 by omega) with rfl | rfl | rfl | rfl <;> rfl) (Nat.le_of_ble_eq_true rfl) (Nat.le_of_ble_eq_true rfl) dX8_init_16 (fun q102 H hP hD hS => ?_)
  have hP : va_P D zm_classes [(h0, .inr (8, [.ref q101, .null, .null, .null, .null, .null, .null, .null])), (q101, .inr (1, [.int 4, .int 4, .int 16])), (q102, .inr (5, [.null, .null, .null, .int 0]))] H := hP
  have hD : va_D A [(h0, .inr (8, [.ref q101, .null, .null, .null, .null, .null, .null, .null])), (q101, .inr (1, [.int 4, .int 4, .int 16])), (q102, .inr (5, [.null, .null, .null, .int 0]))] := hD
  refine W.widen (k := 2) (n := 7) (by omega) (by omega) ?_
  refine lv_dup hx hb dX8_init_19 rfl ?_
  refine lv_aload_n hx hb dX8_init_20 rfl (lv_at hl 0 rfl) ?_
  refine va_get (D := D) (ci := 8) (v := .ref q101) (C := RX8) (T := TX8) (N := 8) hx hb hts hX8 hown hK hP 0 rfl rfl 0 (by decide) (hts _ kw_215) (fun _ h9 => h9) rfl dX8_init_21 ?_
  have hPc := hP.sub (ws' := [(q102, .inr (5, [.null, .null, .null, .int 0]))]) [2] rfl
  have hDc := hD.sub (ws' := [(q102, .inr (5, [.null, .null, .null, .int 0]))]) [2] (by decide) rfl
  have hFc := va_free (wc := [(q102, .inr (5, [.null, .null, .null, .int 0]))]) hD hS hA [2] rfl
  refine va_callv (va_runI (As := [.ref q101]) (rest := [.ref q102, .ref h0]) ⟨hx, hb, hml, hown, hts⟩ (kX5_init l D c1 c2 q102 q101 H.size) (cwI 1 hts (zm_goodI kcX5) rfl rfl rfl (hts _ kw_28) (hts _ kw_72) (hts _ kw_73) rfl (by decide +kernel) ⟨Nat.le_of_ble_eq_true rfl, Nat.le_of_ble_eq_true rfl⟩) ⟨fun a U g mk q => by obtain ⟨q0, q1, qP, qK, qD⟩ := q; exact ⟨q0, q1, qP, va_K.moved (u := U) (U := U.calling g mk a) (Vm.Alike.refl U.vm) qK, qD⟩, fun U hU hW => ⟨rfl, by rw [hU], by rw [hU]; exact hPc, va_K.moved hW.alike hK, hDc.weaken (fun _ _ _ _ => trivial)⟩⟩ rfl rfl hl.1 rfl (lv_room (Nat.le_of_ble_eq_true rfl)) dX8_init_24 ⟨Nat.le_of_ble_eq_true rfl, Nat.le_of_ble_eq_true rfl⟩) hS (fun q _ h => hFc q h) hFc (fun u t H1 locs ht hvm hw hB hz1 hk1 hS => ?_)
  obtain ⟨q103, q104, hP1, hK1, hD1⟩ := hB
  rw [ht] at hP1
  obtain ⟨hP, hD⟩ := va_join (wr := [(h0, .inr (8, [.ref q101, .null, .null, .null, .null, .null, .null, .null])), (q101, .inr (1, [.int 4, .int 4, .int 16]))]) (w1 := [(q102, .inr (5, [.ref q101, .ref q103, .ref q104, .int 2])), (q103, .inl (c1, 36, .inl (fun _ => 0))), (q104, .inl (c1, 36, .inl (fun _ => 0)))]) hP hD [2] [0, 1] rfl rfl (by decide) (by decide) hk1 hFc hP1 hD1
  generalize H1 = H at hP hS ⊢
  have hP : va_P D zm_classes [(h0, .inr (8, [.ref q101, .null, .null, .null, .null, .null, .null, .null])), (q101, .inr (1, [.int 4, .int 4, .int 16])), (q102, .inr (5, [.ref q101, .ref q103, .ref q104, .int 2])), (q103, .inl (c1, 36, .inl (fun _ => 0))), (q104, .inl (c1, 36, .inl (fun _ => 0)))] H := hP
  have hD : va_D A [(h0, .inr (8, [.ref q101, .null, .null, .null, .null, .null, .null, .null])), (q101, .inr (1, [.int 4, .int 4, .int 16])), (q102, .inr (5, [.ref q101, .ref q103, .ref q104, .int 2])), (q103, .inl (c1, 36, .inl (fun _ => 0))), (q104, .inl (c1, 36, .inl (fun _ => 0)))] := hD
  refine W.widen (k := 4) (n := 79) (by omega) (by omega) ?_
  refine va_putF (D := D) (ci := 8) (v := .ref q102) (ty := tyX8 1) (C := RX8) (T := TX8) (N := 8) hx hb hts hX8 tyX8 tyX8_ok nmX8 hown hK hP hD hS 0 rfl rfl 1 (by decide) (hts _ kw_216) (fun _ h9 => h9) rfl hin rfl (tyX8_ok 1 (by decide)) rfl rfl (Nat.le_of_ble_eq_true rfl) dX8_init_27 (fun H locs hP hD hS => ?_)
  have hP : va_P D zm_classes [(h0, .inr (8, [.ref q101, .ref q102, .null, .null, .null, .null, .null, .null])), (q101, .inr (1, [.int 4, .int 4, .int 16])), (q102, .inr (5, [.ref q101, .ref q103, .ref q104, .int 2])), (q103, .inl (c1, 36, .inl (fun _ => 0))), (q104, .inl (c1, 36, .inl (fun _ => 0)))] H := hP
  have hD : va_D A [(h0, .inr (8, [.ref q101, .ref q102, .null, .null, .null, .null, .null, .null])), (q101, .inr (1, [.int 4, .int 4, .int 16])), (q102, .inr (5, [.ref q101, .ref q103, .ref q104, .int 2])), (q103, .inl (c1, 36, .inl (fun _ => 0))), (q104, .inl (c1, 36, .inl (fun _ => 0)))] := hD
  refine lv_aload_n hx hb dX8_init_30 rfl (lv_at hl 0 rfl) ?_
  refine va_new (ci := 2) (fs := [.null, .null]) (C := RX2) (T := TX2) (N := 2) hx hb hts hX2 tyX2 tyX2_ok hown (hts _ kw_98) (hts _ kw_99) (hts _ kw_29) hK hP hD hS hA rfl (fun j hj => by rcases (show j = 0 ∨ j = 1 by omega) with rfl | rfl <;> rfl) (Nat.le_of_ble_eq_true rfl) (Nat.le_of_ble_eq_true rfl) dX8_init_31 (fun q105 H hP hD hS => ?_)
  have hP : va_P D zm_classes [(h0, .inr (8, [.ref q101, .ref q102, .null, .null, .null, .null, .null, .null])), (q101, .inr (1, [.int 4, .int 4, .int 16])), (q102, .inr (5, [.ref q101, .ref q103, .ref q104, .int 2])), (q103, .inl (c1, 36, .inl (fun _ => 0))), (q104, .inl (c1, 36, .inl (fun _ => 0))), (q105, .inr (2, [.null, .null]))] H := hP
  have hD : va_D A [(h0, .inr (8, [.ref q101, .ref q102, .null, .null, .null, .null, .null, .null])), (q101, .inr (1, [.int 4, .int 4, .int 16])), (q102, .inr (5, [.ref q101, .ref q103, .ref q104, .int 2])), (q103, .inl (c1, 36, .inl (fun _ => 0))), (q104, .inl (c1, 36, .inl (fun _ => 0))), (q105, .inr (2, [.null, .null]))] := hD
  refine W.widen (k := 5) (n := 81) (by omega) (by omega) ?_
  refine lv_dup hx hb dX8_init_34 rfl ?_
  refine lv_aload_n hx hb dX8_init_35 rfl (lv_at hl 0 rfl) ?_
  refine va_get (D := D) (ci := 8) (v := .ref q101) (C := RX8) (T := TX8) (N := 8) hx hb hts hX8 hown hK hP 0 rfl rfl 0 (by decide) (hts _ kw_215) (fun _ h9 => h9) rfl dX8_init_36 ?_
  refine lv_aload_n hx hb dX8_init_39 rfl (lv_at hl 0 rfl) ?_
  refine va_get (D := D) (ci := 8) (v := .ref q102) (C := RX8) (T := TX8) (N := 8) hx hb hts hX8 hown hK hP 0 rfl rfl 1 (by decide) (hts _ kw_216) (fun _ h9 => h9) rfl dX8_init_40 ?_
  have hPc := hP.sub (ws' := [(q105, .inr (2, [.null, .null]))]) [5] rfl
  have hDc := hD.sub (ws' := [(q105, .inr (2, [.null, .null]))]) [5] (by decide) rfl
  have hFc := va_free (wc := [(q105, .inr (2, [.null, .null]))]) hD hS hA [5] rfl
  refine va_callv (va_runI (As := [.ref q101, .ref q102]) (rest := [.ref q105, .ref h0]) ⟨hx, hb, hml, hown, hts⟩ (kX2_init l D c1 c2 q105 q101 q102 H.size) (cwI 2 hts (zm_goodI kcX2) rfl rfl rfl (hts _ kw_29) (hts _ kw_100) (hts _ kw_101) rfl (by decide +kernel) ⟨Nat.le_of_ble_eq_true rfl, Nat.le_of_ble_eq_true rfl⟩) ⟨fun a U g mk q => by obtain ⟨q0, q1, qP, qK, qD⟩ := q; exact ⟨q0, q1, qP, va_K.moved (u := U) (U := U.calling g mk a) (Vm.Alike.refl U.vm) qK, qD⟩, fun U hU hW => ⟨rfl, by rw [hU], by rw [hU]; exact hPc, va_K.moved hW.alike hK, hDc.weaken (fun _ _ _ _ => trivial)⟩⟩ rfl rfl hl.1 rfl (lv_room (Nat.le_of_ble_eq_true rfl)) dX8_init_43 ⟨Nat.le_of_ble_eq_true rfl, Nat.le_of_ble_eq_true rfl⟩) hS (fun q _ h => hFc q h) hFc (fun u t H1 locs ht hvm hw hB hz1 hk1 hS => ?_)
  obtain ⟨hP1, hK1, hD1⟩ := hB
  rw [ht] at hP1
  obtain ⟨hP, hD⟩ := va_join (wr := [(h0, .inr (8, [.ref q101, .ref q102, .null, .null, .null, .null, .null, .null])), (q101, .inr (1, [.int 4, .int 4, .int 16])), (q102, .inr (5, [.ref q101, .ref q103, .ref q104, .int 2])), (q103, .inl (c1, 36, .inl (fun _ => 0))), (q104, .inl (c1, 36, .inl (fun _ => 0)))]) (w1 := [(q105, .inr (2, [.ref q101, .ref q102]))]) hP hD [5] [0, 1, 2, 3, 4] rfl rfl (by decide) (by decide) hk1 hFc hP1 hD1
  generalize H1 = H at hP hS ⊢
  have hP : va_P D zm_classes [(h0, .inr (8, [.ref q101, .ref q102, .null, .null, .null, .null, .null, .null])), (q101, .inr (1, [.int 4, .int 4, .int 16])), (q102, .inr (5, [.ref q101, .ref q103, .ref q104, .int 2])), (q103, .inl (c1, 36, .inl (fun _ => 0))), (q104, .inl (c1, 36, .inl (fun _ => 0))), (q105, .inr (2, [.ref q101, .ref q102]))] H := hP
  have hD : va_D A [(h0, .inr (8, [.ref q101, .ref q102, .null, .null, .null, .null, .null, .null])), (q101, .inr (1, [.int 4, .int 4, .int 16])), (q102, .inr (5, [.ref q101, .ref q103, .ref q104, .int 2])), (q103, .inl (c1, 36, .inl (fun _ => 0))), (q104, .inl (c1, 36, .inl (fun _ => 0))), (q105, .inr (2, [.ref q101, .ref q102]))] := hD
  refine W.widen (k := 5) (n := 81) (by omega) (by omega) ?_
  refine va_putF (D := D) (ci := 8) (v := .ref q105) (ty := tyX8 2) (C := RX8) (T := TX8) (N := 8) hx hb hts hX8 tyX8 tyX8_ok nmX8 hown hK hP hD hS 0 rfl rfl 2 (by decide) (hts _ kw_217) (fun _ h9 => h9) rfl hin rfl (tyX8_ok 2 (by decide)) rfl rfl (Nat.le_of_ble_eq_true rfl) dX8_init_46 (fun H locs hP hD hS => ?_)
  have hP : va_P D zm_classes [(h0, .inr (8, [.ref q101, .ref q102, .ref q105, .null, .null, .null, .null, .null])), (q101, .inr (1, [.int 4, .int 4, .int 16])), (q102, .inr (5, [.ref q101, .ref q103, .ref q104, .int 2])), (q103, .inl (c1, 36, .inl (fun _ => 0))), (q104, .inl (c1, 36, .inl (fun _ => 0))), (q105, .inr (2, [.ref q101, .ref q102]))] H := hP
  have hD : va_D A [(h0, .inr (8, [.ref q101, .ref q102, .ref q105, .null, .null, .null, .null, .null])), (q101, .inr (1, [.int 4, .int 4, .int 16])), (q102, .inr (5, [.ref q101, .ref q103, .ref q104, .int 2])), (q103, .inl (c1, 36, .inl (fun _ => 0))), (q104, .inl (c1, 36, .inl (fun _ => 0))), (q105, .inr (2, [.ref q101, .ref q102]))] := hD
  refine lv_aload_n hx hb dX8_init_49 rfl (lv_at hl 0 rfl) ?_
  refine va_new (ci := 4) (fs := [.null, .null, .null]) (C := RX4) (T := TX4) (N := 3) hx hb hts hX4 tyX4 tyX4_ok hown (hts _ kw_111) (hts _ kw_112) (hts _ kw_30) hK hP hD hS hA rfl (fun j hj => by rcases (show j = 0 ∨ j = 1 ∨ j = 2 by omega) with rfl | rfl | rfl <;> rfl) (Nat.le_of_ble_eq_true rfl) (Nat.le_of_ble_eq_true rfl) dX8_init_50 (fun q106 H hP hD hS => ?_)
  have hP : va_P D zm_classes [(h0, .inr (8, [.ref q101, .ref q102, .ref q105, .null, .null, .null, .null, .null])), (q101, .inr (1, [.int 4, .int 4, .int 16])), (q102, .inr (5, [.ref q101, .ref q103, .ref q104, .int 2])), (q103, .inl (c1, 36, .inl (fun _ => 0))), (q104, .inl (c1, 36, .inl (fun _ => 0))), (q105, .inr (2, [.ref q101, .ref q102])), (q106, .inr (4, [.null, .null, .null]))] H := hP
  have hD : va_D A [(h0, .inr (8, [.ref q101, .ref q102, .ref q105, .null, .null, .null, .null, .null])), (q101, .inr (1, [.int 4, .int 4, .int 16])), (q102, .inr (5, [.ref q101, .ref q103, .ref q104, .int 2])), (q103, .inl (c1, 36, .inl (fun _ => 0))), (q104, .inl (c1, 36, .inl (fun _ => 0))), (q105, .inr (2, [.ref q101, .ref q102])), (q106, .inr (4, [.null, .null, .null]))] := hD
  refine W.widen (k := 6) (n := 84) (by omega) (by omega) ?_
  refine lv_dup hx hb dX8_init_53 rfl ?_
  refine lv_aload_n hx hb dX8_init_54 rfl (lv_at hl 0 rfl) ?_
  refine va_get (D := D) (ci := 8) (v := .ref q101) (C := RX8) (T := TX8) (N := 8) hx hb hts hX8 hown hK hP 0 rfl rfl 0 (by decide) (hts _ kw_215) (fun _ h9 => h9) rfl dX8_init_55 ?_
  refine lv_aload_n hx hb dX8_init_58 rfl (lv_at hl 0 rfl) ?_
  refine va_get (D := D) (ci := 8) (v := .ref q102) (C := RX8) (T := TX8) (N := 8) hx hb hts hX8 hown hK hP 0 rfl rfl 1 (by decide) (hts _ kw_216) (fun _ h9 => h9) rfl dX8_init_59 ?_
  have hPc := hP.sub (ws' := [(q106, .inr (4, [.null, .null, .null]))]) [6] rfl
  have hDc := hD.sub (ws' := [(q106, .inr (4, [.null, .null, .null]))]) [6] (by decide) rfl
  have hFc := va_free (wc := [(q106, .inr (4, [.null, .null, .null]))]) hD hS hA [6] rfl
  refine va_callv (va_runI (As := [.ref q101, .ref q102]) (rest := [.ref q106, .ref h0]) ⟨hx, hb, hml, hown, hts⟩ (kX4_init l D c1 c2 q106 q101 q102 H.size) (cwI 2 hts (zm_goodI kcX4) rfl rfl rfl (hts _ kw_30) (hts _ kw_113) (hts _ kw_114) rfl (by decide +kernel) ⟨Nat.le_of_ble_eq_true rfl, Nat.le_of_ble_eq_true rfl⟩) ⟨fun a U g mk q => by obtain ⟨q0, q1, qP, qK, qD⟩ := q; exact ⟨q0, q1, qP, va_K.moved (u := U) (U := U.calling g mk a) (Vm.Alike.refl U.vm) qK, qD⟩, fun U hU hW => ⟨rfl, by rw [hU], by rw [hU]; exact hPc, va_K.moved hW.alike hK, hDc.weaken (fun _ _ _ _ => trivial)⟩⟩ rfl rfl hl.1 rfl (lv_room (Nat.le_of_ble_eq_true rfl)) dX8_init_62 ⟨Nat.le_of_ble_eq_true rfl, Nat.le_of_ble_eq_true rfl⟩) hS (fun q _ h => hFc q h) hFc (fun u t H1 locs ht hvm hw hB hz1 hk1 hS => ?_)
  obtain ⟨q107, hP1, hK1, hD1⟩ := hB
  rw [ht] at hP1
  obtain ⟨hP, hD⟩ := va_join (wr := [(h0, .inr (8, [.ref q101, .ref q102, .ref q105, .null, .null, .null, .null, .null])), (q101, .inr (1, [.int 4, .int 4, .int 16])), (q102, .inr (5, [.ref q101, .ref q103, .ref q104, .int 2])), (q103, .inl (c1, 36, .inl (fun _ => 0))), (q104, .inl (c1, 36, .inl (fun _ => 0))), (q105, .inr (2, [.ref q101, .ref q102]))]) (w1 := [(q106, .inr (4, [.ref q101, .ref q102, .ref q107])), (q107, .inl (c1, 4, .inl (fun _ => 0)))]) hP hD [6] [0, 1, 2, 3, 4, 5] rfl rfl (by decide) (by decide) hk1 hFc hP1 hD1
  generalize H1 = H at hP hS ⊢
  have hP : va_P D zm_classes [(h0, .inr (8, [.ref q101, .ref q102, .ref q105, .null, .null, .null, .null, .null])), (q101, .inr (1, [.int 4, .int 4, .int 16])), (q102, .inr (5, [.ref q101, .ref q103, .ref q104, .int 2])), (q103, .inl (c1, 36, .inl (fun _ => 0))), (q104, .inl (c1, 36, .inl (fun _ => 0))), (q105, .inr (2, [.ref q101, .ref q102])), (q106, .inr (4, [.ref q101, .ref q102, .ref q107])), (q107, .inl (c1, 4, .inl (fun _ => 0)))] H := hP
  have hD : va_D A [(h0, .inr (8, [.ref q101, .ref q102, .ref q105, .null, .null, .null, .null, .null])), (q101, .inr (1, [.int 4, .int 4, .int 16])), (q102, .inr (5, [.ref q101, .ref q103, .ref q104, .int 2])), (q103, .inl (c1, 36, .inl (fun _ => 0))), (q104, .inl (c1, 36, .inl (fun _ => 0))), (q105, .inr (2, [.ref q101, .ref q102])), (q106, .inr (4, [.ref q101, .ref q102, .ref q107])), (q107, .inl (c1, 4, .inl (fun _ => 0)))] := hD
  refine W.widen (k := 7) (n := 88) (by omega) (by omega) ?_
  refine va_putF (D := D) (ci := 8) (v := .ref q106) (ty := tyX8 3) (C := RX8) (T := TX8) (N := 8) hx hb hts hX8 tyX8 tyX8_ok nmX8 hown hK hP hD hS 0 rfl rfl 3 (by decide) (hts _ kw_218) (fun _ h9 => h9) rfl hin rfl (tyX8_ok 3 (by decide)) rfl rfl (Nat.le_of_ble_eq_true rfl) dX8_init_65 (fun H locs hP hD hS => ?_)
  have hP : va_P D zm_classes [(h0, .inr (8, [.ref q101, .ref q102, .ref q105, .ref q106, .null, .null, .null, .null])), (q101, .inr (1, [.int 4, .int 4, .int 16])), (q102, .inr (5, [.ref q101, .ref q103, .ref q104, .int 2])), (q103, .inl (c1, 36, .inl (fun _ => 0))), (q104, .inl (c1, 36, .inl (fun _ => 0))), (q105, .inr (2, [.ref q101, .ref q102])), (q106, .inr (4, [.ref q101, .ref q102, .ref q107])), (q107, .inl (c1, 4, .inl (fun _ => 0)))] H := hP
  have hD : va_D A [(h0, .inr (8, [.ref q101, .ref q102, .ref q105, .ref q106, .null, .null, .null, .null])), (q101, .inr (1, [.int 4, .int 4, .int 16])), (q102, .inr (5, [.ref q101, .ref q103, .ref q104, .int 2])), (q103, .inl (c1, 36, .inl (fun _ => 0))), (q104, .inl (c1, 36, .inl (fun _ => 0))), (q105, .inr (2, [.ref q101, .ref q102])), (q106, .inr (4, [.ref q101, .ref q102, .ref q107])), (q107, .inl (c1, 4, .inl (fun _ => 0)))] := hD
  refine lv_aload_n hx hb dX8_init_68 rfl (lv_at hl 0 rfl) ?_
  refine va_new (ci := 7) (fs := [.null, .null, .null, .null, .null, .null, .int 0]) (C := RX7) (T := TX7) (N := 7) hx hb hts hX7 tyX7 tyX7_ok hown (hts _ kw_127) (hts _ kw_128) (hts _ kw_31) hK hP hD hS hA rfl (fun j hj => by rcases (show j = 0 ∨ j = 1 ∨ j = 2 ∨ j = 3 ∨ j = 4 ∨ j = 5 ∨ j = 6 by omega) with rfl | rfl | rfl | rfl | rfl | rfl | rfl <;> rfl) (Nat.le_of_ble_eq_true rfl) (Nat.le_of_ble_eq_true rfl) dX8_init_69 (fun q108 H hP hD hS => ?_)
  have hP : va_P D zm_classes [(h0, .inr (8, [.ref q101, .ref q102, .ref q105, .ref q106, .null, .null, .null, .null])), (q101, .inr (1, [.int 4, .int 4, .int 16])), (q102, .inr (5, [.ref q101, .ref q103, .ref q104, .int 2])), (q103, .inl (c1, 36, .inl (fun _ => 0))), (q104, .inl (c1, 36, .inl (fun _ => 0))), (q105, .inr (2, [.ref q101, .ref q102])), (q106, .inr (4, [.ref q101, .ref q102, .ref q107])), (q107, .inl (c1, 4, .inl (fun _ => 0))), (q108, .inr (7, [.null, .null, .null, .null, .null, .null, .int 0]))] H := hP
  have hD : va_D A [(h0, .inr (8, [.ref q101, .ref q102, .ref q105, .ref q106, .null, .null, .null, .null])), (q101, .inr (1, [.int 4, .int 4, .int 16])), (q102, .inr (5, [.ref q101, .ref q103, .ref q104, .int 2])), (q103, .inl (c1, 36, .inl (fun _ => 0))), (q104, .inl (c1, 36, .inl (fun _ => 0))), (q105, .inr (2, [.ref q101, .ref q102])), (q106, .inr (4, [.ref q101, .ref q102, .ref q107])), (q107, .inl (c1, 4, .inl (fun _ => 0))), (q108, .inr (7, [.null, .null, .null, .null, .null, .null, .int 0]))] := hD
  refine W.widen (k := 8) (n := 95) (by omega) (by omega) ?_
  refine lv_dup hx hb dX8_init_72 rfl ?_
  refine lv_aload_n hx hb dX8_init_73 rfl (lv_at hl 0 rfl) ?_
  refine va_get (D := D) (ci := 8) (v := .ref q101) (C := RX8) (T := TX8) (N := 8) hx hb hts hX8 hown hK hP 0 rfl rfl 0 (by decide) (hts _ kw_215) (fun _ h9 => h9) rfl dX8_init_74 ?_
  refine lv_aload_n hx hb dX8_init_77 rfl (lv_at hl 0 rfl) ?_
  refine va_get (D := D) (ci := 8) (v := .ref q102) (C := RX8) (T := TX8) (N := 8) hx hb hts hX8 hown hK hP 0 rfl rfl 1 (by decide) (hts _ kw_216) (fun _ h9 => h9) rfl dX8_init_78 ?_
  have hPc := hP.sub (ws' := [(q108, .inr (7, [.null, .null, .null, .null, .null, .null, .int 0]))]) [8] rfl
  have hDc := hD.sub (ws' := [(q108, .inr (7, [.null, .null, .null, .null, .null, .null, .int 0]))]) [8] (by decide) rfl
  have hFc := va_free (wc := [(q108, .inr (7, [.null, .null, .null, .null, .null, .null, .int 0]))]) hD hS hA [8] rfl
  refine va_callv (va_runI (As := [.ref q101, .ref q102]) (rest := [.ref q108, .ref h0]) ⟨hx, hb, hml, hown, hts⟩ (kX7_init l D c1 c2 q108 q101 q102 H.size) (cwI 2 hts (zm_goodI kcX7) rfl rfl rfl (hts _ kw_31) (hts _ kw_129) (hts _ kw_130) rfl (by decide +kernel) ⟨Nat.le_of_ble_eq_true rfl, Nat.le_of_ble_eq_true rfl⟩) ⟨fun a U g mk q => by obtain ⟨q0, q1, qP, qK, qD⟩ := q; exact ⟨q0, q1, qP, va_K.moved (u := U) (U := U.calling g mk a) (Vm.Alike.refl U.vm) qK, qD⟩, fun U hU hW => ⟨rfl, by rw [hU], by rw [hU]; exact hPc, va_K.moved hW.alike hK, hDc.weaken (fun _ _ _ _ => trivial)⟩⟩ rfl rfl hl.1 rfl (lv_room (Nat.le_of_ble_eq_true rfl)) dX8_init_81 ⟨Nat.le_of_ble_eq_true rfl, Nat.le_of_ble_eq_true rfl⟩) hS (fun q _ h => hFc q h) hFc (fun u t H1 locs ht hvm hw hB hz1 hk1 hS => ?_)
  obtain ⟨q109, q110, q111, q112, f, hf, hP1, hK1, hD1⟩ := hB
  rw [ht] at hP1
  obtain ⟨hP, hD⟩ := va_join (wr := [(h0, .inr (8, [.ref q101, .ref q102, .ref q105, .ref q106, .null, .null, .null, .null])), (q101, .inr (1, [.int 4, .int 4, .int 16])), (q102, .inr (5, [.ref q101, .ref q103, .ref q104, .int 2])), (q103, .inl (c1, 36, .inl (fun _ => 0))), (q104, .inl (c1, 36, .inl (fun _ => 0))), (q105, .inr (2, [.ref q101, .ref q102])), (q106, .inr (4, [.ref q101, .ref q102, .ref q107])), (q107, .inl (c1, 4, .inl (fun _ => 0)))]) (w1 := [(q108, .inr (7, [.ref q101, .ref q102, .ref q109, .ref q110, .ref q111, .ref q112, .int 0])), (q109, .inl (c1, 4, .inl (fun _ => 0))), (q110, .inl (c1, 36, .inl f)), (q111, .inl (c1, 288, .inl (fun _ => 0))), (q112, .inl (c2, 288, .inl (fun _ => 0)))]) hP hD [8] [0, 1, 2, 3, 4, 5, 6, 7] rfl rfl (by decide) (by decide) hk1 hFc hP1 hD1
  generalize H1 = H at hP hS ⊢
  have hP : va_P D zm_classes [(h0, .inr (8, [.ref q101, .ref q102, .ref q105, .ref q106, .null, .null, .null, .null])), (q101, .inr (1, [.int 4, .int 4, .int 16])), (q102, .inr (5, [.ref q101, .ref q103, .ref q104, .int 2])), (q103, .inl (c1, 36, .inl (fun _ => 0))), (q104, .inl (c1, 36, .inl (fun _ => 0))), (q105, .inr (2, [.ref q101, .ref q102])), (q106, .inr (4, [.ref q101, .ref q102, .ref q107])), (q107, .inl (c1, 4, .inl (fun _ => 0))), (q108, .inr (7, [.ref q101, .ref q102, .ref q109, .ref q110, .ref q111, .ref q112, .int 0])), (q109, .inl (c1, 4, .inl (fun _ => 0))), (q110, .inl (c1, 36, .inl f)), (q111, .inl (c1, 288, .inl (fun _ => 0))), (q112, .inl (c2, 288, .inl (fun _ => 0)))] H := hP
  have hD : va_D A [(h0, .inr (8, [.ref q101, .ref q102, .ref q105, .ref q106, .null, .null, .null, .null])), (q101, .inr (1, [.int 4, .int 4, .int 16])), (q102, .inr (5, [.ref q101, .ref q103, .ref q104, .int 2])), (q103, .inl (c1, 36, .inl (fun _ => 0))), (q104, .inl (c1, 36, .inl (fun _ => 0))), (q105, .inr (2, [.ref q101, .ref q102])), (q106, .inr (4, [.ref q101, .ref q102, .ref q107])), (q107, .inl (c1, 4, .inl (fun _ => 0))), (q108, .inr (7, [.ref q101, .ref q102, .ref q109, .ref q110, .ref q111, .ref q112, .int 0])), (q109, .inl (c1, 4, .inl (fun _ => 0))), (q110, .inl (c1, 36, .inl f)), (q111, .inl (c1, 288, .inl (fun _ => 0))), (q112, .inl (c2, 288, .inl (fun _ => 0)))] := hD
  refine W.widen (k := 12) (n := 711) (by omega) (by omega) ?_
  refine va_putF (D := D) (ci := 8) (v := .ref q108) (ty := tyX8 4) (C := RX8) (T := TX8) (N := 8) hx hb hts hX8 tyX8 tyX8_ok nmX8 hown hK hP hD hS 0 rfl rfl 4 (by decide) (hts _ kw_219) (fun _ h9 => h9) rfl hin rfl (tyX8_ok 4 (by decide)) rfl rfl (Nat.le_of_ble_eq_true rfl) dX8_init_84 (fun H locs hP hD hS => ?_)
  have hP : va_P D zm_classes [(h0, .inr (8, [.ref q101, .ref q102, .ref q105, .ref q106, .ref q108, .null, .null, .null])), (q101, .inr (1, [.int 4, .int 4, .int 16])), (q102, .inr (5, [.ref q101, .ref q103, .ref q104, .int 2])), (q103, .inl (c1, 36, .inl (fun _ => 0))), (q104, .inl (c1, 36, .inl (fun _ => 0))), (q105, .inr (2, [.ref q101, .ref q102])), (q106, .inr (4, [.ref q101, .ref q102, .ref q107])), (q107, .inl (c1, 4, .inl (fun _ => 0))), (q108, .inr (7, [.ref q101, .ref q102, .ref q109, .ref q110, .ref q111, .ref q112, .int 0])), (q109, .inl (c1, 4, .inl (fun _ => 0))), (q110, .inl (c1, 36, .inl f)), (q111, .inl (c1, 288, .inl (fun _ => 0))), (q112, .inl (c2, 288, .inl (fun _ => 0)))] H := hP
  have hD : va_D A [(h0, .inr (8, [.ref q101, .ref q102, .ref q105, .ref q106, .ref q108, .null, .null, .null])), (q101, .inr (1, [.int 4, .int 4, .int 16])), (q102, .inr (5, [.ref q101, .ref q103, .ref q104, .int 2])), (q103, .inl (c1, 36, .inl (fun _ => 0))), (q104, .inl (c1, 36, .inl (fun _ => 0))), (q105, .inr (2, [.ref q101, .ref q102])), (q106, .inr (4, [.ref q101, .ref q102, .ref q107])), (q107, .inl (c1, 4, .inl (fun _ => 0))), (q108, .inr (7, [.ref q101, .ref q102, .ref q109, .ref q110, .ref q111, .ref q112, .int 0])), (q109, .inl (c1, 4, .inl (fun _ => 0))), (q110, .inl (c1, 36, .inl f)), (q111, .inl (c1, 288, .inl (fun _ => 0))), (q112, .inl (c2, 288, .inl (fun _ => 0)))] := hD
  refine lv_aload_n hx hb dX8_init_87 rfl (lv_at hl 0 rfl) ?_
  refine va_new (ci := 0) (fs := [.null, .null]) (C := RX0) (T := TX0) (N := 2) hx hb hts hX0 tyX0 tyX0_ok hown (hts _ kw_158) (hts _ kw_159) (hts _ kw_32) hK hP hD hS hA rfl (fun j hj => by rcases (show j = 0 ∨ j = 1 by omega) with rfl | rfl <;> rfl) (Nat.le_of_ble_eq_true rfl) (Nat.le_of_ble_eq_true rfl) dX8_init_88 (fun q113 H hP hD hS => ?_)
  have hP : va_P D zm_classes [(h0, .inr (8, [.ref q101, .ref q102, .ref q105, .ref q106, .ref q108, .null, .null, .null])), (q101, .inr (1, [.int 4, .int 4, .int 16])), (q102, .inr (5, [.ref q101, .ref q103, .ref q104, .int 2])), (q103, .inl (c1, 36, .inl (fun _ => 0))), (q104, .inl (c1, 36, .inl (fun _ => 0))), (q105, .inr (2, [.ref q101, .ref q102])), (q106, .inr (4, [.ref q101, .ref q102, .ref q107])), (q107, .inl (c1, 4, .inl (fun _ => 0))), (q108, .inr (7, [.ref q101, .ref q102, .ref q109, .ref q110, .ref q111, .ref q112, .int 0])), (q109, .inl (c1, 4, .inl (fun _ => 0))), (q110, .inl (c1, 36, .inl f)), (q111, .inl (c1, 288, .inl (fun _ => 0))), (q112, .inl (c2, 288, .inl (fun _ => 0))), (q113, .inr (0, [.null, .null]))] H := hP
  have hD : va_D A [(h0, .inr (8, [.ref q101, .ref q102, .ref q105, .ref q106, .ref q108, .null, .null, .null])), (q101, .inr (1, [.int 4, .int 4, .int 16])), (q102, .inr (5, [.ref q101, .ref q103, .ref q104, .int 2])), (q103, .inl (c1, 36, .inl (fun _ => 0))), (q104, .inl (c1, 36, .inl (fun _ => 0))), (q105, .inr (2, [.ref q101, .ref q102])), (q106, .inr (4, [.ref q101, .ref q102, .ref q107])), (q107, .inl (c1, 4, .inl (fun _ => 0))), (q108, .inr (7, [.ref q101, .ref q102, .ref q109, .ref q110, .ref q111, .ref q112, .int 0])), (q109, .inl (c1, 4, .inl (fun _ => 0))), (q110, .inl (c1, 36, .inl f)), (q111, .inl (c1, 288, .inl (fun _ => 0))), (q112, .inl (c2, 288, .inl (fun _ => 0))), (q113, .inr (0, [.null, .null]))] := hD
  refine W.widen (k := 13) (n := 713) (by omega) (by omega) ?_
  refine lv_dup hx hb dX8_init_91 rfl ?_
  refine lv_aload_n hx hb dX8_init_92 rfl (lv_at hl 0 rfl) ?_
  refine va_get (D := D) (ci := 8) (v := .ref q101) (C := RX8) (T := TX8) (N := 8) hx hb hts hX8 hown hK hP 0 rfl rfl 0 (by decide) (hts _ kw_215) (fun _ h9 => h9) rfl dX8_init_93 ?_
  have hPc := hP.sub (ws' := [(q113, .inr (0, [.null, .null]))]) [13] rfl
  have hDc := hD.sub (ws' := [(q113, .inr (0, [.null, .null]))]) [13] (by decide) rfl
  have hFc := va_free (wc := [(q113, .inr (0, [.null, .null]))]) hD hS hA [13] rfl
  refine va_callv (va_runI (As := [.ref q101]) (rest := [.ref q113, .ref h0]) ⟨hx, hb, hml, hown, hts⟩ (kX0_init l D c1 c2 q113 q101 H.size) (cwI 1 hts (zm_goodI kcX0) rfl rfl rfl (hts _ kw_32) (hts _ kw_160) (hts _ kw_161) rfl (by decide +kernel) ⟨Nat.le_of_ble_eq_true rfl, Nat.le_of_ble_eq_true rfl⟩) ⟨fun a U g mk q => by obtain ⟨q0, q1, qP, qK, qD⟩ := q; exact ⟨q0, q1, qP, va_K.moved (u := U) (U := U.calling g mk a) (Vm.Alike.refl U.vm) qK, qD⟩, fun U hU hW => ⟨rfl, by rw [hU], by rw [hU]; exact hPc, va_K.moved hW.alike hK, hDc.weaken (fun _ _ _ _ => trivial)⟩⟩ rfl rfl hl.1 rfl (lv_room (Nat.le_of_ble_eq_true rfl)) dX8_init_96 ⟨Nat.le_of_ble_eq_true rfl, Nat.le_of_ble_eq_true rfl⟩) hS (fun q _ h => hFc q h) hFc (fun u t H1 locs ht hvm hw hB hz1 hk1 hS => ?_)
  obtain ⟨q114, hP1, hK1, hD1⟩ := hB
  rw [ht] at hP1
  obtain ⟨hP, hD⟩ := va_join (wr := [(h0, .inr (8, [.ref q101, .ref q102, .ref q105, .ref q106, .ref q108, .null, .null, .null])), (q101, .inr (1, [.int 4, .int 4, .int 16])), (q102, .inr (5, [.ref q101, .ref q103, .ref q104, .int 2])), (q103, .inl (c1, 36, .inl (fun _ => 0))), (q104, .inl (c1, 36, .inl (fun _ => 0))), (q105, .inr (2, [.ref q101, .ref q102])), (q106, .inr (4, [.ref q101, .ref q102, .ref q107])), (q107, .inl (c1, 4, .inl (fun _ => 0))), (q108, .inr (7, [.ref q101, .ref q102, .ref q109, .ref q110, .ref q111, .ref q112, .int 0])), (q109, .inl (c1, 4, .inl (fun _ => 0))), (q110, .inl (c1, 36, .inl f)), (q111, .inl (c1, 288, .inl (fun _ => 0))), (q112, .inl (c2, 288, .inl (fun _ => 0)))]) (w1 := [(q113, .inr (0, [.ref q101, .ref q114])), (q114, .inl (c2, 36, .inl (fun _ => 0)))]) hP hD [13] [0, 1, 2, 3, 4, 5, 6, 7, 8, 9, 10, 11, 12] rfl rfl (by decide) (by decide) hk1 hFc hP1 hD1
  generalize H1 = H at hP hS ⊢
  have hP : va_P D zm_classes [(h0, .inr (8, [.ref q101, .ref q102, .ref q105, .ref q106, .ref q108, .null, .null, .null])), (q101, .inr (1, [.int 4, .int 4, .int 16])), (q102, .inr (5, [.ref q101, .ref q103, .ref q104, .int 2])), (q103, .inl (c1, 36, .inl (fun _ => 0))), (q104, .inl (c1, 36, .inl (fun _ => 0))), (q105, .inr (2, [.ref q101, .ref q102])), (q106, .inr (4, [.ref q101, .ref q102, .ref q107])), (q107, .inl (c1, 4, .inl (fun _ => 0))), (q108, .inr (7, [.ref q101, .ref q102, .ref q109, .ref q110, .ref q111, .ref q112, .int 0])), (q109, .inl (c1, 4, .inl (fun _ => 0))), (q110, .inl (c1, 36, .inl f)), (q111, .inl (c1, 288, .inl (fun _ => 0))), (q112, .inl (c2, 288, .inl (fun _ => 0))), (q113, .inr (0, [.ref q101, .ref q114])), (q114, .inl (c2, 36, .inl (fun _ => 0)))] H := hP
  have hD : va_D A [(h0, .inr (8, [.ref q101, .ref q102, .ref q105, .ref q106, .ref q108, .null, .null, .null])), (q101, .inr (1, [.int 4, .int 4, .int 16])), (q102, .inr (5, [.ref q101, .ref q103, .ref q104, .int 2])), (q103, .inl (c1, 36, .inl (fun _ => 0))), (q104, .inl (c1, 36, .inl (fun _ => 0))), (q105, .inr (2, [.ref q101, .ref q102])), (q106, .inr (4, [.ref q101, .ref q102, .ref q107])), (q107, .inl (c1, 4, .inl (fun _ => 0))), (q108, .inr (7, [.ref q101, .ref q102, .ref q109, .ref q110, .ref q111, .ref q112, .int 0])), (q109, .inl (c1, 4, .inl (fun _ => 0))), (q110, .inl (c1, 36, .inl f)), (q111, .inl (c1, 288, .inl (fun _ => 0))), (q112, .inl (c2, 288, .inl (fun _ => 0))), (q113, .inr (0, [.ref q101, .ref q114])), (q114, .inl (c2, 36, .inl (fun _ => 0)))] := hD
  refine W.widen (k := 14) (n := 749) (by omega) (by omega) ?_
  refine va_putF (D := D) (ci := 8) (v := .ref q113) (ty := tyX8 5) (C := RX8) (T := TX8) (N := 8) hx hb hts hX8 tyX8 tyX8_ok nmX8 hown hK hP hD hS 0 rfl rfl 5 (by decide) (hts _ kw_220) (fun _ h9 => h9) rfl hin rfl (tyX8_ok 5 (by decide)) rfl rfl (Nat.le_of_ble_eq_true rfl) dX8_init_99 (fun H locs hP hD hS => ?_)
  have hP : va_P D zm_classes [(h0, .inr (8, [.ref q101, .ref q102, .ref q105, .ref q106, .ref q108, .ref q113, .null, .null])), (q101, .inr (1, [.int 4, .int 4, .int 16])), (q102, .inr (5, [.ref q101, .ref q103, .ref q104, .int 2])), (q103, .inl (c1, 36, .inl (fun _ => 0))), (q104, .inl (c1, 36, .inl (fun _ => 0))), (q105, .inr (2, [.ref q101, .ref q102])), (q106, .inr (4, [.ref q101, .ref q102, .ref q107])), (q107, .inl (c1, 4, .inl (fun _ => 0))), (q108, .inr (7, [.ref q101, .ref q102, .ref q109, .ref q110, .ref q111, .ref q112, .int 0])), (q109, .inl (c1, 4, .inl (fun _ => 0))), (q110, .inl (c1, 36, .inl f)), (q111, .inl (c1, 288, .inl (fun _ => 0))), (q112, .inl (c2, 288, .inl (fun _ => 0))), (q113, .inr (0, [.ref q101, .ref q114])), (q114, .inl (c2, 36, .inl (fun _ => 0)))] H := hP
  have hD : va_D A [(h0, .inr (8, [.ref q101, .ref q102, .ref q105, .ref q106, .ref q108, .ref q113, .null, .null])), (q101, .inr (1, [.int 4, .int 4, .int 16])), (q102, .inr (5, [.ref q101, .ref q103, .ref q104, .int 2])), (q103, .inl (c1, 36, .inl (fun _ => 0))), (q104, .inl (c1, 36, .inl (fun _ => 0))), (q105, .inr (2, [.ref q101, .ref q102])), (q106, .inr (4, [.ref q101, .ref q102, .ref q107])), (q107, .inl (c1, 4, .inl (fun _ => 0))), (q108, .inr (7, [.ref q101, .ref q102, .ref q109, .ref q110, .ref q111, .ref q112, .int 0])), (q109, .inl (c1, 4, .inl (fun _ => 0))), (q110, .inl (c1, 36, .inl f)), (q111, .inl (c1, 288, .inl (fun _ => 0))), (q112, .inl (c2, 288, .inl (fun _ => 0))), (q113, .inr (0, [.ref q101, .ref q114])), (q114, .inl (c2, 36, .inl (fun _ => 0)))] := hD
  refine lv_aload_n hx hb dX8_init_102 rfl (lv_at hl 0 rfl) ?_
  refine va_new (ci := 3) (fs := [.null, .null]) (C := RX3) (T := TX3) (N := 2) hx hb hts hX3 tyX3 tyX3_ok hown (hts _ kw_171) (hts _ kw_172) (hts _ kw_33) hK hP hD hS hA rfl (fun j hj => by rcases (show j = 0 ∨ j = 1 by omega) with rfl | rfl <;> rfl) (Nat.le_of_ble_eq_true rfl) (Nat.le_of_ble_eq_true rfl) dX8_init_103 (fun q115 H hP hD hS => ?_)
  have hP : va_P D zm_classes [(h0, .inr (8, [.ref q101, .ref q102, .ref q105, .ref q106, .ref q108, .ref q113, .null, .null])), (q101, .inr (1, [.int 4, .int 4, .int 16])), (q102, .inr (5, [.ref q101, .ref q103, .ref q104, .int 2])), (q103, .inl (c1, 36, .inl (fun _ => 0))), (q104, .inl (c1, 36, .inl (fun _ => 0))), (q105, .inr (2, [.ref q101, .ref q102])), (q106, .inr (4, [.ref q101, .ref q102, .ref q107])), (q107, .inl (c1, 4, .inl (fun _ => 0))), (q108, .inr (7, [.ref q101, .ref q102, .ref q109, .ref q110, .ref q111, .ref q112, .int 0])), (q109, .inl (c1, 4, .inl (fun _ => 0))), (q110, .inl (c1, 36, .inl f)), (q111, .inl (c1, 288, .inl (fun _ => 0))), (q112, .inl (c2, 288, .inl (fun _ => 0))), (q113, .inr (0, [.ref q101, .ref q114])), (q114, .inl (c2, 36, .inl (fun _ => 0))), (q115, .inr (3, [.null, .null]))] H := hP
  have hD : va_D A [(h0, .inr (8, [.ref q101, .ref q102, .ref q105, .ref q106, .ref q108, .ref q113, .null, .null])), (q101, .inr (1, [.int 4, .int 4, .int 16])), (q102, .inr (5, [.ref q101, .ref q103, .ref q104, .int 2])), (q103, .inl (c1, 36, .inl (fun _ => 0))), (q104, .inl (c1, 36, .inl (fun _ => 0))), (q105, .inr (2, [.ref q101, .ref q102])), (q106, .inr (4, [.ref q101, .ref q102, .ref q107])), (q107, .inl (c1, 4, .inl (fun _ => 0))), (q108, .inr (7, [.ref q101, .ref q102, .ref q109, .ref q110, .ref q111, .ref q112, .int 0])), (q109, .inl (c1, 4, .inl (fun _ => 0))), (q110, .inl (c1, 36, .inl f)), (q111, .inl (c1, 288, .inl (fun _ => 0))), (q112, .inl (c2, 288, .inl (fun _ => 0))), (q113, .inr (0, [.ref q101, .ref q114])), (q114, .inl (c2, 36, .inl (fun _ => 0))), (q115, .inr (3, [.null, .null]))] := hD
  refine W.widen (k := 15) (n := 751) (by omega) (by omega) ?_
  refine lv_dup hx hb dX8_init_106 rfl ?_
  refine lv_aload_n hx hb dX8_init_107 rfl (lv_at hl 0 rfl) ?_
  refine va_get (D := D) (ci := 8) (v := .ref q101) (C := RX8) (T := TX8) (N := 8) hx hb hts hX8 hown hK hP 0 rfl rfl 0 (by decide) (hts _ kw_215) (fun _ h9 => h9) rfl dX8_init_108 ?_
  refine lv_aload_n hx hb dX8_init_111 rfl (lv_at hl 0 rfl) ?_
  refine va_get (D := D) (ci := 8) (v := .ref q102) (C := RX8) (T := TX8) (N := 8) hx hb hts hX8 hown hK hP 0 rfl rfl 1 (by decide) (hts _ kw_216) (fun _ h9 => h9) rfl dX8_init_112 ?_
  have hPc := hP.sub (ws' := [(q115, .inr (3, [.null, .null]))]) [15] rfl
  have hDc := hD.sub (ws' := [(q115, .inr (3, [.null, .null]))]) [15] (by decide) rfl
  have hFc := va_free (wc := [(q115, .inr (3, [.null, .null]))]) hD hS hA [15] rfl
  refine va_callv (va_runI (As := [.ref q101, .ref q102]) (rest := [.ref q115, .ref h0]) ⟨hx, hb, hml, hown, hts⟩ (kX3_init l D c1 c2 q115 q101 q102 H.size) (cwI 2 hts (zm_goodI kcX3) rfl rfl rfl (hts _ kw_33) (hts _ kw_173) (hts _ kw_174) rfl (by decide +kernel) ⟨Nat.le_of_ble_eq_true rfl, Nat.le_of_ble_eq_true rfl⟩) ⟨fun a U g mk q => by obtain ⟨q0, q1, qP, qK, qD⟩ := q; exact ⟨q0, q1, qP, va_K.moved (u := U) (U := U.calling g mk a) (Vm.Alike.refl U.vm) qK, qD⟩, fun U hU hW => ⟨rfl, by rw [hU], by rw [hU]; exact hPc, va_K.moved hW.alike hK, hDc.weaken (fun _ _ _ _ => trivial)⟩⟩ rfl rfl hl.1 rfl (lv_room (Nat.le_of_ble_eq_true rfl)) dX8_init_115 ⟨Nat.le_of_ble_eq_true rfl, Nat.le_of_ble_eq_true rfl⟩) hS (fun q _ h => hFc q h) hFc (fun u t H1 locs ht hvm hw hB hz1 hk1 hS => ?_)
  obtain ⟨hP1, hK1, hD1⟩ := hB
  rw [ht] at hP1
  obtain ⟨hP, hD⟩ := va_join (wr := [(h0, .inr (8, [.ref q101, .ref q102, .ref q105, .ref q106, .ref q108, .ref q113, .null, .null])), (q101, .inr (1, [.int 4, .int 4, .int 16])), (q102, .inr (5, [.ref q101, .ref q103, .ref q104, .int 2])), (q103, .inl (c1, 36, .inl (fun _ => 0))), (q104, .inl (c1, 36, .inl (fun _ => 0))), (q105, .inr (2, [.ref q101, .ref q102])), (q106, .inr (4, [.ref q101, .ref q102, .ref q107])), (q107, .inl (c1, 4, .inl (fun _ => 0))), (q108, .inr (7, [.ref q101, .ref q102, .ref q109, .ref q110, .ref q111, .ref q112, .int 0])), (q109, .inl (c1, 4, .inl (fun _ => 0))), (q110, .inl (c1, 36, .inl f)), (q111, .inl (c1, 288, .inl (fun _ => 0))), (q112, .inl (c2, 288, .inl (fun _ => 0))), (q113, .inr (0, [.ref q101, .ref q114])), (q114, .inl (c2, 36, .inl (fun _ => 0)))]) (w1 := [(q115, .inr (3, [.ref q101, .ref q102]))]) hP hD [15] [0, 1, 2, 3, 4, 5, 6, 7, 8, 9, 10, 11, 12, 13, 14] rfl rfl (by decide) (by decide) hk1 hFc hP1 hD1
  generalize H1 = H at hP hS ⊢
  have hP : va_P D zm_classes [(h0, .inr (8, [.ref q101, .ref q102, .ref q105, .ref q106, .ref q108, .ref q113, .null, .null])), (q101, .inr (1, [.int 4, .int 4, .int 16])), (q102, .inr (5, [.ref q101, .ref q103, .ref q104, .int 2])), (q103, .inl (c1, 36, .inl (fun _ => 0))), (q104, .inl (c1, 36, .inl (fun _ => 0))), (q105, .inr (2, [.ref q101, .ref q102])), (q106, .inr (4, [.ref q101, .ref q102, .ref q107])), (q107, .inl (c1, 4, .inl (fun _ => 0))), (q108, .inr (7, [.ref q101, .ref q102, .ref q109, .ref q110, .ref q111, .ref q112, .int 0])), (q109, .inl (c1, 4, .inl (fun _ => 0))), (q110, .inl (c1, 36, .inl f)), (q111, .inl (c1, 288, .inl (fun _ => 0))), (q112, .inl (c2, 288, .inl (fun _ => 0))), (q113, .inr (0, [.ref q101, .ref q114])), (q114, .inl (c2, 36, .inl (fun _ => 0))), (q115, .inr (3, [.ref q101, .ref q102]))] H := hP
  have hD : va_D A [(h0, .inr (8, [.ref q101, .ref q102, .ref q105, .ref q106, .ref q108, .ref q113, .null, .null])), (q101, .inr (1, [.int 4, .int 4, .int 16])), (q102, .inr (5, [.ref q101, .ref q103, .ref q104, .int 2])), (q103, .inl (c1, 36, .inl (fun _ => 0))), (q104, .inl (c1, 36, .inl (fun _ => 0))), (q105, .inr (2, [.ref q101, .ref q102])), (q106, .inr (4, [.ref q101, .ref q102, .ref q107])), (q107, .inl (c1, 4, .inl (fun _ => 0))), (q108, .inr (7, [.ref q101, .ref q102, .ref q109, .ref q110, .ref q111, .ref q112, .int 0])), (q109, .inl (c1, 4, .inl (fun _ => 0))), (q110, .inl (c1, 36, .inl f)), (q111, .inl (c1, 288, .inl (fun _ => 0))), (q112, .inl (c2, 288, .inl (fun _ => 0))), (q113, .inr (0, [.ref q101, .ref q114])), (q114, .inl (c2, 36, .inl (fun _ => 0))), (q115, .inr (3, [.ref q101, .ref q102]))] := hD
  refine W.widen (k := 15) (n := 751) (by omega) (by omega) ?_
  refine va_putF (D := D) (ci := 8) (v := .ref q115) (ty := tyX8 6) (C := RX8) (T := TX8) (N := 8) hx hb hts hX8 tyX8 tyX8_ok nmX8 hown hK hP hD hS 0 rfl rfl 6 (by decide) (hts _ kw_221) (fun _ h9 => h9) rfl hin rfl (tyX8_ok 6 (by decide)) rfl rfl (Nat.le_of_ble_eq_true rfl) dX8_init_118 (fun H locs hP hD hS => ?_)
  have hP : va_P D zm_classes [(h0, .inr (8, [.ref q101, .ref q102, .ref q105, .ref q106, .ref q108, .ref q113, .ref q115, .null])), (q101, .inr (1, [.int 4, .int 4, .int 16])), (q102, .inr (5, [.ref q101, .ref q103, .ref q104, .int 2])), (q103, .inl (c1, 36, .inl (fun _ => 0))), (q104, .inl (c1, 36, .inl (fun _ => 0))), (q105, .inr (2, [.ref q101, .ref q102])), (q106, .inr (4, [.ref q101, .ref q102, .ref q107])), (q107, .inl (c1, 4, .inl (fun _ => 0))), (q108, .inr (7, [.ref q101, .ref q102, .ref q109, .ref q110, .ref q111, .ref q112, .int 0])), (q109, .inl (c1, 4, .inl (fun _ => 0))), (q110, .inl (c1, 36, .inl f)), (q111, .inl (c1, 288, .inl (fun _ => 0))), (q112, .inl (c2, 288, .inl (fun _ => 0))), (q113, .inr (0, [.ref q101, .ref q114])), (q114, .inl (c2, 36, .inl (fun _ => 0))), (q115, .inr (3, [.ref q101, .ref q102]))] H := hP
  have hD : va_D A [(h0, .inr (8, [.ref q101, .ref q102, .ref q105, .ref q106, .ref q108, .ref q113, .ref q115, .null])), (q101, .inr (1, [.int 4, .int 4, .int 16])), (q102, .inr (5, [.ref q101, .ref q103, .ref q104, .int 2])), (q103, .inl (c1, 36, .inl (fun _ => 0))), (q104, .inl (c1, 36, .inl (fun _ => 0))), (q105, .inr (2, [.ref q101, .ref q102])), (q106, .inr (4, [.ref q101, .ref q102, .ref q107])), (q107, .inl (c1, 4, .inl (fun _ => 0))), (q108, .inr (7, [.ref q101, .ref q102, .ref q109, .ref q110, .ref q111, .ref q112, .int 0])), (q109, .inl (c1, 4, .inl (fun _ => 0))), (q110, .inl (c1, 36, .inl f)), (q111, .inl (c1, 288, .inl (fun _ => 0))), (q112, .inl (c2, 288, .inl (fun _ => 0))), (q113, .inr (0, [.ref q101, .ref q114])), (q114, .inl (c2, 36, .inl (fun _ => 0))), (q115, .inr (3, [.ref q101, .ref q102]))] := hD
  refine lv_aload_n hx hb dX8_init_121 rfl (lv_at hl 0 rfl) ?_
  refine va_new (ci := 6) (fs := [.null, .null, .null, .null, .null, .null, .int 0, .int 0]) (C := RX6) (T := TX6) (N := 8) hx hb hts hX6 tyX6 tyX6_ok hown (hts _ kw_184) (hts _ kw_185) (hts _ kw_34) hK hP hD hS hA rfl (fun j hj => by rcases (show j = 0 ∨ j = 1 ∨ j = 2 ∨ j = 3 ∨ j = 4 ∨ j = 5 ∨ j = 6 ∨ j = 7 by omega) with rfl | rfl | rfl | rfl | rfl | rfl | rfl | rfl <;> rfl) (Nat.le_of_ble_eq_true rfl) (Nat.le_of_ble_eq_true rfl) dX8_init_122 (fun q116 H hP hD hS => ?_)
  have hP : va_P D zm_classes [(h0, .inr (8, [.ref q101, .ref q102, .ref q105, .ref q106, .ref q108, .ref q113, .ref q115, .null])), (q101, .inr (1, [.int 4, .int 4, .int 16])), (q102, .inr (5, [.ref q101, .ref q103, .ref q104, .int 2])), (q103, .inl (c1, 36, .inl (fun _ => 0))), (q104, .inl (c1, 36, .inl (fun _ => 0))), (q105, .inr (2, [.ref q101, .ref q102])), (q106, .inr (4, [.ref q101, .ref q102, .ref q107])), (q107, .inl (c1, 4, .inl (fun _ => 0))), (q108, .inr (7, [.ref q101, .ref q102, .ref q109, .ref q110, .ref q111, .ref q112, .int 0])), (q109, .inl (c1, 4, .inl (fun _ => 0))), (q110, .inl (c1, 36, .inl f)), (q111, .inl (c1, 288, .inl (fun _ => 0))), (q112, .inl (c2, 288, .inl (fun _ => 0))), (q113, .inr (0, [.ref q101, .ref q114])), (q114, .inl (c2, 36, .inl (fun _ => 0))), (q115, .inr (3, [.ref q101, .ref q102])), (q116, .inr (6, [.null, .null, .null, .null, .null, .null, .int 0, .int 0]))] H := hP
  have hD : va_D A [(h0, .inr (8, [.ref q101, .ref q102, .ref q105, .ref q106, .ref q108, .ref q113, .ref q115, .null])), (q101, .inr (1, [.int 4, .int 4, .int 16])), (q102, .inr (5, [.ref q101, .ref q103, .ref q104, .int 2])), (q103, .inl (c1, 36, .inl (fun _ => 0))), (q104, .inl (c1, 36, .inl (fun _ => 0))), (q105, .inr (2, [.ref q101, .ref q102])), (q106, .inr (4, [.ref q101, .ref q102, .ref q107])), (q107, .inl (c1, 4, .inl (fun _ => 0))), (q108, .inr (7, [.ref q101, .ref q102, .ref q109, .ref q110, .ref q111, .ref q112, .int 0])), (q109, .inl (c1, 4, .inl (fun _ => 0))), (q110, .inl (c1, 36, .inl f)), (q111, .inl (c1, 288, .inl (fun _ => 0))), (q112, .inl (c2, 288, .inl (fun _ => 0))), (q113, .inr (0, [.ref q101, .ref q114])), (q114, .inl (c2, 36, .inl (fun _ => 0))), (q115, .inr (3, [.ref q101, .ref q102])), (q116, .inr (6, [.null, .null, .null, .null, .null, .null, .int 0, .int 0]))] := hD
  refine W.widen (k := 16) (n := 759) (by omega) (by omega) ?_
  refine lv_dup hx hb dX8_init_125 rfl ?_
  refine lv_aload_n hx hb dX8_init_126 rfl (lv_at hl 0 rfl) ?_
  refine va_get (D := D) (ci := 8) (v := .ref q101) (C := RX8) (T := TX8) (N := 8) hx hb hts hX8 hown hK hP 0 rfl rfl 0 (by decide) (hts _ kw_215) (fun _ h9 => h9) rfl dX8_init_127 ?_
  refine lv_aload_n hx hb dX8_init_130 rfl (lv_at hl 0 rfl) ?_
  refine va_get (D := D) (ci := 8) (v := .ref q102) (C := RX8) (T := TX8) (N := 8) hx hb hts hX8 hown hK hP 0 rfl rfl 1 (by decide) (hts _ kw_216) (fun _ h9 => h9) rfl dX8_init_131 ?_
  have hPc := hP.sub (ws' := [(q116, .inr (6, [.null, .null, .null, .null, .null, .null, .int 0, .int 0]))]) [16] rfl
  have hDc := hD.sub (ws' := [(q116, .inr (6, [.null, .null, .null, .null, .null, .null, .int 0, .int 0]))]) [16] (by decide) rfl
  have hFc := va_free (wc := [(q116, .inr (6, [.null, .null, .null, .null, .null, .null, .int 0, .int 0]))]) hD hS hA [16] rfl
  refine va_callv (va_runI (As := [.ref q101, .ref q102]) (rest := [.ref q116, .ref h0]) ⟨hx, hb, hml, hown, hts⟩ (kX6_init l D c1 c2 q116 q101 q102 H.size) (cwI 2 hts (zm_goodI kcX6) rfl rfl rfl (hts _ kw_34) (hts _ kw_186) (hts _ kw_187) rfl (by decide +kernel) ⟨Nat.le_of_ble_eq_true rfl, Nat.le_of_ble_eq_true rfl⟩) ⟨fun a U g mk q => by obtain ⟨q0, q1, qP, qK, qD⟩ := q; exact ⟨q0, q1, qP, va_K.moved (u := U) (U := U.calling g mk a) (Vm.Alike.refl U.vm) qK, qD⟩, fun U hU hW => ⟨rfl, by rw [hU], by rw [hU]; exact hPc, va_K.moved hW.alike hK, hDc.weaken (fun _ _ _ _ => trivial)⟩⟩ rfl rfl hl.1 rfl (lv_room (Nat.le_of_ble_eq_true rfl)) dX8_init_134 ⟨Nat.le_of_ble_eq_true rfl, Nat.le_of_ble_eq_true rfl⟩) hS (fun q _ h => hFc q h) hFc (fun u t H1 locs ht hvm hw hB hz1 hk1 hS => ?_)
  obtain ⟨q117, q118, q119, q120, hP1, hK1, hD1⟩ := hB
  rw [ht] at hP1
  obtain ⟨hP, hD⟩ := va_join (wr := [(h0, .inr (8, [.ref q101, .ref q102, .ref q105, .ref q106, .ref q108, .ref q113, .ref q115, .null])), (q101, .inr (1, [.int 4, .int 4, .int 16])), (q102, .inr (5, [.ref q101, .ref q103, .ref q104, .int 2])), (q103, .inl (c1, 36, .inl (fun _ => 0))), (q104, .inl (c1, 36, .inl (fun _ => 0))), (q105, .inr (2, [.ref q101, .ref q102])), (q106, .inr (4, [.ref q101, .ref q102, .ref q107])), (q107, .inl (c1, 4, .inl (fun _ => 0))), (q108, .inr (7, [.ref q101, .ref q102, .ref q109, .ref q110, .ref q111, .ref q112, .int 0])), (q109, .inl (c1, 4, .inl (fun _ => 0))), (q110, .inl (c1, 36, .inl f)), (q111, .inl (c1, 288, .inl (fun _ => 0))), (q112, .inl (c2, 288, .inl (fun _ => 0))), (q113, .inr (0, [.ref q101, .ref q114])), (q114, .inl (c2, 36, .inl (fun _ => 0))), (q115, .inr (3, [.ref q101, .ref q102]))]) (w1 := [(q116, .inr (6, [.ref q101, .ref q102, .ref q117, .ref q118, .ref q119, .ref q120, .int 0, .int 0])), (q117, .inl (c1, 36, .inl (fun _ => 0))), (q118, .inl (c2, 36, .inl (fun _ => 0))), (q119, .inl (c1, 36, .inl (fun _ => 0))), (q120, .inl (c1, 36, .inl (fun _ => 0)))]) hP hD [16] [0, 1, 2, 3, 4, 5, 6, 7, 8, 9, 10, 11, 12, 13, 14, 15] rfl rfl (by decide) (by decide) hk1 hFc hP1 hD1
  generalize H1 = H at hP hS ⊢
  have hP : va_P D zm_classes [(h0, .inr (8, [.ref q101, .ref q102, .ref q105, .ref q106, .ref q108, .ref q113, .ref q115, .null])), (q101, .inr (1, [.int 4, .int 4, .int 16])), (q102, .inr (5, [.ref q101, .ref q103, .ref q104, .int 2])), (q103, .inl (c1, 36, .inl (fun _ => 0))), (q104, .inl (c1, 36, .inl (fun _ => 0))), (q105, .inr (2, [.ref q101, .ref q102])), (q106, .inr (4, [.ref q101, .ref q102, .ref q107])), (q107, .inl (c1, 4, .inl (fun _ => 0))), (q108, .inr (7, [.ref q101, .ref q102, .ref q109, .ref q110, .ref q111, .ref q112, .int 0])), (q109, .inl (c1, 4, .inl (fun _ => 0))), (q110, .inl (c1, 36, .inl f)), (q111, .inl (c1, 288, .inl (fun _ => 0))), (q112, .inl (c2, 288, .inl (fun _ => 0))), (q113, .inr (0, [.ref q101, .ref q114])), (q114, .inl (c2, 36, .inl (fun _ => 0))), (q115, .inr (3, [.ref q101, .ref q102])), (q116, .inr (6, [.ref q101, .ref q102, .ref q117, .ref q118, .ref q119, .ref q120, .int 0, .int 0])), (q117, .inl (c1, 36, .inl (fun _ => 0))), (q118, .inl (c2, 36, .inl (fun _ => 0))), (q119, .inl (c1, 36, .inl (fun _ => 0))), (q120, .inl (c1, 36, .inl (fun _ => 0)))] H := hP
  have hD : va_D A [(h0, .inr (8, [.ref q101, .ref q102, .ref q105, .ref q106, .ref q108, .ref q113, .ref q115, .null])), (q101, .inr (1, [.int 4, .int 4, .int 16])), (q102, .inr (5, [.ref q101, .ref q103, .ref q104, .int 2])), (q103, .inl (c1, 36, .inl (fun _ => 0))), (q104, .inl (c1, 36, .inl (fun _ => 0))), (q105, .inr (2, [.ref q101, .ref q102])), (q106, .inr (4, [.ref q101, .ref q102, .ref q107])), (q107, .inl (c1, 4, .inl (fun _ => 0))), (q108, .inr (7, [.ref q101, .ref q102, .ref q109, .ref q110, .ref q111, .ref q112, .int 0])), (q109, .inl (c1, 4, .inl (fun _ => 0))), (q110, .inl (c1, 36, .inl f)), (q111, .inl (c1, 288, .inl (fun _ => 0))), (q112, .inl (c2, 288, .inl (fun _ => 0))), (q113, .inr (0, [.ref q101, .ref q114])), (q114, .inl (c2, 36, .inl (fun _ => 0))), (q115, .inr (3, [.ref q101, .ref q102])), (q116, .inr (6, [.ref q101, .ref q102, .ref q117, .ref q118, .ref q119, .ref q120, .int 0, .int 0])), (q117, .inl (c1, 36, .inl (fun _ => 0))), (q118, .inl (c2, 36, .inl (fun _ => 0))), (q119, .inl (c1, 36, .inl (fun _ => 0))), (q120, .inl (c1, 36, .inl (fun _ => 0)))] := hD
  refine W.widen (k := 20) (n := 903) (by omega) (by omega) ?_
  refine va_putF (D := D) (ci := 8) (v := .ref q116) (ty := tyX8 7) (C := RX8) (T := TX8) (N := 8) hx hb hts hX8 tyX8 tyX8_ok nmX8 hown hK hP hD hS 0 rfl rfl 7 (by decide) (hts _ kw_222) (fun _ h9 => h9) rfl hin rfl (tyX8_ok 7 (by decide)) rfl rfl (Nat.le_of_ble_eq_true rfl) dX8_init_137 (fun H locs hP hD hS => ?_)
  have hP : va_P D zm_classes [(h0, .inr (8, [.ref q101, .ref q102, .ref q105, .ref q106, .ref q108, .ref q113, .ref q115, .ref q116])), (q101, .inr (1, [.int 4, .int 4, .int 16])), (q102, .inr (5, [.ref q101, .ref q103, .ref q104, .int 2])), (q103, .inl (c1, 36, .inl (fun _ => 0))), (q104, .inl (c1, 36, .inl (fun _ => 0))), (q105, .inr (2, [.ref q101, .ref q102])), (q106, .inr (4, [.ref q101, .ref q102, .ref q107])), (q107, .inl (c1, 4, .inl (fun _ => 0))), (q108, .inr (7, [.ref q101, .ref q102, .ref q109, .ref q110, .ref q111, .ref q112, .int 0])), (q109, .inl (c1, 4, .inl (fun _ => 0))), (q110, .inl (c1, 36, .inl f)), (q111, .inl (c1, 288, .inl (fun _ => 0))), (q112, .inl (c2, 288, .inl (fun _ => 0))), (q113, .inr (0, [.ref q101, .ref q114])), (q114, .inl (c2, 36, .inl (fun _ => 0))), (q115, .inr (3, [.ref q101, .ref q102])), (q116, .inr (6, [.ref q101, .ref q102, .ref q117, .ref q118, .ref q119, .ref q120, .int 0, .int 0])), (q117, .inl (c1, 36, .inl (fun _ => 0))), (q118, .inl (c2, 36, .inl (fun _ => 0))), (q119, .inl (c1, 36, .inl (fun _ => 0))), (q120, .inl (c1, 36, .inl (fun _ => 0)))] H := hP
  have hD : va_D A [(h0, .inr (8, [.ref q101, .ref q102, .ref q105, .ref q106, .ref q108, .ref q113, .ref q115, .ref q116])), (q101, .inr (1, [.int 4, .int 4, .int 16])), (q102, .inr (5, [.ref q101, .ref q103, .ref q104, .int 2])), (q103, .inl (c1, 36, .inl (fun _ => 0))), (q104, .inl (c1, 36, .inl (fun _ => 0))), (q105, .inr (2, [.ref q101, .ref q102])), (q106, .inr (4, [.ref q101, .ref q102, .ref q107])), (q107, .inl (c1, 4, .inl (fun _ => 0))), (q108, .inr (7, [.ref q101, .ref q102, .ref q109, .ref q110, .ref q111, .ref q112, .int 0])), (q109, .inl (c1, 4, .inl (fun _ => 0))), (q110, .inl (c1, 36, .inl f)), (q111, .inl (c1, 288, .inl (fun _ => 0))), (q112, .inl (c2, 288, .inl (fun _ => 0))), (q113, .inr (0, [.ref q101, .ref q114])), (q114, .inl (c2, 36, .inl (fun _ => 0))), (q115, .inr (3, [.ref q101, .ref q102])), (q116, .inr (6, [.ref q101, .ref q102, .ref q117, .ref q118, .ref q119, .ref q120, .int 0, .int 0])), (q117, .inl (c1, 36, .inl (fun _ => 0))), (q118, .inl (c2, 36, .inl (fun _ => 0))), (q119, .inl (c1, 36, .inl (fun _ => 0))), (q120, .inl (c1, 36, .inl (fun _ => 0)))] := hD
  have hP9 := hP.sub (ws' := [(h0, .inr (8, [.ref q101, .ref q102, .ref q105, .ref q106, .ref q108, .ref q113, .ref q115, .ref q116])), (q101, .inr (1, [.int 4, .int 4, .int 16])), (q102, .inr (5, [.ref q101, .ref q103, .ref q104, .int 2])), (q103, .inl (c1, 36, .inl (fun _ => 0))), (q104, .inl (c1, 36, .inl (fun _ => 0))), (q105, .inr (2, [.ref q101, .ref q102])), (q106, .inr (4, [.ref q101, .ref q102, .ref q107])), (q107, .inl (c1, 4, .inl (fun _ => 0))), (q108, .inr (7, [.ref q101, .ref q102, .ref q109, .ref q110, .ref q111, .ref q112, .int 0])), (q109, .inl (c1, 4, .inl (fun _ => 0))), (q110, .inl (c1, 36, .inl f)), (q111, .inl (c1, 288, .inl (fun _ => 0))), (q112, .inl (c2, 288, .inl (fun _ => 0))), (q113, .inr (0, [.ref q101, .ref q114])), (q114, .inl (c2, 36, .inl (fun _ => 0))), (q115, .inr (3, [.ref q101, .ref q102])), (q116, .inr (6, [.ref q101, .ref q102, .ref q117, .ref q118, .ref q119, .ref q120, .int 0, .int 0])), (q117, .inl (c1, 36, .inl (fun _ => 0))), (q118, .inl (c2, 36, .inl (fun _ => 0))), (q119, .inl (c1, 36, .inl (fun _ => 0))), (q120, .inl (c1, 36, .inl (fun _ => 0)))]) [0, 1, 2, 3, 4, 5, 6, 7, 8, 9, 10, 11, 12, 13, 14, 15, 16, 17, 18, 19, 20] rfl
  have hD9 := hD.sub (ws' := [(h0, .inr (8, [.ref q101, .ref q102, .ref q105, .ref q106, .ref q108, .ref q113, .ref q115, .ref q116])), (q101, .inr (1, [.int 4, .int 4, .int 16])), (q102, .inr (5, [.ref q101, .ref q103, .ref q104, .int 2])), (q103, .inl (c1, 36, .inl (fun _ => 0))), (q104, .inl (c1, 36, .inl (fun _ => 0))), (q105, .inr (2, [.ref q101, .ref q102])), (q106, .inr (4, [.ref q101, .ref q102, .ref q107])), (q107, .inl (c1, 4, .inl (fun _ => 0))), (q108, .inr (7, [.ref q101, .ref q102, .ref q109, .ref q110, .ref q111, .ref q112, .int 0])), (q109, .inl (c1, 4, .inl (fun _ => 0))), (q110, .inl (c1, 36, .inl f)), (q111, .inl (c1, 288, .inl (fun _ => 0))), (q112, .inl (c2, 288, .inl (fun _ => 0))), (q113, .inr (0, [.ref q101, .ref q114])), (q114, .inl (c2, 36, .inl (fun _ => 0))), (q115, .inr (3, [.ref q101, .ref q102])), (q116, .inr (6, [.ref q101, .ref q102, .ref q117, .ref q118, .ref q119, .ref q120, .int 0, .int 0])), (q117, .inl (c1, 36, .inl (fun _ => 0))), (q118, .inl (c2, 36, .inl (fun _ => 0))), (q119, .inl (c1, 36, .inl (fun _ => 0))), (q120, .inl (c1, 36, .inl (fun _ => 0)))]) [0, 1, 2, 3, 4, 5, 6, 7, 8, 9, 10, 11, 12, 13, 14, 15, 16, 17, 18, 19, 20] (by decide) rfl
  exact W.vret hx hb hr (fun t ht hW => ⟨⟨(), rfl, trivial, q101, q102, q103, q104, q105, q106, q107, q108, q109, q110, q111, q112, q113, q114, q115, q116, q117, q118, q119, q120, f, hf, by rw [ht]; exact hP9, va_K.moved hW.alike hK, hD9⟩, hS.F ht⟩) hS.2.2 dX8_init_140
