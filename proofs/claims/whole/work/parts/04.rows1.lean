/-! ROWS: an instruction each -/
theorem Ok.iconst {Sg : Nat → List Sh} {T u : Nat} {F : MI} {pc pc' : Nat} {ls : List (Option PV)} {st : List PV} {h : Hp} {Post : Int → Hp → Prop} {n : Int} (hn : inR n) (hd : decode F.2.2.1 pc = .ok (.iconst n, 1)) (hp : pc + 1 = pc') (k : Ok Sg T u F pc' ls (pI n :: st) h Post) : Ok Sg T u F pc ls (st) h Post := by
  intro p l e R s m args below meth c D cI cQ A ad H locs LS Qc free C Wd L cs hf hq
  subst hp
  have K := k p l e R s m args below meth c D cI cQ A ad H locs LS Qc free C Wd L (List.forall_mem_cons.mpr ⟨hn, cs⟩) hf hq
  exact lv_iconst C.1 C.2.1 hd rfl K

theorem Ok.bipush {Sg : Nat → List Sh} {T u : Nat} {F : MI} {pc pc' : Nat} {ls : List (Option PV)} {st : List PV} {h : Hp} {Post : Int → Hp → Prop} {n : Int} (hn : -128 ≤ n ∧ n < 128) (hd : decode F.2.2.1 pc = .ok (.bipush n, 2)) (hp : pc + 2 = pc') (k : Ok Sg T u F pc' ls (pI n :: st) h Post) : Ok Sg T u F pc ls (st) h Post := by
  intro p l e R s m args below meth c D cI cQ A ad H locs LS Qc free C Wd L cs hf hq
  subst hp
  have K := k p l e R s m args below meth c D cI cQ A ad H locs LS Qc free C Wd L (List.forall_mem_cons.mpr ⟨by unfold cnV inR; show _ ∧ _; omega, cs⟩) hf hq
  exact lv_bipush C.1 C.2.1 hd (by rw [Int8.toInt32_ofInt (by have := hn.1; exact this) (by have := hn.2; show n ≤ 127; omega)]) K

theorem Ok.sipush {Sg : Nat → List Sh} {T u : Nat} {F : MI} {pc pc' : Nat} {ls : List (Option PV)} {st : List PV} {h : Hp} {Post : Int → Hp → Prop} {n : Int} (hn : -32768 ≤ n ∧ n < 32768) (hd : decode F.2.2.1 pc = .ok (.sipush n, 3)) (hp : pc + 3 = pc') (k : Ok Sg T u F pc' ls (pI n :: st) h Post) : Ok Sg T u F pc ls (st) h Post := by
  intro p l e R s m args below meth c D cI cQ A ad H locs LS Qc free C Wd L cs hf hq
  subst hp
  have K := k p l e R s m args below meth c D cI cQ A ad H locs LS Qc free C Wd L (List.forall_mem_cons.mpr ⟨by unfold cnV inR; show _ ∧ _; omega, cs⟩) hf hq
  exact lv_sipush C.1 C.2.1 hd (by rw [Int16.toInt32_ofInt (by have := hn.1; exact this) (by have := hn.2; show n ≤ 32767; omega)]) K

theorem Ok.ldc {Sg : Nat → List Sh} {T u : Nat} {F : MI} {pc pc' : Nat} {ls : List (Option PV)} {st : List PV} {h : Hp} {Post : Int → Hp → Prop} {n : Int} {idx : Nat} {v : Int32} (hn : inR n) (hw : Cond.constant F.1 idx v ∈ lw_u) (hv : i32 n = v) (hd : decode F.2.2.1 pc = .ok (.ldc idx, 2)) (hp : pc + 2 = pc') (k : Ok Sg T u F pc' ls (pI n :: st) h Post) : Ok Sg T u F pc ls (st) h Post := by
  intro p l e R s m args below meth c D cI cQ A ad H locs LS Qc free C Wd L cs hf hq
  subst hp
  have K := k p l e R s m args below meth c D cI cQ A ad H locs LS Qc free C Wd L (List.forall_mem_cons.mpr ⟨hn, cs⟩) hf hq
  exact (by subst hv; exact lv_ldc C.1 C.2.1 C.2.2.2.2.1 (C.2.2.2.2.2.1 _ hw) hd K)

theorem Ok.ldc2 {Sg : Nat → List Sh} {T u : Nat} {F : MI} {pc pc' : Nat} {ls : List (Option PV)} {st : List PV} {h : Hp} {Post : Int → Hp → Prop} {n : Int} {idx : Nat} (hn : inL n) (hw : Cond.constantLong F.1 idx (i64 n) ∈ lw_u) (hd : decode F.2.2.1 pc = .ok (.ldc2_w idx, 3)) (hp : pc + 3 = pc') (k : Ok Sg T u F pc' ls (pL n :: st) h Post) : Ok Sg T u F pc ls (st) h Post := by
  intro p l e R s m args below meth c D cI cQ A ad H locs LS Qc free C Wd L cs hf hq
  subst hp
  have K := k p l e R s m args below meth c D cI cQ A ad H locs LS Qc free C Wd L (List.forall_mem_cons.mpr ⟨hn, cs⟩) hf hq
  exact lv_ldc2 C.1 C.2.1 C.2.2.2.2.1 (C.2.2.2.2.2.1 _ hw) hd K

theorem Ok.lconst {Sg : Nat → List Sh} {T u : Nat} {F : MI} {pc pc' : Nat} {ls : List (Option PV)} {st : List PV} {h : Hp} {Post : Int → Hp → Prop} {n : Int} {q : Fin 2} (hn : inL n) (hq0 : Int64.ofNat (q : Nat) = i64 n) (hd : decode F.2.2.1 pc = .ok (.lconst q, 1)) (hp : pc + 1 = pc') (k : Ok Sg T u F pc' ls (pL n :: st) h Post) : Ok Sg T u F pc ls (st) h Post := by
  intro p l e R s m args below meth c D cI cQ A ad H locs LS Qc free C Wd L cs hf hq
  subst hp
  have K := k p l e R s m args below meth c D cI cQ A ad H locs LS Qc free C Wd L (List.forall_mem_cons.mpr ⟨hn, cs⟩) hf hq
  exact lv_lconst C.1 C.2.1 hd hq0 K

theorem Ok.iload_n {Sg : Nat → List Sh} {T u : Nat} {F : MI} {pc pc' : Nat} {ls : List (Option PV)} {st : List PV} {h : Hp} {Post : Int → Hp → Prop} {i : Fin 4} {z : Int} (hl : ls[(i : Nat)]? = some (some (pI z))) (hd : decode F.2.2.1 pc = .ok (.iload_n i, 1)) (hp : pc + 1 = pc') (k : Ok Sg T u F pc' ls (pI z :: st) h Post) : Ok Sg T u F pc ls (st) h Post := by
  intro p l e R s m args below meth c D cI cQ A ad H locs LS Qc free C Wd L cs hf hq
  subst hp
  have K := k p l e R s m args below meth c D cI cQ A ad H locs LS Qc free C Wd L (List.forall_mem_cons.mpr ⟨L.cn hl, cs⟩) hf hq
  exact lv_iload_n C.1 C.2.1 hd rfl (L.at hl) K

theorem Ok.iload {Sg : Nat → List Sh} {T u : Nat} {F : MI} {pc pc' : Nat} {ls : List (Option PV)} {st : List PV} {h : Hp} {Post : Int → Hp → Prop} {i : Nat} {z : Int} (hl : ls[i]? = some (some (pI z))) (hd : decode F.2.2.1 pc = .ok (.iload i, 2)) (hp : pc + 2 = pc') (k : Ok Sg T u F pc' ls (pI z :: st) h Post) : Ok Sg T u F pc ls (st) h Post := by
  intro p l e R s m args below meth c D cI cQ A ad H locs LS Qc free C Wd L cs hf hq
  subst hp
  have K := k p l e R s m args below meth c D cI cQ A ad H locs LS Qc free C Wd L (List.forall_mem_cons.mpr ⟨L.cn hl, cs⟩) hf hq
  exact lv_iload C.1 C.2.1 hd (L.at hl) K

theorem Ok.aload_n {Sg : Nat → List Sh} {T u : Nat} {F : MI} {pc pc' : Nat} {ls : List (Option PV)} {st : List PV} {h : Hp} {Post : Int → Hp → Prop} {i : Fin 4} {z : Nat} (hl : ls[(i : Nat)]? = some (some (pR z))) (hd : decode F.2.2.1 pc = .ok (.aload_n i, 1)) (hp : pc + 1 = pc') (k : Ok Sg T u F pc' ls (pR z :: st) h Post) : Ok Sg T u F pc ls (st) h Post := by
  intro p l e R s m args below meth c D cI cQ A ad H locs LS Qc free C Wd L cs hf hq
  subst hp
  have K := k p l e R s m args below meth c D cI cQ A ad H locs LS Qc free C Wd L (List.forall_mem_cons.mpr ⟨trivial, cs⟩) hf hq
  exact lv_aload_n C.1 C.2.1 hd rfl (L.at hl) K

theorem Ok.aload {Sg : Nat → List Sh} {T u : Nat} {F : MI} {pc pc' : Nat} {ls : List (Option PV)} {st : List PV} {h : Hp} {Post : Int → Hp → Prop} {i z : Nat} (hl : ls[i]? = some (some (pR z))) (hd : decode F.2.2.1 pc = .ok (.aload i, 2)) (hp : pc + 2 = pc') (k : Ok Sg T u F pc' ls (pR z :: st) h Post) : Ok Sg T u F pc ls (st) h Post := by
  intro p l e R s m args below meth c D cI cQ A ad H locs LS Qc free C Wd L cs hf hq
  subst hp
  have K := k p l e R s m args below meth c D cI cQ A ad H locs LS Qc free C Wd L (List.forall_mem_cons.mpr ⟨trivial, cs⟩) hf hq
  exact lv_aload C.1 C.2.1 hd (L.at hl) K

theorem Ok.lload_n {Sg : Nat → List Sh} {T u : Nat} {F : MI} {pc pc' : Nat} {ls : List (Option PV)} {st : List PV} {h : Hp} {Post : Int → Hp → Prop} {i : Fin 4} {z : Int} (hl : ls[(i : Nat)]? = some (some (pL z))) (hd : decode F.2.2.1 pc = .ok (.lload_n i, 1)) (hp : pc + 1 = pc') (k : Ok Sg T u F pc' ls (pL z :: st) h Post) : Ok Sg T u F pc ls (st) h Post := by
  intro p l e R s m args below meth c D cI cQ A ad H locs LS Qc free C Wd L cs hf hq
  subst hp
  have K := k p l e R s m args below meth c D cI cQ A ad H locs LS Qc free C Wd L (List.forall_mem_cons.mpr ⟨L.cn hl, cs⟩) hf hq
  exact lv_lload_n C.1 C.2.1 hd rfl (L.at hl) K

theorem Ok.lload {Sg : Nat → List Sh} {T u : Nat} {F : MI} {pc pc' : Nat} {ls : List (Option PV)} {st : List PV} {h : Hp} {Post : Int → Hp → Prop} {i : Nat} {z : Int} (hl : ls[i]? = some (some (pL z))) (hd : decode F.2.2.1 pc = .ok (.lload i, 2)) (hp : pc + 2 = pc') (k : Ok Sg T u F pc' ls (pL z :: st) h Post) : Ok Sg T u F pc ls (st) h Post := by
  intro p l e R s m args below meth c D cI cQ A ad H locs LS Qc free C Wd L cs hf hq
  subst hp
  have K := k p l e R s m args below meth c D cI cQ A ad H locs LS Qc free C Wd L (List.forall_mem_cons.mpr ⟨L.cn hl, cs⟩) hf hq
  exact lv_lload C.1 C.2.1 hd (L.at hl) K

theorem Ok.istore_n {Sg : Nat → List Sh} {T u : Nat} {F : MI} {pc pc' : Nat} {ls ls' : List (Option PV)} {st : List PV} {h : Hp} {Post : Int → Hp → Prop} {i : Fin 4} {z : Int} (hd : decode F.2.2.1 pc = .ok (.istore_n i, 1)) (hp : pc + 1 = pc') (hi : (i : Nat) < F.2.2.2.1) (hn : ls.all nl = true) (he : ls.set (i : Nat) (some (pI z)) = ls') (k : Ok Sg T u F pc' ls' (st) h Post) : Ok Sg T u F pc ls (pI z :: st) h Post := by
  intro p l e R s m args below meth c D cI cQ A ad H locs LS Qc free C Wd L cs hf hq
  subst hp
  exact lv_istore_n C.1 C.2.1 hd rfl L.1 hi rfl (fun LS' L' => k p l e R s m args below meth c D cI cQ A ad H locs LS' Qc free C Wd (LVs.set L.2 (cs _ List.mem_cons_self) hn he L') (fun v hv => cs v (List.mem_cons_of_mem _ hv)) hf hq)

theorem Ok.istore {Sg : Nat → List Sh} {T u : Nat} {F : MI} {pc pc' : Nat} {ls ls' : List (Option PV)} {st : List PV} {h : Hp} {Post : Int → Hp → Prop} {i : Nat} {z : Int} (hd : decode F.2.2.1 pc = .ok (.istore i, 2)) (hp : pc + 2 = pc') (hi : i < F.2.2.2.1) (hn : ls.all nl = true) (he : ls.set i (some (pI z)) = ls') (k : Ok Sg T u F pc' ls' (st) h Post) : Ok Sg T u F pc ls (pI z :: st) h Post := by
  intro p l e R s m args below meth c D cI cQ A ad H locs LS Qc free C Wd L cs hf hq
  subst hp
  exact lv_istore C.1 C.2.1 hd L.1 hi rfl (fun LS' L' => k p l e R s m args below meth c D cI cQ A ad H locs LS' Qc free C Wd (LVs.set L.2 (cs _ List.mem_cons_self) hn he L') (fun v hv => cs v (List.mem_cons_of_mem _ hv)) hf hq)

theorem Ok.astore_n {Sg : Nat → List Sh} {T u : Nat} {F : MI} {pc pc' : Nat} {ls ls' : List (Option PV)} {st : List PV} {h : Hp} {Post : Int → Hp → Prop} {i : Fin 4} {z : Nat} (hd : decode F.2.2.1 pc = .ok (.astore_n i, 1)) (hp : pc + 1 = pc') (hi : (i : Nat) < F.2.2.2.1) (hn : ls.all nl = true) (he : ls.set (i : Nat) (some (pR z)) = ls') (k : Ok Sg T u F pc' ls' (st) h Post) : Ok Sg T u F pc ls (pR z :: st) h Post := by
  intro p l e R s m args below meth c D cI cQ A ad H locs LS Qc free C Wd L cs hf hq
  subst hp
  exact lv_astore_n C.1 C.2.1 hd rfl L.1 hi rfl (fun LS' L' => k p l e R s m args below meth c D cI cQ A ad H locs LS' Qc free C Wd (LVs.set L.2 (cs _ List.mem_cons_self) hn he L') (fun v hv => cs v (List.mem_cons_of_mem _ hv)) hf hq)

theorem Ok.astore {Sg : Nat → List Sh} {T u : Nat} {F : MI} {pc pc' : Nat} {ls ls' : List (Option PV)} {st : List PV} {h : Hp} {Post : Int → Hp → Prop} {i z : Nat} (hd : decode F.2.2.1 pc = .ok (.astore i, 2)) (hp : pc + 2 = pc') (hi : i < F.2.2.2.1) (hn : ls.all nl = true) (he : ls.set i (some (pR z)) = ls') (k : Ok Sg T u F pc' ls' (st) h Post) : Ok Sg T u F pc ls (pR z :: st) h Post := by
  intro p l e R s m args below meth c D cI cQ A ad H locs LS Qc free C Wd L cs hf hq
  subst hp
  exact lv_astore C.1 C.2.1 hd L.1 hi rfl (fun LS' L' => k p l e R s m args below meth c D cI cQ A ad H locs LS' Qc free C Wd (LVs.set L.2 (cs _ List.mem_cons_self) hn he L') (fun v hv => cs v (List.mem_cons_of_mem _ hv)) hf hq)

theorem Ok.iinc {Sg : Nat → List Sh} {T u : Nat} {F : MI} {pc pc' : Nat} {ls ls' : List (Option PV)} {st : List PV} {h : Hp} {Post : Int → Hp → Prop} {i : Nat} {z n : Int} (hd : decode F.2.2.1 pc = .ok (.iinc i n, 3)) (hp : pc + 3 = pc') (hl : ls[i]? = some (some (pI z))) (hi : i < F.2.2.2.1) (hn : ls.all nl = true) (he : ls.set i (some (pI (z + n))) = ls') (hr : inR (z + n)) (k : Ok Sg T u F pc' ls' (st) h Post) : Ok Sg T u F pc ls (st) h Post := by
  intro p l e R s m args below meth c D cI cQ A ad H locs LS Qc free C Wd L cs hf hq
  subst hp
  have hm : (i, (Value.int (i32 z))) ∈ lvl ad ls := lvl_mem.mpr ⟨pI z, hl, rfl⟩
  obtain ⟨q, hqq⟩ := List.getElem?_of_mem hm
  exact lv_iinc (v := i32 (z + n)) C.1 C.2.1 hd L.1 hqq (by rw [← Int32.ofInt_add]) hi rfl (fun LS' L' => k p l e R s m args below meth c D cI cQ A ad H locs LS' Qc free C Wd (LVs.set (v := pI (z + n)) L.2 hr hn he L') cs hf hq)

theorem Ok.iadd {Sg : Nat → List Sh} {T u : Nat} {F : MI} {pc pc' : Nat} {ls : List (Option PV)} {st : List PV} {h : Hp} {Post : Int → Hp → Prop} {x y : Int} (hd : decode F.2.2.1 pc = .ok (.iadd, 1)) (hp : pc + 1 = pc') (hr : inR (x + y)) (k : Ok Sg T u F pc' ls (pI (x + y) :: st) h Post) : Ok Sg T u F pc ls (pI y :: pI x :: st) h Post := by
  intro p l e R s m args below meth c D cI cQ A ad H locs LS Qc free C Wd L cs hf hq
  subst hp
  have cs' := List.forall_mem_cons.mp (List.forall_mem_cons.mp cs).2
  have K := k p l e R s m args below meth c D cI cQ A ad H locs LS Qc free C Wd L (List.forall_mem_cons.mpr ⟨hr, cs'.2⟩) hf hq
  refine lv_iadd C.1 C.2.1 hd ?_
  rw [← Int32.ofInt_add]
  exact K

theorem Ok.iaddw {Sg : Nat → List Sh} {T u : Nat} {F : MI} {pc pc' : Nat} {ls : List (Option PV)} {st : List PV} {h : Hp} {Post : Int → Hp → Prop} {x y : Int} (hd : decode F.2.2.1 pc = .ok (.iadd, 1)) (hp : pc + 1 = pc') (k : Ok Sg T u F pc' ls (pI (wr (x + y)) :: st) h Post) : Ok Sg T u F pc ls (pI y :: pI x :: st) h Post := by
  intro p l e R s m args below meth c D cI cQ A ad H locs LS Qc free C Wd L cs hf hq
  subst hp
  have cs' := List.forall_mem_cons.mp (List.forall_mem_cons.mp cs).2
  have K := k p l e R s m args below meth c D cI cQ A ad H locs LS Qc free C Wd L (List.forall_mem_cons.mpr ⟨wr_in _, cs'.2⟩) hf hq
  refine lv_iadd C.1 C.2.1 hd ?_
  rw [show Int32.ofInt x + Int32.ofInt y = Int32.ofInt (wr (x + y)) from by rw [← Int32.ofInt_add]; exact (i32_wr _).symm]
  exact K

theorem Ok.isub {Sg : Nat → List Sh} {T u : Nat} {F : MI} {pc pc' : Nat} {ls : List (Option PV)} {st : List PV} {h : Hp} {Post : Int → Hp → Prop} {x y : Int} (hd : decode F.2.2.1 pc = .ok (.isub, 1)) (hp : pc + 1 = pc') (hr : inR (x - y)) (k : Ok Sg T u F pc' ls (pI (x - y) :: st) h Post) : Ok Sg T u F pc ls (pI y :: pI x :: st) h Post := by
  intro p l e R s m args below meth c D cI cQ A ad H locs LS Qc free C Wd L cs hf hq
  subst hp
  have cs' := List.forall_mem_cons.mp (List.forall_mem_cons.mp cs).2
  have K := k p l e R s m args below meth c D cI cQ A ad H locs LS Qc free C Wd L (List.forall_mem_cons.mpr ⟨hr, cs'.2⟩) hf hq
  refine lv_isub C.1 C.2.1 hd ?_
  rw [← Int32.ofInt_sub]
  exact K

theorem Ok.isubw {Sg : Nat → List Sh} {T u : Nat} {F : MI} {pc pc' : Nat} {ls : List (Option PV)} {st : List PV} {h : Hp} {Post : Int → Hp → Prop} {x y : Int} (hd : decode F.2.2.1 pc = .ok (.isub, 1)) (hp : pc + 1 = pc') (k : Ok Sg T u F pc' ls (pI (wr (x - y)) :: st) h Post) : Ok Sg T u F pc ls (pI y :: pI x :: st) h Post := by
  intro p l e R s m args below meth c D cI cQ A ad H locs LS Qc free C Wd L cs hf hq
  subst hp
  have cs' := List.forall_mem_cons.mp (List.forall_mem_cons.mp cs).2
  have K := k p l e R s m args below meth c D cI cQ A ad H locs LS Qc free C Wd L (List.forall_mem_cons.mpr ⟨wr_in _, cs'.2⟩) hf hq
  refine lv_isub C.1 C.2.1 hd ?_
  rw [show Int32.ofInt x - Int32.ofInt y = Int32.ofInt (wr (x - y)) from by rw [← Int32.ofInt_sub]; exact (i32_wr _).symm]
  exact K

theorem Ok.imul {Sg : Nat → List Sh} {T u : Nat} {F : MI} {pc pc' : Nat} {ls : List (Option PV)} {st : List PV} {h : Hp} {Post : Int → Hp → Prop} {x y : Int} (hd : decode F.2.2.1 pc = .ok (.imul, 1)) (hp : pc + 1 = pc') (hr : inR (x * y)) (k : Ok Sg T u F pc' ls (pI (x * y) :: st) h Post) : Ok Sg T u F pc ls (pI y :: pI x :: st) h Post := by
  intro p l e R s m args below meth c D cI cQ A ad H locs LS Qc free C Wd L cs hf hq
  subst hp
  have cs' := List.forall_mem_cons.mp (List.forall_mem_cons.mp cs).2
  have K := k p l e R s m args below meth c D cI cQ A ad H locs LS Qc free C Wd L (List.forall_mem_cons.mpr ⟨hr, cs'.2⟩) hf hq
  refine lv_imul C.1 C.2.1 hd ?_
  rw [← Int32.ofInt_mul]
  exact K

theorem Ok.imulw {Sg : Nat → List Sh} {T u : Nat} {F : MI} {pc pc' : Nat} {ls : List (Option PV)} {st : List PV} {h : Hp} {Post : Int → Hp → Prop} {x y : Int} (hd : decode F.2.2.1 pc = .ok (.imul, 1)) (hp : pc + 1 = pc') (k : Ok Sg T u F pc' ls (pI (wr (x * y)) :: st) h Post) : Ok Sg T u F pc ls (pI y :: pI x :: st) h Post := by
  intro p l e R s m args below meth c D cI cQ A ad H locs LS Qc free C Wd L cs hf hq
  subst hp
  have cs' := List.forall_mem_cons.mp (List.forall_mem_cons.mp cs).2
  have K := k p l e R s m args below meth c D cI cQ A ad H locs LS Qc free C Wd L (List.forall_mem_cons.mpr ⟨wr_in _, cs'.2⟩) hf hq
  refine lv_imul C.1 C.2.1 hd ?_
  rw [show Int32.ofInt x * Int32.ofInt y = Int32.ofInt (wr (x * y)) from by rw [← Int32.ofInt_mul]; exact (i32_wr _).symm]
  exact K

def b_iand (x y : Int) : Int := (i32 x &&& i32 y).toInt

theorem Ok.iand {Sg : Nat → List Sh} {T u : Nat} {F : MI} {pc pc' : Nat} {ls : List (Option PV)} {st : List PV} {h : Hp} {Post : Int → Hp → Prop} {x y : Int} (hd : decode F.2.2.1 pc = .ok (.iand, 1)) (hp : pc + 1 = pc') (k : Ok Sg T u F pc' ls (pI (b_iand x y) :: st) h Post) : Ok Sg T u F pc ls (pI y :: pI x :: st) h Post := by
  intro p l e R s m args below meth c D cI cQ A ad H locs LS Qc free C Wd L cs hf hq
  subst hp
  have cs' := List.forall_mem_cons.mp (List.forall_mem_cons.mp cs).2
  have hr : inR (b_iand x y) := by
    have h1 := Int32.le_toInt (i32 x &&& i32 y)
    have h2 := Int32.toInt_lt (i32 x &&& i32 y)
    unfold inR b_iand
    omega
  have K := k p l e R s m args below meth c D cI cQ A ad H locs LS Qc free C Wd L (List.forall_mem_cons.mpr ⟨hr, cs'.2⟩) hf hq
  refine lv_iand C.1 C.2.1 hd ?_
  have he : i32 (b_iand x y) = i32 x &&& i32 y := Int32.ofInt_toInt _
  rw [← he]
  exact K

def b_ior (x y : Int) : Int := (i32 x ||| i32 y).toInt

theorem Ok.ior {Sg : Nat → List Sh} {T u : Nat} {F : MI} {pc pc' : Nat} {ls : List (Option PV)} {st : List PV} {h : Hp} {Post : Int → Hp → Prop} {x y : Int} (hd : decode F.2.2.1 pc = .ok (.ior, 1)) (hp : pc + 1 = pc') (k : Ok Sg T u F pc' ls (pI (b_ior x y) :: st) h Post) : Ok Sg T u F pc ls (pI y :: pI x :: st) h Post := by
  intro p l e R s m args below meth c D cI cQ A ad H locs LS Qc free C Wd L cs hf hq
  subst hp
  have cs' := List.forall_mem_cons.mp (List.forall_mem_cons.mp cs).2
  have hr : inR (b_ior x y) := by
    have h1 := Int32.le_toInt (i32 x ||| i32 y)
    have h2 := Int32.toInt_lt (i32 x ||| i32 y)
    unfold inR b_ior
    omega
  have K := k p l e R s m args below meth c D cI cQ A ad H locs LS Qc free C Wd L (List.forall_mem_cons.mpr ⟨hr, cs'.2⟩) hf hq
  refine lv_ior C.1 C.2.1 hd ?_
  have he : i32 (b_ior x y) = i32 x ||| i32 y := Int32.ofInt_toInt _
  rw [← he]
  exact K

def b_ixor (x y : Int) : Int := (i32 x ^^^ i32 y).toInt

theorem Ok.ixor {Sg : Nat → List Sh} {T u : Nat} {F : MI} {pc pc' : Nat} {ls : List (Option PV)} {st : List PV} {h : Hp} {Post : Int → Hp → Prop} {x y : Int} (hd : decode F.2.2.1 pc = .ok (.ixor, 1)) (hp : pc + 1 = pc') (k : Ok Sg T u F pc' ls (pI (b_ixor x y) :: st) h Post) : Ok Sg T u F pc ls (pI y :: pI x :: st) h Post := by
  intro p l e R s m args below meth c D cI cQ A ad H locs LS Qc free C Wd L cs hf hq
  subst hp
  have cs' := List.forall_mem_cons.mp (List.forall_mem_cons.mp cs).2
  have hr : inR (b_ixor x y) := by
    have h1 := Int32.le_toInt (i32 x ^^^ i32 y)
    have h2 := Int32.toInt_lt (i32 x ^^^ i32 y)
    unfold inR b_ixor
    omega
  have K := k p l e R s m args below meth c D cI cQ A ad H locs LS Qc free C Wd L (List.forall_mem_cons.mpr ⟨hr, cs'.2⟩) hf hq
  refine lv_ixor C.1 C.2.1 hd ?_
  have he : i32 (b_ixor x y) = i32 x ^^^ i32 y := Int32.ofInt_toInt _
  rw [← he]
  exact K

def b_ishl (x y : Int) : Int := (i32 x <<< (i32 y &&& 31)).toInt

theorem Ok.ishl {Sg : Nat → List Sh} {T u : Nat} {F : MI} {pc pc' : Nat} {ls : List (Option PV)} {st : List PV} {h : Hp} {Post : Int → Hp → Prop} {x y : Int} (hd : decode F.2.2.1 pc = .ok (.ishl, 1)) (hp : pc + 1 = pc') (k : Ok Sg T u F pc' ls (pI (b_ishl x y) :: st) h Post) : Ok Sg T u F pc ls (pI y :: pI x :: st) h Post := by
  intro p l e R s m args below meth c D cI cQ A ad H locs LS Qc free C Wd L cs hf hq
  subst hp
  have cs' := List.forall_mem_cons.mp (List.forall_mem_cons.mp cs).2
  have hr : inR (b_ishl x y) := by
    have h1 := Int32.le_toInt (i32 x <<< (i32 y &&& 31))
    have h2 := Int32.toInt_lt (i32 x <<< (i32 y &&& 31))
    unfold inR b_ishl
    omega
  have K := k p l e R s m args below meth c D cI cQ A ad H locs LS Qc free C Wd L (List.forall_mem_cons.mpr ⟨hr, cs'.2⟩) hf hq
  refine lv_ishl C.1 C.2.1 hd ?_
  have he : i32 (b_ishl x y) = i32 x <<< (i32 y &&& 31) := Int32.ofInt_toInt _
  rw [← he]
  exact K

def b_ishr (x y : Int) : Int := (i32 x >>> (i32 y &&& 31)).toInt

theorem Ok.ishr {Sg : Nat → List Sh} {T u : Nat} {F : MI} {pc pc' : Nat} {ls : List (Option PV)} {st : List PV} {h : Hp} {Post : Int → Hp → Prop} {x y : Int} (hd : decode F.2.2.1 pc = .ok (.ishr, 1)) (hp : pc + 1 = pc') (k : Ok Sg T u F pc' ls (pI (b_ishr x y) :: st) h Post) : Ok Sg T u F pc ls (pI y :: pI x :: st) h Post := by
  intro p l e R s m args below meth c D cI cQ A ad H locs LS Qc free C Wd L cs hf hq
  subst hp
  have cs' := List.forall_mem_cons.mp (List.forall_mem_cons.mp cs).2
  have hr : inR (b_ishr x y) := by
    have h1 := Int32.le_toInt (i32 x >>> (i32 y &&& 31))
    have h2 := Int32.toInt_lt (i32 x >>> (i32 y &&& 31))
    unfold inR b_ishr
    omega
  have K := k p l e R s m args below meth c D cI cQ A ad H locs LS Qc free C Wd L (List.forall_mem_cons.mpr ⟨hr, cs'.2⟩) hf hq
  refine lv_ishr C.1 C.2.1 hd ?_
  have he : i32 (b_ishr x y) = i32 x >>> (i32 y &&& 31) := Int32.ofInt_toInt _
  rw [← he]
  exact K

def b_ineg (x : Int) : Int := (-(i32 x)).toInt

theorem Ok.ineg {Sg : Nat → List Sh} {T u : Nat} {F : MI} {pc pc' : Nat} {ls : List (Option PV)} {st : List PV} {h : Hp} {Post : Int → Hp → Prop} {x : Int} (hd : decode F.2.2.1 pc = .ok (.ineg, 1)) (hp : pc + 1 = pc') (k : Ok Sg T u F pc' ls (pI (b_ineg x) :: st) h Post) : Ok Sg T u F pc ls (pI x :: st) h Post := by
  intro p l e R s m args below meth c D cI cQ A ad H locs LS Qc free C Wd L cs hf hq
  subst hp
  have cs' := (List.forall_mem_cons.mp cs).2
  have hr : inR (b_ineg x) := by
    have h1 := Int32.le_toInt (-(i32 x))
    have h2 := Int32.toInt_lt (-(i32 x))
    unfold inR b_ineg
    omega
  have K := k p l e R s m args below meth c D cI cQ A ad H locs LS Qc free C Wd L (List.forall_mem_cons.mpr ⟨hr, cs'⟩) hf hq
  refine lv_ineg C.1 C.2.1 hd ?_
  have he : i32 (b_ineg x) = -(i32 x) := Int32.ofInt_toInt _
  rw [← he]
  exact K

def b_idiv (x y : Int) : Int := (i32 x / i32 y).toInt

theorem Ok.idiv {Sg : Nat → List Sh} {T u : Nat} {F : MI} {pc pc' : Nat} {ls : List (Option PV)} {st : List PV} {h : Hp} {Post : Int → Hp → Prop} {x y : Int} (hd : decode F.2.2.1 pc = .ok (.idiv, 1)) (hp : pc + 1 = pc') (hy : y ≠ 0) (k : Ok Sg T u F pc' ls (pI (b_idiv x y) :: st) h Post) : Ok Sg T u F pc ls (pI y :: pI x :: st) h Post := by
  intro p l e R s m args below meth c D cI cQ A ad H locs LS Qc free C Wd L cs hf hq
  subst hp
  have cs' := List.forall_mem_cons.mp (List.forall_mem_cons.mp cs).2
  have hr : inR (b_idiv x y) := by
    have h1 := Int32.le_toInt (i32 x / i32 y)
    have h2 := Int32.toInt_lt (i32 x / i32 y)
    unfold inR b_idiv
    omega
  have K := k p l e R s m args below meth c D cI cQ A ad H locs LS Qc free C Wd L (List.forall_mem_cons.mpr ⟨hr, cs'.2⟩) hf hq
  refine lv_idiv C.1 C.2.1 hd (fun hy0 => hy ((i32_eq (cs _ List.mem_cons_self) (by unfold inR; omega)).mp (hy0.trans (rfl : (0 : Int32) = i32 0)))) ?_
  have he : i32 (b_idiv x y) = i32 x / i32 y := Int32.ofInt_toInt _
  rw [← he]
  exact K

def b_irem (x y : Int) : Int := (i32 x - i32 x / i32 y * i32 y).toInt

theorem Ok.irem {Sg : Nat → List Sh} {T u : Nat} {F : MI} {pc pc' : Nat} {ls : List (Option PV)} {st : List PV} {h : Hp} {Post : Int → Hp → Prop} {x y : Int} (hd : decode F.2.2.1 pc = .ok (.irem, 1)) (hp : pc + 1 = pc') (hy : y ≠ 0) (k : Ok Sg T u F pc' ls (pI (b_irem x y) :: st) h Post) : Ok Sg T u F pc ls (pI y :: pI x :: st) h Post := by
  intro p l e R s m args below meth c D cI cQ A ad H locs LS Qc free C Wd L cs hf hq
  subst hp
  have cs' := List.forall_mem_cons.mp (List.forall_mem_cons.mp cs).2
  have hr : inR (b_irem x y) := by
    have h1 := Int32.le_toInt (i32 x - i32 x / i32 y * i32 y)
    have h2 := Int32.toInt_lt (i32 x - i32 x / i32 y * i32 y)
    unfold inR b_irem
    omega
  have K := k p l e R s m args below meth c D cI cQ A ad H locs LS Qc free C Wd L (List.forall_mem_cons.mpr ⟨hr, cs'.2⟩) hf hq
  refine lv_irem C.1 C.2.1 hd (fun hy0 => hy ((i32_eq (cs _ List.mem_cons_self) (by unfold inR; omega)).mp (hy0.trans (rfl : (0 : Int32) = i32 0)))) ?_
  have he : i32 (b_irem x y) = i32 x - i32 x / i32 y * i32 y := Int32.ofInt_toInt _
  rw [← he]
  exact K

theorem Ok.i2l {Sg : Nat → List Sh} {T u : Nat} {F : MI} {pc pc' : Nat} {ls : List (Option PV)} {st : List PV} {h : Hp} {Post : Int → Hp → Prop} {x : Int} (hd : decode F.2.2.1 pc = .ok (.i2l, 1)) (hp : pc + 1 = pc') (k : Ok Sg T u F pc' ls (pL x :: st) h Post) : Ok Sg T u F pc ls (pI x :: st) h Post := by
  intro p l e R s m args below meth c D cI cQ A ad H locs LS Qc free C Wd L cs hf hq
  subst hp
  have cs' := List.forall_mem_cons.mp cs
  have hx : inR x := cs'.1
  have K := k p l e R s m args below meth c D cI cQ A ad H locs LS Qc free C Wd L (List.forall_mem_cons.mpr ⟨(by unfold cnV inL; unfold inR at hx; show _ ∧ _; omega), cs'.2⟩) hf hq
  refine lv_i2l (v := i64 x) C.1 C.2.1 hd ?_ K
  rw [← Int64.toInt_inj, Int32.toInt_toInt64, i32_toInt hx, i64_toInt (by unfold inL; unfold inR at hx; omega)]

theorem Ok.lmul {Sg : Nat → List Sh} {T u : Nat} {F : MI} {pc pc' : Nat} {ls : List (Option PV)} {st : List PV} {h : Hp} {Post : Int → Hp → Prop} {x y : Int} (hd : decode F.2.2.1 pc = .ok (.lmul, 1)) (hp : pc + 1 = pc') (hr : inL (x * y)) (k : Ok Sg T u F pc' ls (pL (x * y) :: st) h Post) : Ok Sg T u F pc ls (pL y :: pL x :: st) h Post := by
  intro p l e R s m args below meth c D cI cQ A ad H locs LS Qc free C Wd L cs hf hq
  subst hp
  have cs' := List.forall_mem_cons.mp (List.forall_mem_cons.mp cs).2
  have K := k p l e R s m args below meth c D cI cQ A ad H locs LS Qc free C Wd L (List.forall_mem_cons.mpr ⟨hr, cs'.2⟩) hf hq
  refine lv_lmul C.1 C.2.1 hd ?_
  rw [← Int64.ofInt_mul]
  exact K

def b_lcmp (x y : Int) : Int := if y < x then 1 else if x = y then 0 else -1

theorem Ok.lcmp {Sg : Nat → List Sh} {T u : Nat} {F : MI} {pc pc' : Nat} {ls : List (Option PV)} {st : List PV} {h : Hp} {Post : Int → Hp → Prop} {x y : Int} (hd : decode F.2.2.1 pc = .ok (.lcmp, 1)) (hp : pc + 1 = pc') (k : Ok Sg T u F pc' ls (pI (b_lcmp x y) :: st) h Post) : Ok Sg T u F pc ls (pL y :: pL x :: st) h Post := by
  intro p l e R s m args below meth c D cI cQ A ad H locs LS Qc free C Wd L cs hf hq
  subst hp
  have cs' := List.forall_mem_cons.mp cs
  have cs2 := List.forall_mem_cons.mp cs'.2
  have hy : inL y := cs'.1
  have hx : inL x := cs2.1
  have hr : inR (b_lcmp x y) := by
    unfold b_lcmp inR
    split
    · omega
    · split <;> omega
  have K := k p l e R s m args below meth c D cI cQ A ad H locs LS Qc free C Wd L (List.forall_mem_cons.mpr ⟨hr, cs2.2⟩) hf hq
  refine W.lcmp C.1 C.2.1 hd ?_
  have he : lg_cmp (i64 x) (i64 y) = i32 (b_lcmp x y) := by
    unfold lg_cmp b_lcmp
    simp only [gt_iff_lt, Int64.lt_iff_toInt_lt, ← Int64.toInt_inj, i64_toInt hx, i64_toInt hy]
    split
    · rfl
    · split <;> rfl
  rw [he]
  exact K

theorem Ok.dup {Sg : Nat → List Sh} {T u : Nat} {F : MI} {pc pc' : Nat} {ls : List (Option PV)} {st : List PV} {h : Hp} {Post : Int → Hp → Prop} {v : PV} (hd : decode F.2.2.1 pc = .ok (.dup, 1)) (hp : pc + 1 = pc') (hv : nl (some v) = true) (k : Ok Sg T u F pc' ls (v :: v :: st) h Post) : Ok Sg T u F pc ls (v :: st) h Post := by
  intro p l e R s m args below meth c D cI cQ A ad H locs LS Qc free C Wd L cs hf hq
  subst hp
  have K := k p l e R s m args below meth c D cI cQ A ad H locs LS Qc free C Wd L (List.forall_mem_cons.mpr ⟨cs _ List.mem_cons_self, cs⟩) hf hq
  exact lv_dup C.1 C.2.1 hd (nl_cat hv) K

theorem Ok.dup2 {Sg : Nat → List Sh} {T u : Nat} {F : MI} {pc pc' : Nat} {ls : List (Option PV)} {st : List PV} {h : Hp} {Post : Int → Hp → Prop} {v w : PV} (hd : decode F.2.2.1 pc = .ok (.dup2, 1)) (hp : pc + 1 = pc') (hv : nl (some v) = true) (hw : nl (some w) = true) (k : Ok Sg T u F pc' ls (v :: w :: v :: w :: st) h Post) : Ok Sg T u F pc ls (v :: w :: st) h Post := by
  intro p l e R s m args below meth c D cI cQ A ad H locs LS Qc free C Wd L cs hf hq
  subst hp
  have K := k p l e R s m args below meth c D cI cQ A ad H locs LS Qc free C Wd L (List.forall_mem_cons.mpr ⟨cs _ List.mem_cons_self, List.forall_mem_cons.mpr ⟨cs _ (List.mem_cons_of_mem _ List.mem_cons_self), cs⟩⟩) hf hq
  exact lv_dup2_11 C.1 C.2.1 hd (nl_cat hv) (nl_cat hw) K

theorem Ok.pop {Sg : Nat → List Sh} {T u : Nat} {F : MI} {pc pc' : Nat} {ls : List (Option PV)} {st : List PV} {h : Hp} {Post : Int → Hp → Prop} {v : PV} (hd : decode F.2.2.1 pc = .ok (.pop, 1)) (hp : pc + 1 = pc') (hv : nl (some v) = true) (k : Ok Sg T u F pc' ls (st) h Post) : Ok Sg T u F pc ls (v :: st) h Post := by
  intro p l e R s m args below meth c D cI cQ A ad H locs LS Qc free C Wd L cs hf hq
  subst hp
  have K := k p l e R s m args below meth c D cI cQ A ad H locs LS Qc free C Wd L (List.forall_mem_cons.mp cs).2 hf hq
  exact lv_pop C.1 C.2.1 hd (nl_cat hv) K

theorem Ok.icmp_eq {Sg : Nat → List Sh} {T u : Nat} {F : MI} {pc pc' : Nat} {ls : List (Option PV)} {st : List PV} {h : Hp} {Post : Int → Hp → Prop} {x y : Int} {off : Int} {tgt : Nat} (hd : decode F.2.2.1 pc = .ok (.if_icmp .eq off, 3)) (ht : (pc : Int) + off = (tgt : Int)) (hp : pc + 3 = pc') (kt : x = y → Ok Sg T u F tgt ls st h Post) (kf : ¬ x = y → Ok Sg T u F pc' ls st h Post) : Ok Sg T u F pc ls (pI y :: pI x :: st) h Post := by
  intro p l e R s m args below meth c D cI cQ A ad H locs LS Qc free C Wd L cs hf hq
  subst hp
  have cs1 := List.forall_mem_cons.mp cs
  have cs2 := List.forall_mem_cons.mp cs1.2
  have hy : inR y := cs1.1
  have hx : inR x := cs2.1
  exact lv_icmp_eq C.1 C.2.1 hd ht (fun q => kt ((i32_eq hx hy).mp q) p l e R s m args below meth c D cI cQ A ad H locs LS Qc free C Wd L cs2.2 hf hq) (fun q => kf (fun z => q ((i32_eq hx hy).mpr z)) p l e R s m args below meth c D cI cQ A ad H locs LS Qc free C Wd L cs2.2 hf hq)

theorem Ok.icmp_lt {Sg : Nat → List Sh} {T u : Nat} {F : MI} {pc pc' : Nat} {ls : List (Option PV)} {st : List PV} {h : Hp} {Post : Int → Hp → Prop} {x y : Int} {off : Int} {tgt : Nat} (hd : decode F.2.2.1 pc = .ok (.if_icmp .lt off, 3)) (ht : (pc : Int) + off = (tgt : Int)) (hp : pc + 3 = pc') (kt : x < y → Ok Sg T u F tgt ls st h Post) (kf : ¬ x < y → Ok Sg T u F pc' ls st h Post) : Ok Sg T u F pc ls (pI y :: pI x :: st) h Post := by
  intro p l e R s m args below meth c D cI cQ A ad H locs LS Qc free C Wd L cs hf hq
  subst hp
  have cs1 := List.forall_mem_cons.mp cs
  have cs2 := List.forall_mem_cons.mp cs1.2
  have hy : inR y := cs1.1
  have hx : inR x := cs2.1
  exact lv_icmp_lt C.1 C.2.1 hd ht (fun q => kt ((i32_lt hx hy).mp q) p l e R s m args below meth c D cI cQ A ad H locs LS Qc free C Wd L cs2.2 hf hq) (fun q => kf (fun z => q ((i32_lt hx hy).mpr z)) p l e R s m args below meth c D cI cQ A ad H locs LS Qc free C Wd L cs2.2 hf hq)

theorem Ok.icmp_ge {Sg : Nat → List Sh} {T u : Nat} {F : MI} {pc pc' : Nat} {ls : List (Option PV)} {st : List PV} {h : Hp} {Post : Int → Hp → Prop} {x y : Int} {off : Int} {tgt : Nat} (hd : decode F.2.2.1 pc = .ok (.if_icmp .ge off, 3)) (ht : (pc : Int) + off = (tgt : Int)) (hp : pc + 3 = pc') (kt : y ≤ x → Ok Sg T u F tgt ls st h Post) (kf : ¬ y ≤ x → Ok Sg T u F pc' ls st h Post) : Ok Sg T u F pc ls (pI y :: pI x :: st) h Post := by
  intro p l e R s m args below meth c D cI cQ A ad H locs LS Qc free C Wd L cs hf hq
  subst hp
  have cs1 := List.forall_mem_cons.mp cs
  have cs2 := List.forall_mem_cons.mp cs1.2
  have hy : inR y := cs1.1
  have hx : inR x := cs2.1
  exact lv_icmp_ge C.1 C.2.1 hd ht (fun q => kt ((i32_le hy hx).mp q) p l e R s m args below meth c D cI cQ A ad H locs LS Qc free C Wd L cs2.2 hf hq) (fun q => kf (fun z => q ((i32_le hy hx).mpr z)) p l e R s m args below meth c D cI cQ A ad H locs LS Qc free C Wd L cs2.2 hf hq)

theorem Ok.icmp_gt {Sg : Nat → List Sh} {T u : Nat} {F : MI} {pc pc' : Nat} {ls : List (Option PV)} {st : List PV} {h : Hp} {Post : Int → Hp → Prop} {x y : Int} {off : Int} {tgt : Nat} (hd : decode F.2.2.1 pc = .ok (.if_icmp .gt off, 3)) (ht : (pc : Int) + off = (tgt : Int)) (hp : pc + 3 = pc') (kt : y < x → Ok Sg T u F tgt ls st h Post) (kf : ¬ y < x → Ok Sg T u F pc' ls st h Post) : Ok Sg T u F pc ls (pI y :: pI x :: st) h Post := by
  intro p l e R s m args below meth c D cI cQ A ad H locs LS Qc free C Wd L cs hf hq
  subst hp
  have cs1 := List.forall_mem_cons.mp cs
  have cs2 := List.forall_mem_cons.mp cs1.2
  have hy : inR y := cs1.1
  have hx : inR x := cs2.1
  exact lv_icmp_gt C.1 C.2.1 hd ht (fun q => kt ((i32_lt hy hx).mp q) p l e R s m args below meth c D cI cQ A ad H locs LS Qc free C Wd L cs2.2 hf hq) (fun q => kf (fun z => q ((i32_lt hy hx).mpr z)) p l e R s m args below meth c D cI cQ A ad H locs LS Qc free C Wd L cs2.2 hf hq)

theorem Ok.icmp_le {Sg : Nat → List Sh} {T u : Nat} {F : MI} {pc pc' : Nat} {ls : List (Option PV)} {st : List PV} {h : Hp} {Post : Int → Hp → Prop} {x y : Int} {off : Int} {tgt : Nat} (hd : decode F.2.2.1 pc = .ok (.if_icmp .le off, 3)) (ht : (pc : Int) + off = (tgt : Int)) (hp : pc + 3 = pc') (kt : x ≤ y → Ok Sg T u F tgt ls st h Post) (kf : ¬ x ≤ y → Ok Sg T u F pc' ls st h Post) : Ok Sg T u F pc ls (pI y :: pI x :: st) h Post := by
  intro p l e R s m args below meth c D cI cQ A ad H locs LS Qc free C Wd L cs hf hq
  subst hp
  have cs1 := List.forall_mem_cons.mp cs
  have cs2 := List.forall_mem_cons.mp cs1.2
  have hy : inR y := cs1.1
  have hx : inR x := cs2.1
  exact lv_icmp_le C.1 C.2.1 hd ht (fun q => kt ((i32_le hx hy).mp q) p l e R s m args below meth c D cI cQ A ad H locs LS Qc free C Wd L cs2.2 hf hq) (fun q => kf (fun z => q ((i32_le hx hy).mpr z)) p l e R s m args below meth c D cI cQ A ad H locs LS Qc free C Wd L cs2.2 hf hq)

theorem Ok.icmp_ne {Sg : Nat → List Sh} {T u : Nat} {F : MI} {pc pc' : Nat} {ls : List (Option PV)} {st : List PV} {h : Hp} {Post : Int → Hp → Prop} {x y : Int} {off : Int} {tgt : Nat} (hd : decode F.2.2.1 pc = .ok (.if_icmp .ne off, 3)) (ht : (pc : Int) + off = (tgt : Int)) (hp : pc + 3 = pc') (kt : ¬ x = y → Ok Sg T u F tgt ls st h Post) (kf : x = y → Ok Sg T u F pc' ls st h Post) : Ok Sg T u F pc ls (pI y :: pI x :: st) h Post := by
  intro p l e R s m args below meth c D cI cQ A ad H locs LS Qc free C Wd L cs hf hq
  subst hp
  have cs1 := List.forall_mem_cons.mp cs
  have cs2 := List.forall_mem_cons.mp cs1.2
  have hy : inR y := cs1.1
  have hx : inR x := cs2.1
  exact lv_icmp_ne C.1 C.2.1 hd ht (fun q => kt (fun z => q ((i32_eq hx hy).mpr z)) p l e R s m args below meth c D cI cQ A ad H locs LS Qc free C Wd L cs2.2 hf hq) (fun q => kf ((i32_eq hx hy).mp q) p l e R s m args below meth c D cI cQ A ad H locs LS Qc free C Wd L cs2.2 hf hq)

theorem Ok.if_eq {Sg : Nat → List Sh} {T u : Nat} {F : MI} {pc pc' : Nat} {ls : List (Option PV)} {st : List PV} {h : Hp} {Post : Int → Hp → Prop} {x : Int} {off : Int} {tgt : Nat} (hd : decode F.2.2.1 pc = .ok (.ifCond .eq off, 3)) (ht : (pc : Int) + off = (tgt : Int)) (hp : pc + 3 = pc') (kt : x = 0 → Ok Sg T u F tgt ls st h Post) (kf : ¬ x = 0 → Ok Sg T u F pc' ls st h Post) : Ok Sg T u F pc ls (pI x :: st) h Post := by
  intro p l e R s m args below meth c D cI cQ A ad H locs LS Qc free C Wd L cs hf hq
  subst hp
  have cs1 := List.forall_mem_cons.mp cs
  have hx : inR x := cs1.1
  have h0 : inR 0 := by unfold inR; omega
  exact lv_if_eq C.1 C.2.1 hd ht (fun q => kt ((i32_eq hx h0).mp q) p l e R s m args below meth c D cI cQ A ad H locs LS Qc free C Wd L cs1.2 hf hq) (fun q => kf (fun z => q ((i32_eq hx h0).mpr z)) p l e R s m args below meth c D cI cQ A ad H locs LS Qc free C Wd L cs1.2 hf hq)

theorem Ok.if_lt {Sg : Nat → List Sh} {T u : Nat} {F : MI} {pc pc' : Nat} {ls : List (Option PV)} {st : List PV} {h : Hp} {Post : Int → Hp → Prop} {x : Int} {off : Int} {tgt : Nat} (hd : decode F.2.2.1 pc = .ok (.ifCond .lt off, 3)) (ht : (pc : Int) + off = (tgt : Int)) (hp : pc + 3 = pc') (kt : x < 0 → Ok Sg T u F tgt ls st h Post) (kf : ¬ x < 0 → Ok Sg T u F pc' ls st h Post) : Ok Sg T u F pc ls (pI x :: st) h Post := by
  intro p l e R s m args below meth c D cI cQ A ad H locs LS Qc free C Wd L cs hf hq
  subst hp
  have cs1 := List.forall_mem_cons.mp cs
  have hx : inR x := cs1.1
  have h0 : inR 0 := by unfold inR; omega
  exact lv_if_lt C.1 C.2.1 hd ht (fun q => kt ((i32_lt hx h0).mp q) p l e R s m args below meth c D cI cQ A ad H locs LS Qc free C Wd L cs1.2 hf hq) (fun q => kf (fun z => q ((i32_lt hx h0).mpr z)) p l e R s m args below meth c D cI cQ A ad H locs LS Qc free C Wd L cs1.2 hf hq)

theorem Ok.if_ge {Sg : Nat → List Sh} {T u : Nat} {F : MI} {pc pc' : Nat} {ls : List (Option PV)} {st : List PV} {h : Hp} {Post : Int → Hp → Prop} {x : Int} {off : Int} {tgt : Nat} (hd : decode F.2.2.1 pc = .ok (.ifCond .ge off, 3)) (ht : (pc : Int) + off = (tgt : Int)) (hp : pc + 3 = pc') (kt : 0 ≤ x → Ok Sg T u F tgt ls st h Post) (kf : ¬ 0 ≤ x → Ok Sg T u F pc' ls st h Post) : Ok Sg T u F pc ls (pI x :: st) h Post := by
  intro p l e R s m args below meth c D cI cQ A ad H locs LS Qc free C Wd L cs hf hq
  subst hp
  have cs1 := List.forall_mem_cons.mp cs
  have hx : inR x := cs1.1
  have h0 : inR 0 := by unfold inR; omega
  exact lv_if_ge C.1 C.2.1 hd ht (fun q => kt ((i32_le h0 hx).mp q) p l e R s m args below meth c D cI cQ A ad H locs LS Qc free C Wd L cs1.2 hf hq) (fun q => kf (fun z => q ((i32_le h0 hx).mpr z)) p l e R s m args below meth c D cI cQ A ad H locs LS Qc free C Wd L cs1.2 hf hq)

theorem Ok.if_gt {Sg : Nat → List Sh} {T u : Nat} {F : MI} {pc pc' : Nat} {ls : List (Option PV)} {st : List PV} {h : Hp} {Post : Int → Hp → Prop} {x : Int} {off : Int} {tgt : Nat} (hd : decode F.2.2.1 pc = .ok (.ifCond .gt off, 3)) (ht : (pc : Int) + off = (tgt : Int)) (hp : pc + 3 = pc') (kt : 0 < x → Ok Sg T u F tgt ls st h Post) (kf : ¬ 0 < x → Ok Sg T u F pc' ls st h Post) : Ok Sg T u F pc ls (pI x :: st) h Post := by
  intro p l e R s m args below meth c D cI cQ A ad H locs LS Qc free C Wd L cs hf hq
  subst hp
  have cs1 := List.forall_mem_cons.mp cs
  have hx : inR x := cs1.1
  have h0 : inR 0 := by unfold inR; omega
  exact lv_if_gt C.1 C.2.1 hd ht (fun q => kt ((i32_lt h0 hx).mp q) p l e R s m args below meth c D cI cQ A ad H locs LS Qc free C Wd L cs1.2 hf hq) (fun q => kf (fun z => q ((i32_lt h0 hx).mpr z)) p l e R s m args below meth c D cI cQ A ad H locs LS Qc free C Wd L cs1.2 hf hq)

theorem Ok.if_le {Sg : Nat → List Sh} {T u : Nat} {F : MI} {pc pc' : Nat} {ls : List (Option PV)} {st : List PV} {h : Hp} {Post : Int → Hp → Prop} {x : Int} {off : Int} {tgt : Nat} (hd : decode F.2.2.1 pc = .ok (.ifCond .le off, 3)) (ht : (pc : Int) + off = (tgt : Int)) (hp : pc + 3 = pc') (kt : x ≤ 0 → Ok Sg T u F tgt ls st h Post) (kf : ¬ x ≤ 0 → Ok Sg T u F pc' ls st h Post) : Ok Sg T u F pc ls (pI x :: st) h Post := by
  intro p l e R s m args below meth c D cI cQ A ad H locs LS Qc free C Wd L cs hf hq
  subst hp
  have cs1 := List.forall_mem_cons.mp cs
  have hx : inR x := cs1.1
  have h0 : inR 0 := by unfold inR; omega
  exact lv_if_le C.1 C.2.1 hd ht (fun q => kt ((i32_le hx h0).mp q) p l e R s m args below meth c D cI cQ A ad H locs LS Qc free C Wd L cs1.2 hf hq) (fun q => kf (fun z => q ((i32_le hx h0).mpr z)) p l e R s m args below meth c D cI cQ A ad H locs LS Qc free C Wd L cs1.2 hf hq)

theorem Ok.if_ne {Sg : Nat → List Sh} {T u : Nat} {F : MI} {pc pc' : Nat} {ls : List (Option PV)} {st : List PV} {h : Hp} {Post : Int → Hp → Prop} {x : Int} {off : Int} {tgt : Nat} (hd : decode F.2.2.1 pc = .ok (.ifCond .ne off, 3)) (ht : (pc : Int) + off = (tgt : Int)) (hp : pc + 3 = pc') (kt : ¬ x = 0 → Ok Sg T u F tgt ls st h Post) (kf : x = 0 → Ok Sg T u F pc' ls st h Post) : Ok Sg T u F pc ls (pI x :: st) h Post := by
  intro p l e R s m args below meth c D cI cQ A ad H locs LS Qc free C Wd L cs hf hq
  subst hp
  have cs1 := List.forall_mem_cons.mp cs
  have hx : inR x := cs1.1
  have h0 : inR 0 := by unfold inR; omega
  exact lv_if_ne C.1 C.2.1 hd ht (fun q => kt (fun z => q ((i32_eq hx h0).mpr z)) p l e R s m args below meth c D cI cQ A ad H locs LS Qc free C Wd L cs1.2 hf hq) (fun q => kf ((i32_eq hx h0).mp q) p l e R s m args below meth c D cI cQ A ad H locs LS Qc free C Wd L cs1.2 hf hq)

theorem Ok.goto {Sg : Nat → List Sh} {T u : Nat} {F : MI} {pc : Nat} {ls : List (Option PV)} {st : List PV} {h : Hp} {Post : Int → Hp → Prop} {off : Int} {tgt : Nat} (hd : decode F.2.2.1 pc = .ok (.goto off, 3)) (ht : (pc : Int) + off = (tgt : Int)) (k : Ok Sg T u F tgt ls (st) h Post) : Ok Sg T u F pc ls (st) h Post := by
  intro p l e R s m args below meth c D cI cQ A ad H locs LS Qc free C Wd L cs hf hq
  exact lv_goto C.1 C.2.1 hd ht (k p l e R s m args below meth c D cI cQ A ad H locs LS Qc free C Wd L cs hf hq)

def swT (dflt lo hi : Int) (offs : Array Int) (x : Int) : Int := if x < lo ∨ hi < x then dflt else offs.getD (x - lo).toNat 0
theorem swT_out {dflt lo hi : Int} {offs : Array Int} {x : Int} (h : x < lo ∨ hi < x) : swT dflt lo hi offs x = dflt := if_pos h
theorem swT_nn {dflt lo hi : Int} {offs : Array Int} {pc : Nat} (h : 0 ≤ (pc : Int) + dflt ∧ ∀ o ∈ offs.toList, 0 ≤ (pc : Int) + o) (x : Int) : 0 ≤ (pc : Int) + swT dflt lo hi offs x := by
  unfold swT
  split
  · exact h.1
  · rw [Array.getD_eq_getD_getElem?]
    cases hq : offs[(x - lo).toNat]? with
    | none =>
      show 0 ≤ (pc : Int) + 0
      omega
    | some o => exact h.2 o (by rw [← Array.getElem?_toList] at hq; exact List.mem_of_getElem? hq)
theorem Ok.tsw {Sg : Nat → List Sh} {T u : Nat} {F : MI} {pc : Nat} {ls : List (Option PV)} {st : List PV} {h : Hp} {Post : Int → Hp → Prop} {x dflt lo hi : Int} {offs : Array Int} {len : Nat} (hd : decode F.2.2.1 pc = .ok (.tableswitch dflt lo hi offs, len)) (hsz : lo + offs.size = hi + 1) (hnn : 0 ≤ (pc : Int) + dflt ∧ ∀ o ∈ offs.toList, 0 ≤ (pc : Int) + o) (k : ∀ tgt : Nat, (pc : Int) + swT dflt lo hi offs x = (tgt : Int) → Ok Sg T u F tgt ls st h Post) : Ok Sg T u F pc ls (pI x :: st) h Post := by
  intro p l e R s m args below meth c D cI cQ A ad H locs LS Qc free C Wd L cs hf hq
  have cs1 := List.forall_mem_cons.mp cs
  have hx : inR x := cs1.1
  obtain ⟨tgt, htg⟩ := Int.eq_ofNat_of_zero_le (swT_nn hnn x)
  have K := k tgt htg p l e R s m args below meth c D cI cQ A ad H locs LS Qc free C Wd L cs1.2 hf hq
  by_cases hc : x < lo ∨ hi < x
  · refine lv_tableOut C.1 C.2.1 hd (by rw [i32_toInt hx]; exact hc) ?_ K
    rw [← htg]
    unfold swT
    rw [if_pos hc]
  · have hlt : (x - lo).toNat < offs.size := by omega
    refine lv_tableIn (off := offs.getD (x - lo).toNat 0) C.1 C.2.1 hd (by rw [i32_toInt hx]; omega) (by rw [i32_toInt hx]; omega) ?_ ?_ K
    · rw [i32_toInt hx, Array.getD_eq_getD_getElem?, Array.getElem?_eq_getElem hlt]
      rfl
    · rw [← htg]
      unfold swT
      rw [if_neg hc]
theorem lsw_in (pc : Nat) (dflt : Int) : ∀ (l : List (Int × Int)) (x : Int), 0 ≤ (pc : Int) + dflt → (∀ o ∈ l, 0 ≤ (pc : Int) + o.2) → 0 ≤ (pc : Int) + Op.lookupswitch.offset l dflt x
  | [], x, h, _ => h
  | (a, o) :: l, x, h, h2 => by
    show 0 ≤ (pc : Int) + (if a = x then o else Op.lookupswitch.offset l dflt x)
    split
    · exact h2 (a, o) List.mem_cons_self
    · exact lsw_in pc dflt l x h (fun o' ho => h2 o' (List.mem_cons_of_mem _ ho))
theorem lsw_out2 {a b o q d x : Int} (h1 : ¬ x = a) (h2 : ¬ x = b) : Op.lookupswitch.offset (#[(a, o), (b, q)] : Array (Int × Int)).toList d x = d := by
  show (if a = x then o else if b = x then q else d) = d
  rw [if_neg (fun e => h1 e.symm), if_neg (fun e => h2 e.symm)]
theorem lsw_out3 {a b c o q r d x : Int} (h1 : ¬ x = a) (h2 : ¬ x = b) (h3 : ¬ x = c) : Op.lookupswitch.offset (#[(a, o), (b, q), (c, r)] : Array (Int × Int)).toList d x = d := by
  show (if a = x then o else if b = x then q else if c = x then r else d) = d
  rw [if_neg (fun e => h1 e.symm), if_neg (fun e => h2 e.symm), if_neg (fun e => h3 e.symm)]
theorem Ok.lsw {Sg : Nat → List Sh} {T u : Nat} {F : MI} {pc : Nat} {ls : List (Option PV)} {st : List PV} {h : Hp} {Post : Int → Hp → Prop} {x dflt : Int} {ps : Array (Int × Int)} {len : Nat} (hd : decode F.2.2.1 pc = .ok (.lookupswitch dflt ps, len)) (hps : (ps.toList.zip (ps.toList.drop 1)).all (fun (a, next) => a.1 < next.1) = true) (hnn : 0 ≤ (pc : Int) + dflt ∧ ∀ o ∈ ps.toList, 0 ≤ (pc : Int) + o.2) (k : ∀ tgt : Nat, (pc : Int) + Op.lookupswitch.offset ps.toList dflt x = (tgt : Int) → Ok Sg T u F tgt ls st h Post) : Ok Sg T u F pc ls (pI x :: st) h Post := by
  intro p l e R s m args below meth c D cI cQ A ad H locs LS Qc free C Wd L cs hf hq
  have cs1 := List.forall_mem_cons.mp cs
  have hx : inR x := cs1.1
  obtain ⟨tgt, htg⟩ := Int.eq_ofNat_of_zero_le (lsw_in pc dflt ps.toList x hnn.1 hnn.2)
  exact lv_lookup C.1 C.2.1 hd hps (by rw [i32_toInt hx]) htg (k tgt htg p l e R s m args below meth c D cI cQ A ad H locs LS Qc free C Wd L cs1.2 hf hq)
