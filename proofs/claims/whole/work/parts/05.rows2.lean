/-! ROWS: fields, arrays, statics, ends -/
theorem Ok.getI {Sg : Nat → List Sh} {T u : Nat} {F : MI} {pc pc' : Nat} {ls : List (Option PV)} {st : List PV} {h : Hp} {Post : Int → Hp → Prop} {o ci k idx N : Nat} {ref C0 : String} {TX : u_T} {fs : List (Option Nat)} {z : Int}
    (hd : decode F.2.2.1 pc = .ok (.getfield idx, 3)) (hp : pc + 3 = pc') (hs : (Sg h.2.2)[o]? = some (shO ci fs)) (hc : vwCl[ci]? = some (C0, TX, N)) (hin : ∀ w ∈ u_ws C0 TX N, w ∈ lw_u) (hk : k < N) (hf : fs[k]? = some none) (hv : h.2.1 o k = z)
    (hlink : Cond.fieldLink F.1 idx ref (TX k).2.1 (TX k).2.2.1 ∈ lw_u) (hsame : ref = (TX k).1) (kk : Ok Sg T u F pc' ls (pI z :: st) h Post) : Ok Sg T u F pc ls (pR o :: st) h Post := by
  intro p l e R s m args below meth c D cI cQ A ad H locs LS Qc free C Wd L cs hf' hq
  subst hp; subst hsame; subst hv
  have K := kk p l e R s m args below meth c D cI cQ A ad H locs LS Qc free C Wd L (List.forall_mem_cons.mpr ⟨Wd.2.2.2.1.2 o k, (List.forall_mem_cons.mp cs).2⟩) hf' hq
  exact va_get C.1 C.2.1 C.2.2.2.2.2.1 hin C.2.2.2.2.1 C.2.2.2.2.2.2.2.2.2.2.2.1 Wd.1 o (wld_at hs) hc k hk (C.2.2.2.2.2.1 _ hlink) (fun _ z => z) (fvs_at hf) hd K
theorem Ok.getR {Sg : Nat → List Sh} {T u : Nat} {F : MI} {pc pc' : Nat} {ls : List (Option PV)} {st : List PV} {h : Hp} {Post : Int → Hp → Prop} {o ci k idx N : Nat} {ref C0 : String} {TX : u_T} {fs : List (Option Nat)} {o' : Nat}
    (hd : decode F.2.2.1 pc = .ok (.getfield idx, 3)) (hp : pc + 3 = pc') (hs : (Sg h.2.2)[o]? = some (shO ci fs)) (hc : vwCl[ci]? = some (C0, TX, N)) (hin : ∀ w ∈ u_ws C0 TX N, w ∈ lw_u) (hk : k < N) (hf : fs[k]? = some (some o'))
    (hlink : Cond.fieldLink F.1 idx ref (TX k).2.1 (TX k).2.2.1 ∈ lw_u) (hsame : ref = (TX k).1) (kk : Ok Sg T u F pc' ls (pR o' :: st) h Post) : Ok Sg T u F pc ls (pR o :: st) h Post := by
  intro p l e R s m args below meth c D cI cQ A ad H locs LS Qc free C Wd L cs hf' hq
  subst hp; subst hsame
  have K := kk p l e R s m args below meth c D cI cQ A ad H locs LS Qc free C Wd L (List.forall_mem_cons.mpr ⟨trivial, (List.forall_mem_cons.mp cs).2⟩) hf' hq
  exact va_get C.1 C.2.1 C.2.2.2.2.2.1 hin C.2.2.2.2.1 C.2.2.2.2.2.2.2.2.2.2.2.1 Wd.1 o (wld_at hs) hc k hk (C.2.2.2.2.2.1 _ hlink) (fun _ z => z) (fvs_at hf) hd K
theorem Ok.getIN {Sg : Nat → List Sh} {T u : Nat} {F : MI} {pc pc' : Nat} {ls : List (Option PV)} {st : List PV} {h : Hp} {Post : Int → Hp → Prop} {o ci k idx N : Nat} {ref C0 host : String} {TX : u_T} {fs : List (Option Nat)} {z : Int}
    (hd : decode F.2.2.1 pc = .ok (.getfield idx, 3)) (hp : pc + 3 = pc') (hs : (Sg h.2.2)[o]? = some (shO ci fs)) (hc : vwCl[ci]? = some (C0, TX, N)) (hin : ∀ w ∈ u_ws C0 TX N, w ∈ lw_u) (hk : k < N) (hf : fs[k]? = some none) (hv : h.2.1 o k = z)
    (hlink : Cond.fieldLinkNest F.1 idx ref (TX k).2.1 (TX k).2.2.1 host ∈ lw_u) (hsame : ref = (TX k).1) (kk : Ok Sg T u F pc' ls (pI z :: st) h Post) : Ok Sg T u F pc ls (pR o :: st) h Post := by
  intro p l e R s m args below meth c D cI cQ A ad H locs LS Qc free C Wd L cs hf' hq
  subst hp; subst hsame; subst hv
  have K := kk p l e R s m args below meth c D cI cQ A ad H locs LS Qc free C Wd L (List.forall_mem_cons.mpr ⟨Wd.2.2.2.1.2 o k, (List.forall_mem_cons.mp cs).2⟩) hf' hq
  exact va_getN C.1 C.2.1 C.2.2.2.2.2.1 hin C.2.2.2.2.1 C.2.2.2.2.2.2.2.2.2.2.2.1 Wd.1 o (wld_at hs) hc k hk (C.2.2.2.2.2.1 _ hlink) (fun _ z => z) (fvs_at hf) hd K
theorem Ok.getRN {Sg : Nat → List Sh} {T u : Nat} {F : MI} {pc pc' : Nat} {ls : List (Option PV)} {st : List PV} {h : Hp} {Post : Int → Hp → Prop} {o ci k idx N : Nat} {ref C0 host : String} {TX : u_T} {fs : List (Option Nat)} {o' : Nat}
    (hd : decode F.2.2.1 pc = .ok (.getfield idx, 3)) (hp : pc + 3 = pc') (hs : (Sg h.2.2)[o]? = some (shO ci fs)) (hc : vwCl[ci]? = some (C0, TX, N)) (hin : ∀ w ∈ u_ws C0 TX N, w ∈ lw_u) (hk : k < N) (hf : fs[k]? = some (some o'))
    (hlink : Cond.fieldLinkNest F.1 idx ref (TX k).2.1 (TX k).2.2.1 host ∈ lw_u) (hsame : ref = (TX k).1) (kk : Ok Sg T u F pc' ls (pR o' :: st) h Post) : Ok Sg T u F pc ls (pR o :: st) h Post := by
  intro p l e R s m args below meth c D cI cQ A ad H locs LS Qc free C Wd L cs hf' hq
  subst hp; subst hsame
  have K := kk p l e R s m args below meth c D cI cQ A ad H locs LS Qc free C Wd L (List.forall_mem_cons.mpr ⟨trivial, (List.forall_mem_cons.mp cs).2⟩) hf' hq
  exact va_getN C.1 C.2.1 C.2.2.2.2.2.1 hin C.2.2.2.2.1 C.2.2.2.2.2.2.2.2.2.2.2.1 Wd.1 o (wld_at hs) hc k hk (C.2.2.2.2.2.1 _ hlink) (fun _ z => z) (fvs_at hf) hd K
theorem z01 {z : Int} (h : z = 0 ∨ z = 1) : narrow .boolean (.int (i32 z)) = .int (i32 z) ∧ fits .boolean (.int (i32 z)) = true := by
  rcases h with rfl | rfl <;> exact ⟨by decide, by decide⟩
theorem Ok.putI {Sg : Nat → List Sh} {T u : Nat} {F : MI} {pc pc' : Nat} {ls : List (Option PV)} {st : List PV} {h : Hp} {Post : Int → Hp → Prop} {o ci k idx N : Nat} {ref C0 : String} {TX : u_T} {fs : List (Option Nat)} {z : Int}
    (hd : decode F.2.2.1 pc = .ok (.putfield idx, 3)) (hp : pc + 3 = pc') (hs : (Sg h.2.2)[o]? = some (shO ci fs)) (hc : vwCl[ci]? = some (C0, TX, N)) (hin : ∀ w ∈ u_ws C0 TX N, w ∈ lw_u) (ty0 : Nat → FieldType) (hty : ∀ k, k < N → parseFieldDescriptor (TX k).2.2.1 = some (ty0 k)) (hnm : ∀ a, a < N → ∀ b, b < N → a ≠ b → (TX a).2.1 ≠ (TX b).2.1) (hk : k < N) (hf : fs[k]? = some none)
    (hlink : Cond.fieldLink F.1 idx ref (TX k).2.1 (TX k).2.2.1 ∈ lw_u) (hsame : ref = (TX k).1) (hfin : (TX k).2.2.2 = false) (hbt : ty0 k = .int ∨ (ty0 k = .boolean ∧ (z = 0 ∨ z = 1))) (kk : Ok Sg T u F pc' ls st (hI h o k z) Post) : Ok Sg T u F pc ls (pI z :: pR o :: st) h Post := by
  intro p l e R s m args below meth c D cI cQ A ad H locs LS Qc free C Wd L cs hf' hq
  subst hp; subst hsame
  have cs2 := List.forall_mem_cons.mp (List.forall_mem_cons.mp cs).2
  have hz : inR z := cs _ List.mem_cons_self
  have hl : k < fs.length := (List.getElem?_eq_some_iff.mp hf).1
  have hn : narrow (ty0 k) (.int (i32 z)) = .int (i32 z) ∧ fits (ty0 k) (.int (i32 z)) = true := by
    rcases hbt with e | ⟨e, hz2⟩
    · rw [e]
      exact ⟨rfl, rfl⟩
    · rw [e]
      exact z01 hz2
  refine va_put C.1 C.2.1 C.2.2.2.2.2.1 hin ty0 hty hnm C.2.2.2.2.1 C.2.2.2.2.2.2.2.2.2.2.2.1 Wd.1 Wd.2.1 Wd.2.2.1 o (wld_at hs) hc k hk (C.2.2.2.2.2.1 _ hlink) (fun _ z => z) hfin (hty k hk) hn.1 hn.2 (by unfold fvs; rw [List.length_mapIdx]; exact hl) hd (fun H1 locs1 hP hD hS => ?_)
  have ee := wld_I (h := h) (cI := cI) (cQ := cQ) (ad := ad) hs hf z
  have hP := (congrArg (fun w => va_P D vwCl w H1) ee).mp hP
  have hD := (congrArg (fun w => va_D A w) ee).mp hD
  exact kk p l e R s m args below meth c D cI cQ A ad H1 locs1 LS Qc free C ⟨hP, hD, hS, Wd.2.2.2.1.I hz o k, Wd.2.2.2.2⟩ L cs2.2 hf' hq
theorem Ok.putIN {Sg : Nat → List Sh} {T u : Nat} {F : MI} {pc pc' : Nat} {ls : List (Option PV)} {st : List PV} {h : Hp} {Post : Int → Hp → Prop} {o ci k idx N : Nat} {ref C0 host : String} {TX : u_T} {fs : List (Option Nat)} {z : Int}
    (hd : decode F.2.2.1 pc = .ok (.putfield idx, 3)) (hp : pc + 3 = pc') (hs : (Sg h.2.2)[o]? = some (shO ci fs)) (hc : vwCl[ci]? = some (C0, TX, N)) (hin : ∀ w ∈ u_ws C0 TX N, w ∈ lw_u) (ty0 : Nat → FieldType) (hty : ∀ k, k < N → parseFieldDescriptor (TX k).2.2.1 = some (ty0 k)) (hnm : ∀ a, a < N → ∀ b, b < N → a ≠ b → (TX a).2.1 ≠ (TX b).2.1) (hk : k < N) (hf : fs[k]? = some none)
    (hlink : Cond.fieldLinkNest F.1 idx ref (TX k).2.1 (TX k).2.2.1 host ∈ lw_u) (hsame : ref = (TX k).1) (hfin : (TX k).2.2.2 = false) (hbt : ty0 k = .int ∨ (ty0 k = .boolean ∧ (z = 0 ∨ z = 1))) (kk : Ok Sg T u F pc' ls st (hI h o k z) Post) : Ok Sg T u F pc ls (pI z :: pR o :: st) h Post := by
  intro p l e R s m args below meth c D cI cQ A ad H locs LS Qc free C Wd L cs hf' hq
  subst hp; subst hsame
  have cs2 := List.forall_mem_cons.mp (List.forall_mem_cons.mp cs).2
  have hz : inR z := cs _ List.mem_cons_self
  have hl : k < fs.length := (List.getElem?_eq_some_iff.mp hf).1
  have hn : narrow (ty0 k) (.int (i32 z)) = .int (i32 z) ∧ fits (ty0 k) (.int (i32 z)) = true := by
    rcases hbt with e | ⟨e, hz2⟩
    · rw [e]
      exact ⟨rfl, rfl⟩
    · rw [e]
      exact z01 hz2
  refine va_putN C.1 C.2.1 C.2.2.2.2.2.1 hin ty0 hty hnm C.2.2.2.2.1 C.2.2.2.2.2.2.2.2.2.2.2.1 Wd.1 Wd.2.1 Wd.2.2.1 o (wld_at hs) hc k hk (C.2.2.2.2.2.1 _ hlink) (fun _ z => z) hfin (hty k hk) hn.1 hn.2 (by unfold fvs; rw [List.length_mapIdx]; exact hl) hd (fun H1 locs1 hP hD hS => ?_)
  have ee := wld_I (h := h) (cI := cI) (cQ := cQ) (ad := ad) hs hf z
  have hP := (congrArg (fun w => va_P D vwCl w H1) ee).mp hP
  have hD := (congrArg (fun w => va_D A w) ee).mp hD
  exact kk p l e R s m args below meth c D cI cQ A ad H1 locs1 LS Qc free C ⟨hP, hD, hS, Wd.2.2.2.1.I hz o k, Wd.2.2.2.2⟩ L cs2.2 hf' hq
theorem Ok.iald {Sg : Nat → List Sh} {T u : Nat} {F : MI} {pc pc' : Nat} {ls : List (Option PV)} {st : List PV} {h : Hp} {Post : Int → Hp → Prop} {a n k : Nat} {i z : Int}
    (hd : decode F.2.2.1 pc = .ok (.iaload, 1)) (hp : pc + 1 = pc') (hs : (Sg h.2.2)[a]? = some (shA n)) (hn : n < 2147483648) (hi : i = (k : Int)) (hk : k < n) (hv : h.1 a k = z) (kk : Ok Sg T u F pc' ls (pI z :: st) h Post) : Ok Sg T u F pc ls (pI i :: pR a :: st) h Post := by
  intro p l e R s m args below meth c D cI cQ A ad H locs LS Qc free C Wd L cs hf hq
  subst hp; subst hi; subst hv
  have cs2 := List.forall_mem_cons.mp (List.forall_mem_cons.mp cs).2
  have K := kk p l e R s m args below meth c D cI cQ A ad H locs LS Qc free C Wd L (List.forall_mem_cons.mpr ⟨Wd.2.2.2.1.1 a k, cs2.2⟩) hf hq
  refine va_iald C.1 C.2.1 C.2.2.2.2.2.2.2.2.2.2.2.1 Wd.1 a 0 (wld_at hs) rfl (i32_in hk hn) hd ?_
  rw [i32_k (by omega)]
  exact K
theorem Ok.iast {Sg : Nat → List Sh} {T u : Nat} {F : MI} {pc pc' : Nat} {ls : List (Option PV)} {st : List PV} {h : Hp} {Post : Int → Hp → Prop} {a n k : Nat} {i z : Int}
    (hd : decode F.2.2.1 pc = .ok (.iastore, 1)) (hp : pc + 1 = pc') (hs : (Sg h.2.2)[a]? = some (shA n)) (hn : n < 2147483648) (hi : i = (k : Int)) (hk : k < n) (kk : Ok Sg T u F pc' ls st (hA h a k z) Post) : Ok Sg T u F pc ls (pI z :: pI i :: pR a :: st) h Post := by
  intro p l e R s m args below meth c D cI cQ A ad H locs LS Qc free C Wd L cs hf hq
  subst hp; subst hi
  have cs2 := List.forall_mem_cons.mp (List.forall_mem_cons.mp (List.forall_mem_cons.mp cs).2).2
  have hz : inR z := cs _ List.mem_cons_self
  refine va_iast C.1 C.2.1 C.2.2.2.2.2.2.2.2.2.2.2.1 Wd.1 Wd.2.1 Wd.2.2.1 a 0 (wld_at hs) rfl (i32_in hk hn) hd (fun H1 locs1 hP hD hS => ?_)
  rw [i32_k (by omega)] at hP hD
  rw [wld_A hs k z] at hP hD
  exact kk p l e R s m args below meth c D cI cQ A ad H1 locs1 LS Qc free C ⟨hP, hD, hS, Wd.2.2.2.1.A hz a k, Wd.2.2.2.2⟩ L cs2.2 hf hq
theorem Ok.alen {Sg : Nat → List Sh} {T u : Nat} {F : MI} {pc pc' : Nat} {ls : List (Option PV)} {st : List PV} {h : Hp} {Post : Int → Hp → Prop} {a n : Nat}
    (hd : decode F.2.2.1 pc = .ok (.arraylength, 1)) (hp : pc + 1 = pc') (hs : (Sg h.2.2)[a]? = some (shA n)) (hn : n < 2147483648) (kk : Ok Sg T u F pc' ls (pI (n : Int) :: st) h Post) : Ok Sg T u F pc ls (pR a :: st) h Post := by
  intro p l e R s m args below meth c D cI cQ A ad H locs LS Qc free C Wd L cs hf hq
  subst hp
  have K := kk p l e R s m args below meth c D cI cQ A ad H locs LS Qc free C Wd L (List.forall_mem_cons.mpr ⟨(by unfold cnV inR; show _ ∧ _; omega), (List.forall_mem_cons.mp cs).2⟩) hf hq
  exact va_alen C.1 C.2.1 C.2.2.2.2.2.2.2.2.2.2.2.1 Wd.1 a 0 (wld_at hs) rfl (v := i32 (n : Int)) rfl hd K
theorem Ok.gets {Sg : Nat → List Sh} {T u : Nat} {F : MI} {pc pc' : Nat} {ls : List (Option PV)} {st : List PV} {h : Hp} {Post : Int → Hp → Prop} {idx : Nat} (k : Nat) (hk : k < 2)
    (hd : decode F.2.2.1 pc = .ok (.getstatic idx, 3)) (hp : pc + 3 = pc') (hlink : Cond.fieldLink F.1 idx "CallMelt" (stN k) "[I" ∈ lw_u) (kk : Ok Sg T u F pc' ls (pR (1000000 + k) :: st) h Post) : Ok Sg T u F pc ls st h Post := by
  intro p l e R s m args below meth c D cI cQ A ad H locs LS Qc free C Wd L cs hf hq
  subst hp
  have K := kk p l e R s m args below meth c D cI cQ A ad H locs LS Qc free C Wd L (List.forall_mem_cons.mpr ⟨trivial, cs⟩) hf hq
  exact va_gets C.1 C.2.1 (Wd.2.2.2.2 k hk).1 Wd.2.2.1 C.2.2.2.2.1 (C.2.2.2.2.2.1 _ hlink) (fun _ z => z) hd K
theorem Ok.getsNe {Sg : Nat → List Sh} {T u : Nat} {F : MI} {pc pc' : Nat} {ls : List (Option PV)} {st : List PV} {h : Hp} {Post : Int → Hp → Prop} {idx : Nat} {host : String} (k : Nat) (hk : k < 2)
    (hd : decode F.2.2.1 pc = .ok (.getstatic idx, 3)) (hp : pc + 3 = pc') (hlink : Cond.fieldLinkNest F.1 idx "CallMelt" (stN k) "[I" host ∈ lw_u) (kk : Ok Sg T u F pc' ls (pR (1000000 + k) :: st) h Post) : Ok Sg T u F pc ls st h Post := by
  intro p l e R s m args below meth c D cI cQ A ad H locs LS Qc free C Wd L cs hf hq
  subst hp
  have K := kk p l e R s m args below meth c D cI cQ A ad H locs LS Qc free C Wd L (List.forall_mem_cons.mpr ⟨trivial, cs⟩) hf hq
  exact va_getsN C.1 C.2.1 (Wd.2.2.2.2 k hk).1 Wd.2.2.1 C.2.2.2.2.1 (C.2.2.2.2.2.1 _ hlink) (fun _ z => z) hd K
theorem Ok.getsN {Sg : Nat → List Sh} {T u : Nat} {F : MI} {pc pc' : Nat} {ls : List (Option PV)} {st : List PV} {h : Hp} {Post : Int → Hp → Prop} {a k : Nat} {i : Int} (q : Nat) (hq2 : q < 2)
    (hd : decode F.2.2.1 pc = .ok (.iaload, 1)) (hp : pc + 1 = pc') (ha : a = 1000000 + q) (hi : i = (k : Int)) (hk : k < 12) (kk : Ok Sg T u F pc' ls (pI (stT q k) :: st) h Post) : Ok Sg T u F pc ls (pI i :: pR a :: st) h Post := by
  intro p l e R s m args below meth c D cI cQ A ad H locs LS Qc free C Wd L cs hf hq
  subst hp; subst hi; subst ha
  have cs2 := List.forall_mem_cons.mp (List.forall_mem_cons.mp cs).2
  have hr : inR (stT q k) := by
    have h1 : ∀ q, q < 2 → ∀ k, k < 12 → (-2147483648 ≤ stT q k ∧ stT q k < 2147483648) := by decide
    exact h1 q hq2 k hk
  have K := kk p l e R s m args below meth c D cI cQ A ad H locs LS Qc free C Wd L (List.forall_mem_cons.mpr ⟨hr, cs2.2⟩) hf hq
  refine va_ti C.1 C.2.1 (Wd.2.2.2.2 q hq2).2 Wd.2.2.1 (i32_in hk (by omega)) (v := .int (i32 (stT q k))) ?_ hd K
  show Value.int (i32 (stT q (i32 (k : Int)).toNatClampNeg)) = _
  rw [i32_k (by omega)]
theorem Ok.getsL {Sg : Nat → List Sh} {T u : Nat} {F : MI} {pc pc' : Nat} {ls : List (Option PV)} {st : List PV} {h : Hp} {Post : Int → Hp → Prop} {a : Nat} (q : Nat) (hq2 : q < 2)
    (hd : decode F.2.2.1 pc = .ok (.arraylength, 1)) (hp : pc + 1 = pc') (ha : a = 1000000 + q) (kk : Ok Sg T u F pc' ls (pI 12 :: st) h Post) : Ok Sg T u F pc ls (pR a :: st) h Post := by
  intro p l e R s m args below meth c D cI cQ A ad H locs LS Qc free C Wd L cs hf hq
  subst hp; subst ha
  have K := kk p l e R s m args below meth c D cI cQ A ad H locs LS Qc free C Wd L (List.forall_mem_cons.mpr ⟨(by unfold cnV inR; show _ ∧ _; omega), (List.forall_mem_cons.mp cs).2⟩) hf hq
  exact va_tlen C.1 C.2.1 (Wd.2.2.2.2 q hq2).2 Wd.2.2.1 (v := i32 12) rfl hd K
theorem Ok.iret {Sg : Nat → List Sh} {T u : Nat} {F : MI} {pc : Nat} {ls : List (Option PV)} {h : Hp} {Post : Int → Hp → Prop} {z : Int}
    (hd : decode F.2.2.1 pc = .ok (.ireturn, 1)) (hr : F.2.2.2.2.1 = some .int) (hu : u ≤ T) (kk : Post z h) : Ok Sg T u F pc ls [pI z] h Post := by
  intro p l e R s m args below meth c D cI cQ A ad H locs LS Qc free C Wd L cs hf hq
  refine W.widen (k := 7 * T) (n := slz * T) (Nat.mul_le_mul_left _ hu) (Nat.mul_le_mul_left _ hu) ?_
  exact W.iret (v := i32 z) C.1 C.2.1 (C.2.2.1.trans hr) (fun t ht hW => hq z h ad t _ kk Ext.rf (by rw [ht]; exact Wd.1) Wd.2.1 Wd.2.2.2.1 (cs _ List.mem_cons_self) (by rw [hr]; exact rfl) hW (Wd.2.2.1.F ht)) (fun q hq0 => hf _ (Wd.2.2.1.2.2 q hq0)) hd C.2.2.2.2.2.2.1
theorem Ok.zret {Sg : Nat → List Sh} {T u : Nat} {F : MI} {pc : Nat} {ls : List (Option PV)} {h : Hp} {Post : Int → Hp → Prop} {z : Int}
    (hd : decode F.2.2.1 pc = .ok (.ireturn, 1)) (hr : F.2.2.2.2.1 = some .boolean) (hu : u ≤ T) (hz : z = 0 ∨ z = 1) (kk : Post z h) : Ok Sg T u F pc ls [pI z] h Post := by
  intro p l e R s m args below meth c D cI cQ A ad H locs LS Qc free C Wd L cs hf hq
  refine W.widen (k := 7 * T) (n := slz * T) (Nat.mul_le_mul_left _ hu) (Nat.mul_le_mul_left _ hu) ?_
  exact W.zret (v := i32 z) C.1 C.2.1 (C.2.2.1.trans hr) (z01 hz).1 (fun t ht hW => hq z h ad t _ kk Ext.rf (by rw [ht]; exact Wd.1) Wd.2.1 Wd.2.2.2.1 (cs _ List.mem_cons_self) (by rw [hr]; exact rfl) hW (Wd.2.2.1.F ht)) (fun q hq0 => hf _ (Wd.2.2.1.2.2 q hq0)) hd C.2.2.2.2.2.2.1
theorem Ok.vret {Sg : Nat → List Sh} {T u : Nat} {F : MI} {pc : Nat} {ls : List (Option PV)} {h : Hp} {Post : Int → Hp → Prop}
    (hd : decode F.2.2.1 pc = .ok (.return_, 1)) (hr : F.2.2.2.2.1 = none) (hu : u ≤ T) (kk : Post 0 h) : Ok Sg T u F pc ls [] h Post := by
  intro p l e R s m args below meth c D cI cQ A ad H locs LS Qc free C Wd L cs hf hq
  refine W.widen (k := 7 * T) (n := slz * T) (Nat.mul_le_mul_left _ hu) (Nat.mul_le_mul_left _ hu) ?_
  exact W.vret C.1 C.2.1 (C.2.2.1.trans hr) (fun t ht hW => hq 0 h ad t _ kk Ext.rf (by rw [ht]; exact Wd.1) Wd.2.1 Wd.2.2.2.1 (by unfold inR; omega) (by rw [hr]; exact ⟨rfl, rfl⟩) hW (Wd.2.2.1.F ht)) (fun q hq0 => hf _ (Wd.2.2.1.2.2 q hq0)) hd C.2.2.2.2.2.2.1
