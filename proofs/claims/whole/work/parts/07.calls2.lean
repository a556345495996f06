/-! CALL ROWS -/
theorem lw_gi {F : MI} (hF : MOk F) : GoodIn lw_g (Cond.code F.2.1 F.2.2.1 F.2.2.2.1 F.2.2.2.2.1 :: lw_g) := fun w hw => by
  have h : w ∈ lw_g := by
    rcases List.mem_cons.mp hw with rfl | hw
    · exact hF.2.2.1
    · exact hw
  exact ⟨h, good_of_word (List.all_eq_true.mp lw_good w h)⟩
def COk (F : MI) (G : MI) (n : Nat) : Prop := (parseMethodDescriptor G.2.1.desc).map (fun d => d.parameters.length) = some n ∧ G.2.2.2.2.2.1 + 1 ≤ F.2.2.2.2.2.1 ∧ 8 + (G.2.2.2.1 + 11) + G.2.2.2.2.2.2 ≤ F.2.2.2.2.2.2
def CV (F : MI) (idx : Nat) (G : MI) (n : Nat) : Prop := MOk G ∧ COk F G n ∧ Cond.methodLink F.1 idx G.2.1 ∈ lw_u ∧ Cond.instanceMethod G.2.1 ∈ lw_u ∧ Cond.selects G.1 G.2.1 G.2.1 ∈ lw_u
def CS (F : MI) (idx : Nat) (G : MI) (n : Nat) : Prop := MOk G ∧ COk F G n ∧ Cond.methodLink F.1 idx G.2.1 ∈ lw_u ∧ Cond.static G.2.1 ∈ lw_u
def CVN (F : MI) (idx : Nat) (G : MI) (n : Nat) (host : String) : Prop := MOk G ∧ COk F G n ∧ Cond.methodLinkNest F.1 idx G.2.1 host ∈ lw_u ∧ Cond.instanceMethod G.2.1 ∈ lw_u ∧ Cond.selects G.1 G.2.1 G.2.1 ∈ lw_u
def CSN (F : MI) (idx : Nat) (G : MI) (n : Nat) (host : String) : Prop := MOk G ∧ COk F G n ∧ Cond.methodLinkNest F.1 idx G.2.1 host ∈ lw_u ∧ Cond.static G.2.1 ∈ lw_u
theorem COk.len {F G : MI} {n : Nat} (h : COk F G n) : ∀ sig, parseMethodDescriptor G.2.1.desc = some sig → n = sig.parameters.length := by
  intro sig hs
  have h2 := h.1
  rw [hs] at h2
  exact (Option.some.inj h2).symm
theorem cb_of {T : Nat} {F G : MI} {idx n : Nat} {p : Program} {R : Room} {s : State} {m : MethodId} {args : Array Value} {meth : Method} {c : Code} {D : va_G} {cI cQ : ClassId} {A : Nat → Prop} (C : Cx T F p R s m args meth c D cI cQ A) (hG : MOk G) (hC : COk F G n) (hl : (Cond.methodLink F.1 idx G.2.1).before args s = true) :
    CallB R s args F.1 idx G.2.1 G.2.2.1 G.2.2.2.1 G.2.2.2.2.1 (Cond.code G.2.1 G.2.2.1 G.2.2.2.1 G.2.2.2.2.1 :: lw_g) (roomOf 0 G) (7 * 0) (slz * 0) n :=
  ⟨rfl, rfl, Nat.le_trans hC.2.1 C.2.2.2.2.2.2.2.1, Nat.le_trans hC.2.2 C.2.2.2.2.2.2.2.2.1, pay_in (fun w hw => C.2.2.2.2.2.1 w (List.mem_append_left _ hw)) (lw_gi hG), List.mem_cons_self, C.2.2.2.2.2.1 _ (List.mem_append_left _ hG.2.2.1), by rw [hG.2.1]; exact C.2.2.2.2.2.1 _ hG.2.2.2.1, hG.2.2.2.2, hC.len, hl⟩
theorem cn_of {T : Nat} {F G : MI} {idx n : Nat} {host : String} {p : Program} {R : Room} {s : State} {m : MethodId} {args : Array Value} {meth : Method} {c : Code} {D : va_G} {cI cQ : ClassId} {A : Nat → Prop} (C : Cx T F p R s m args meth c D cI cQ A) (hG : MOk G) (hC : COk F G n) (hl : (Cond.methodLinkNest F.1 idx G.2.1 host).before args s = true) :
    va_CN R s args F.1 idx G.2.1 host G.2.2.1 G.2.2.2.1 G.2.2.2.2.1 (Cond.code G.2.1 G.2.2.1 G.2.2.2.1 G.2.2.2.2.1 :: lw_g) (roomOf 0 G) (7 * 0) (slz * 0) n :=
  ⟨⟨rfl, rfl, Nat.le_trans hC.2.1 C.2.2.2.2.2.2.2.1, Nat.le_trans hC.2.2 C.2.2.2.2.2.2.2.2.1, pay_in (fun w hw => C.2.2.2.2.2.1 w (List.mem_append_left _ hw)) (lw_gi hG), List.mem_cons_self⟩, C.2.2.2.2.2.1 _ (List.mem_append_left _ hG.2.2.1), by rw [hG.2.1]; exact C.2.2.2.2.2.1 _ hG.2.2.2.1, hG.2.2.2.2, hC.len, hl⟩
theorem wld_recv {Sg : Nat → List Sh} {D : va_G} {cI cQ : ClassId} {s : State} {ad : Nat → Nat} {h : Hp} {H : Heap} {b ci N : Nat} {fs : List (Option Nat)} {C0 : String} {TX : u_T} (hK : va_K D vwCl [(cI, .int), (cQ, .object RX5)] s) (hP : va_P D vwCl (wld cI cQ ad (Sg h.2.2) h) H) (hs : (Sg h.2.2)[b]? = some (shO ci fs)) (hc : vwCl[ci]? = some (C0, TX, N)) :
    ∃ cellB : Cell, H[ad b]? = some cellB ∧ cellB.vm.isStatics = false ∧ s.vm.findClass C0 = some cellB.cls := va_recv hK hP hc (wld_at hs)
theorem trV_rev {ad : Nat → Nat} {st av rest : List PV} {b : Nat} (h : st = av.reverse ++ pR b :: rest) : st.map (trV ad) = (av.map (trV ad)).reverse ++ .ref (ad b) :: rest.map (trV ad) := by
  rw [h, List.map_append, List.map_reverse]
  rfl
theorem trV_revS {ad : Nat → Nat} {st av rest : List PV} (h : st = av.reverse ++ rest) : st.map (trV ad) = (av.map (trV ad)).reverse ++ rest.map (trV ad) := by
  rw [h, List.map_append, List.map_reverse]
def cat (v : PV) : Nat := match v with
  | .inr (.inr _) => 2
  | _ => 1
theorem cat_sum (ad : Nat → Nat) : ∀ rest : List PV, ((rest.map (trV ad)).map fun v => v.category).sum = (rest.map cat).sum
  | [] => rfl
  | .inr (.inr z) :: l => by
    have h := cat_sum ad l
    simp only [List.map_cons, List.sum_cons]
    rw [h]
    rfl
  | .inr (.inl z) :: l => by
    have h := cat_sum ad l
    simp only [List.map_cons, List.sum_cons]
    rw [h]
    rfl
  | .inl z :: l => by
    have h := cat_sum ad l
    simp only [List.map_cons, List.sum_cons]
    rw [h]
    rfl
theorem Ok.callV {Sg : Nat → List Sh} {T u : Nat} {F G : MI} {pc pc' idx n : Nat} {ls : List (Option PV)} {st av rest : List PV} {h : Hp} {Post PG : Int → Hp → Prop} {b ci N : Nat} {fs : List (Option Nat)} {TX : u_T}
    (hd : decode F.2.2.1 pc = .ok (.invokevirtual idx, 3)) (hp : pc + 3 = pc') (hu : u ≤ T) (hC : CV F idx G n) (hs : (Sg h.2.2)[b]? = some (shO ci fs)) (hc : vwCl[ci]? = some (G.1, TX, N)) (hst : st = av.reverse ++ pR b :: rest) (hn : av.length = n) (hm : (eaux (pR b :: av)).length ≤ G.2.2.2.1) (hr : (rest.map cat).sum ≤ 8)
    (hG : Ok Sg 0 0 G 0 (ents (pR b :: av) G.2.2.2.1) [] h PG) (k : ∀ (r : Int) (h' : Hp), PG r h' → Ok Sg T u F pc' ls (rp G.2.2.2.2.1 r ++ rest) h' Post) : Ok Sg T u F pc ls st h Post := by
  intro p l e R s m args below meth c D cI cQ A ad H locs LS Qc free C Wd0 L cs hf hq
  subst hp
  have hc1 : ∀ v ∈ pR b :: av, cnV v := fun v hv => cs v (by
    rw [hst]
    rcases List.mem_cons.mp hv with rfl | hv
    · exact List.mem_append_right _ List.mem_cons_self
    · exact List.mem_append_left _ (List.mem_reverse.mpr hv))
  have hc2 : ∀ v ∈ rest, cnV v := fun v hv => cs v (by rw [hst]; exact List.mem_append_right _ (List.mem_cons_of_mem _ hv))
  have hM := Ok.met hC.1 hm hc1 Wd0.2.2.2.1 hG l D cI cQ ad H.size
  have hc7 : 7 * u + 7 * 0 ≤ R.cells ∧ slz * u + slz * 0 ≤ R.slots := by
    have h1 := C.2.2.2.2.2.2.2.2.2.1
    have h2 := C.2.2.2.2.2.2.2.2.2.2.1
    exact ⟨Nat.le_trans (Nat.mul_le_mul_left _ hu) h1, Nat.le_trans (Nat.mul_le_mul_left _ hu) h2⟩
  refine okgo (a := (Value.ref (ad b) :: av.map (trV ad)).toArray) C Wd0 L hc2 hf hq ?_ (fun r h' hp => k r h' hp)
  exact va_runV (As := av.map (trV ad)) (rest := rest.map (trV ad)) ⟨C.1, C.2.1, C.2.2.2.1, C.2.2.2.2.1, C.2.2.2.2.2.1⟩ hM ⟨cb_of C hC.1 hC.2.1 (C.2.2.2.2.2.1 _ hC.2.2.1), C.2.2.2.2.2.1 _ hC.2.2.2.1, C.2.2.2.2.2.1 _ hC.2.2.2.2⟩
    ⟨PcP.blind, wld_recv C.2.2.2.2.2.2.2.2.2.2.2.1 Wd0.1 hs hc, fun U hU hW => ⟨rfl, wld_pc C Wd0 U hU hW⟩⟩ rfl (by rw [List.length_map]; exact hn) L.1.1 (trV_rev hst) (lv_room (by rw [cat_sum]; exact hr)) hd hc7
theorem Ok.callVN {Sg : Nat → List Sh} {T u : Nat} {F G : MI} {pc pc' idx n : Nat} {ls : List (Option PV)} {st av rest : List PV} {h : Hp} {Post PG : Int → Hp → Prop} {b ci N : Nat} {fs : List (Option Nat)} {TX : u_T} {host : String}
    (hd : decode F.2.2.1 pc = .ok (.invokevirtual idx, 3)) (hp : pc + 3 = pc') (hu : u ≤ T) (hC : CVN F idx G n host) (hs : (Sg h.2.2)[b]? = some (shO ci fs)) (hc : vwCl[ci]? = some (G.1, TX, N)) (hst : st = av.reverse ++ pR b :: rest) (hn : av.length = n) (hm : (eaux (pR b :: av)).length ≤ G.2.2.2.1) (hr : (rest.map cat).sum ≤ 8)
    (hG : Ok Sg 0 0 G 0 (ents (pR b :: av) G.2.2.2.1) [] h PG) (k : ∀ (r : Int) (h' : Hp), PG r h' → Ok Sg T u F pc' ls (rp G.2.2.2.2.1 r ++ rest) h' Post) : Ok Sg T u F pc ls st h Post := by
  intro p l e R s m args below meth c D cI cQ A ad H locs LS Qc free C Wd0 L cs hf hq
  subst hp
  have hc1 : ∀ v ∈ pR b :: av, cnV v := fun v hv => cs v (by
    rw [hst]
    rcases List.mem_cons.mp hv with rfl | hv
    · exact List.mem_append_right _ List.mem_cons_self
    · exact List.mem_append_left _ (List.mem_reverse.mpr hv))
  have hc2 : ∀ v ∈ rest, cnV v := fun v hv => cs v (by rw [hst]; exact List.mem_append_right _ (List.mem_cons_of_mem _ hv))
  have hM := Ok.met hC.1 hm hc1 Wd0.2.2.2.1 hG l D cI cQ ad H.size
  have hc7 : 7 * u + 7 * 0 ≤ R.cells ∧ slz * u + slz * 0 ≤ R.slots := by
    have h1 := C.2.2.2.2.2.2.2.2.2.1
    have h2 := C.2.2.2.2.2.2.2.2.2.2.1
    exact ⟨Nat.le_trans (Nat.mul_le_mul_left _ hu) h1, Nat.le_trans (Nat.mul_le_mul_left _ hu) h2⟩
  refine okgo (a := (Value.ref (ad b) :: av.map (trV ad)).toArray) C Wd0 L hc2 hf hq ?_ (fun r h' hp => k r h' hp)
  exact va_runVN (As := av.map (trV ad)) (rest := rest.map (trV ad)) ⟨C.1, C.2.1, C.2.2.2.1, C.2.2.2.2.1, C.2.2.2.2.2.1⟩ hM ⟨cn_of C hC.1 hC.2.1 (C.2.2.2.2.2.1 _ hC.2.2.1), C.2.2.2.2.2.1 _ hC.2.2.2.1, C.2.2.2.2.2.1 _ hC.2.2.2.2⟩
    ⟨PcP.blind, wld_recv C.2.2.2.2.2.2.2.2.2.2.2.1 Wd0.1 hs hc, fun U hU hW => ⟨rfl, wld_pc C Wd0 U hU hW⟩⟩ rfl (by rw [List.length_map]; exact hn) L.1.1 (trV_rev hst) (lv_room (by rw [cat_sum]; exact hr)) hd hc7
theorem Ok.callS {Sg : Nat → List Sh} {T u : Nat} {F G : MI} {pc pc' idx n : Nat} {ls : List (Option PV)} {st av rest : List PV} {h : Hp} {Post PG : Int → Hp → Prop}
    (hd : decode F.2.2.1 pc = .ok (.invokestatic idx, 3)) (hp : pc + 3 = pc') (hu : u ≤ T) (hC : CS F idx G n) (hst : st = av.reverse ++ rest) (hn : av.length = n) (hm : (eaux (av)).length ≤ G.2.2.2.1) (hr : (rest.map cat).sum ≤ 8)
    (hG : Ok Sg 0 0 G 0 (ents (av) G.2.2.2.1) [] h PG) (k : ∀ (r : Int) (h' : Hp), PG r h' → Ok Sg T u F pc' ls (rp G.2.2.2.2.1 r ++ rest) h' Post) : Ok Sg T u F pc ls st h Post := by
  intro p l e R s m args below meth c D cI cQ A ad H locs LS Qc free C Wd0 L cs hf hq
  subst hp
  have hc1 : ∀ v ∈ av, cnV v := fun v hv => cs v (by
    rw [hst]
    exact List.mem_append_left _ (List.mem_reverse.mpr hv))
  have hc2 : ∀ v ∈ rest, cnV v := fun v hv => cs v (by rw [hst]; exact List.mem_append_right _ hv)
  have hM := Ok.met hC.1 hm hc1 Wd0.2.2.2.1 hG l D cI cQ ad H.size
  have hc7 : 7 * u + 7 * 0 ≤ R.cells ∧ slz * u + slz * 0 ≤ R.slots := by
    have h1 := C.2.2.2.2.2.2.2.2.2.1
    have h2 := C.2.2.2.2.2.2.2.2.2.2.1
    exact ⟨Nat.le_trans (Nat.mul_le_mul_left _ hu) h1, Nat.le_trans (Nat.mul_le_mul_left _ hu) h2⟩
  refine okgo (a := (av.map (trV ad)).toArray) C Wd0 L hc2 hf hq ?_ (fun r h' hp => k r h' hp)
  exact va_runS (As := av.map (trV ad)) (rest := rest.map (trV ad)) ⟨C.1, C.2.1, C.2.2.2.1, C.2.2.2.2.1, C.2.2.2.2.2.1⟩ hM ⟨cb_of C hC.1 hC.2.1 (C.2.2.2.2.2.1 _ hC.2.2.1), C.2.2.2.2.2.1 _ hC.2.2.2⟩
    ⟨PcP.blind, fun U hU hW => ⟨rfl, wld_pc C Wd0 U hU hW⟩⟩ rfl (by rw [List.length_map]; exact hn) L.1.1 (trV_revS hst) (lv_room (by rw [cat_sum]; exact hr)) hd hc7
theorem Ok.callSN {Sg : Nat → List Sh} {T u : Nat} {F G : MI} {pc pc' idx n : Nat} {ls : List (Option PV)} {st av rest : List PV} {h : Hp} {Post PG : Int → Hp → Prop} {host : String}
    (hd : decode F.2.2.1 pc = .ok (.invokestatic idx, 3)) (hp : pc + 3 = pc') (hu : u ≤ T) (hC : CSN F idx G n host) (hst : st = av.reverse ++ rest) (hn : av.length = n) (hm : (eaux (av)).length ≤ G.2.2.2.1) (hr : (rest.map cat).sum ≤ 8)
    (hG : Ok Sg 0 0 G 0 (ents (av) G.2.2.2.1) [] h PG) (k : ∀ (r : Int) (h' : Hp), PG r h' → Ok Sg T u F pc' ls (rp G.2.2.2.2.1 r ++ rest) h' Post) : Ok Sg T u F pc ls st h Post := by
  intro p l e R s m args below meth c D cI cQ A ad H locs LS Qc free C Wd0 L cs hf hq
  subst hp
  have hc1 : ∀ v ∈ av, cnV v := fun v hv => cs v (by
    rw [hst]
    exact List.mem_append_left _ (List.mem_reverse.mpr hv))
  have hc2 : ∀ v ∈ rest, cnV v := fun v hv => cs v (by rw [hst]; exact List.mem_append_right _ hv)
  have hM := Ok.met hC.1 hm hc1 Wd0.2.2.2.1 hG l D cI cQ ad H.size
  have hc7 : 7 * u + 7 * 0 ≤ R.cells ∧ slz * u + slz * 0 ≤ R.slots := by
    have h1 := C.2.2.2.2.2.2.2.2.2.1
    have h2 := C.2.2.2.2.2.2.2.2.2.2.1
    exact ⟨Nat.le_trans (Nat.mul_le_mul_left _ hu) h1, Nat.le_trans (Nat.mul_le_mul_left _ hu) h2⟩
  refine okgo (a := (av.map (trV ad)).toArray) C Wd0 L hc2 hf hq ?_ (fun r h' hp => k r h' hp)
  exact va_runSN (As := av.map (trV ad)) (rest := rest.map (trV ad)) ⟨C.1, C.2.1, C.2.2.2.1, C.2.2.2.2.1, C.2.2.2.2.2.1⟩ hM ⟨cn_of C hC.1 hC.2.1 (C.2.2.2.2.2.1 _ hC.2.2.1), C.2.2.2.2.2.1 _ hC.2.2.2, trivial⟩
    ⟨PcP.blind, fun U hU hW => ⟨rfl, wld_pc C Wd0 U hU hW⟩⟩ rfl (by rw [List.length_map]; exact hn) L.1.1 (trV_revS hst) (lv_room (by rw [cat_sum]; exact hr)) hd hc7
/-- System.arraycopy of ints -/
def copyTo (h : Hp) (a b sp dp n : Nat) : Hp := (fun a' i => if a' = b ∧ dp ≤ i ∧ i < dp + n then h.1 a (sp + (i - dp)) else h.1 a' i, h.2)
theorem wld_C {cI cQ : ClassId} {ad : Nat → Nat} {S : List Sh} {h : Hp} {a b nb : Nat} (hs : S[b]? = some (shA nb)) (sp dp n : Nat) :
    (wld cI cQ ad S h).set b (ad b, .inl (cI, nb, .inl (va_cpy (fun j => i32 (h.1 a j)) (fun j => i32 (h.1 b j)) sp dp n))) = wld cI cQ ad S (copyTo h a b sp dp n) := by
  apply List.ext_getElem?
  intro o
  by_cases ho : o = b
  · subst ho
    have hl : o < (wld cI cQ ad S h).length := by
      unfold wld
      rw [List.length_mapIdx]
      exact (List.getElem?_eq_some_iff.mp hs).1
    rw [List.getElem?_set_self hl, wld_at hs]
    simp only [ent, copyTo]
    congr 6
    funext j
    simp only [va_cpy]
    by_cases hj : dp ≤ j ∧ j < dp + n <;> simp [hj]
  · rw [List.getElem?_set_ne (fun q => ho q.symm)]
    unfold wld
    rw [List.getElem?_mapIdx, List.getElem?_mapIdx]
    cases hso : S[o]? with
    | none => rfl
    | some sh =>
      rcases sh with n' | ⟨ci, fs⟩ | ⟨n', f⟩ <;> simp [ent, copyTo, ho]
theorem cnH.C {h : Hp} (c : cnH h) (a b sp dp n : Nat) : cnH (copyTo h a b sp dp n) := by
  refine ⟨fun a' i' => ?_, c.2⟩
  show inR (if a' = b ∧ dp ≤ i' ∧ i' < dp + n then h.1 a (sp + (i' - dp)) else h.1 a' i')
  split
  · exact c.1 _ _
  · exact c.1 a' i'
theorem Ok.copy {Sg : Nat → List Sh} {T u : Nat} {F : MI} {pc pc' idx : Nat} {ls : List (Option PV)} {rest : List PV} {h : Hp} {Post : Int → Hp → Prop} {a b na nb sp dp n : Nat} {zs zd zn : Int}
    (hd : decode F.2.2.1 pc = .ok (.invokestatic idx, 3)) (hp : pc + 3 = pc') (hsa : (Sg h.2.2)[a]? = some (shA na)) (hsb : (Sg h.2.2)[b]? = some (shA nb)) (hna : na < 2147483648) (hnb : nb < 2147483648) (hz : zs = (sp : Int) ∧ zd = (dp : Int) ∧ zn = (n : Int)) (h1 : sp + n ≤ na) (h2 : dp + n ≤ nb)
    (hw : Cond.methodLink F.1 idx arraycopyName ∈ lw_u ∧ Cond.native arraycopyName ∈ lw_u ∧ Cond.static arraycopyName ∈ lw_u ∧ Cond.initialized "java/lang/System" ∈ lw_u) (hfr : 1 ≤ F.2.2.2.2.2.1) (hlo : (rest.map cat).sum + (nativeFrameWords "java/lang/System" "arraycopy" 5 + 11) ≤ F.2.2.2.2.2.2)
    (k : Ok Sg T u F pc' ls rest (copyTo h a b sp dp n) Post) : Ok Sg T u F pc ls (pI zn :: pI zd :: pR b :: pI zs :: pR a :: rest) h Post := by
  intro p l e R s m args below meth c D cI cQ A ad H locs LS Qc free C Wd0 L cs hf hq
  subst hp
  obtain ⟨rfl, rfl, rfl⟩ := hz
  have c5 := (List.forall_mem_cons.mp (List.forall_mem_cons.mp (List.forall_mem_cons.mp (List.forall_mem_cons.mp (List.forall_mem_cons.mp cs).2).2).2).2).2
  have nn : ∀ q : Nat, q < 2147483648 → ¬ i32 (q : Int) < 0 := fun q hq hx => by
    have h0 : (0 : Int32) = i32 0 := rfl
    rw [h0, i32_lt (by unfold inR; omega) (by unfold inR; omega)] at hx
    omega
  have tn : ∀ q : Nat, q < 2147483648 → (i32 (q : Int)).toNatClampNeg = q := fun q hq => i32_k hq
  refine va_copyi C.1 C.2.1 (C.2.2.2.1.trans L.1.1.symm) C.2.2.2.2.1 (C.2.2.2.2.2.1 _ hw.1) (C.2.2.2.2.2.1 _ hw.2.1) (C.2.2.2.2.2.1 _ hw.2.2.1) (C.2.2.2.2.2.1 _ hw.2.2.2) C.2.2.2.2.2.2.2.2.2.2.2.1 Wd0.1 Wd0.2.1 Wd0.2.2.1 a b 0 0 (wld_at hsa) (wld_at hsb) rfl rfl rfl
    (nn sp (by omega)) (nn dp (by omega)) (nn n (by omega)) (by rw [tn sp (by omega), tn n (by omega)]; exact h1) (by rw [tn dp (by omega), tn n (by omega)]; exact h2) (fun i _ => rfl) (Nat.le_trans hfr C.2.2.2.2.2.2.2.1) (by rw [cat_sum]; exact Nat.le_trans hlo C.2.2.2.2.2.2.2.2.1) hd (fun H1 locs1 hP hD hS => ?_)
  rw [tn sp (by omega), tn dp (by omega), tn n (by omega)] at hP hD
  rw [wld_C hsb sp dp n] at hP hD
  exact k p l e R s m args below meth c D cI cQ A ad H1 locs1 LS Qc free C ⟨hP, hD, hS, Wd0.2.2.2.1.C a b sp dp n, Wd0.2.2.2.2⟩ L c5 hf hq
/-- a call, as a formula: the method at these arguments comes to its end, with P -/
def Cl (Sg : Nat → List Sh) (G : MI) (av : List PV) (h : Hp) (P : Int → Hp → Prop) : Prop := Ok Sg 0 0 G 0 (ents av G.2.2.2.1) [] h P
def Cl1 (Sg : Nat → List Sh) (G : MI) (av : List PV) (h : Hp) (P : Int → Hp → Prop) : Prop := Ok Sg 1 0 G 0 (ents av G.2.2.2.1) [] h P
theorem Cl.mono {Sg : Nat → List Sh} {G : MI} {av : List PV} {h : Hp} {P Q : Int → Hp → Prop} (k : Cl Sg G av h P) (hpq : ∀ r h', P r h' → Q r h') : Cl Sg G av h Q := Ok.mono k (fun r h' p _ _ => hpq r h' p)
/-- fewer locals -/
def lsub : List (Option PV) → List (Option PV) → Prop
  | _, [] => True
  | [], _ :: _ => False
  | _ :: xs, none :: ys => lsub xs ys
  | x :: xs, some v :: ys => x = some v ∧ lsub xs ys
theorem lsub_at : ∀ (ls ls' : List (Option PV)), lsub ls ls' → ∀ (i : Nat) (v : PV), ls'[i]? = some (some v) → ls[i]? = some (some v)
  | _, [], _, i, v, hi => by simp at hi
  | [], _ :: _, h, _, _, _ => h.elim
  | x :: xs, none :: ys, h, i, v, hi => by
    rcases i with _ | i
    · simp at hi
    · simp only [List.getElem?_cons_succ] at hi ⊢
      exact lsub_at xs ys h i v hi
  | x :: xs, some w :: ys, h, i, v, hi => by
    rcases i with _ | i
    · simp only [List.getElem?_cons_zero] at hi ⊢
      rw [h.1]
      exact hi
    · simp only [List.getElem?_cons_succ] at hi ⊢
      exact lsub_at xs ys h.2 i v hi
theorem Ok.fl {Sg : Nat → List Sh} {T u : Nat} {F : MI} {pc : Nat} {ls ls' : List (Option PV)} {st : List PV} {h : Hp} {Post : Int → Hp → Prop} (k : Ok Sg T u F pc ls' st h Post) (hl : lsub ls ls') : Ok Sg T u F pc ls st h Post := by
  intro p l e R s m args below meth c D cI cQ A ad H locs LS Qc free C Wd0 L cs hf hq
  refine k p l e R s m args below meth c D cI cQ A ad H locs LS Qc free C Wd0 ⟨⟨L.1.1, L.1.2.1, fun q hq => ?_⟩, fun v hv => ?_⟩ cs hf hq
  · obtain ⟨v, h1, h2⟩ := lvl_mem.mp hq
    rw [h2]
    exact L.at (lsub_at ls ls' hl q.1 v h1)
  · obtain ⟨i, hi⟩ := List.getElem?_of_mem hv
    exact L.cn (lsub_at ls ls' hl i v hi)
theorem in_0 : inR 0 := ⟨by decide, by decide⟩
theorem in_1 : inR 1 := ⟨by decide, by decide⟩
theorem in_2 : inR 2 := ⟨by decide, by decide⟩
theorem in_3 : inR 3 := ⟨by decide, by decide⟩
theorem in_4 : inR 4 := ⟨by decide, by decide⟩
theorem in_5 : inR 5 := ⟨by decide, by decide⟩
theorem in_m1 : inR (-1) := ⟨by decide, by decide⟩
theorem Ok.mmax {Sg : Nat → List Sh} {T u : Nat} {F : MI} {pc pc' idx : Nat} {ls : List (Option PV)} {rest : List PV} {h : Hp} {Post : Int → Hp → Prop} {x y : Int}
    (hd : decode F.2.2.1 pc = .ok (.invokestatic idx, 3)) (hp : pc + 3 = pc') (hu : u ≤ T) (hw : Cond.methodLink F.1 idx Lib.Math.max.name ∈ lw_u ∧ Cond.static Lib.Math.max.name ∈ lw_u ∧ Cond.initialized "java/lang/Math" ∈ lw_u ∧ Cond.code Lib.Math.max.name Lib.Math.max.code 2 (some .int) ∈ lw_u) (hfr : 1 ≤ F.2.2.2.2.2.1) (hlo : (rest.map cat).sum + 13 ≤ F.2.2.2.2.2.2)
    (k : Ok Sg T u F pc' ls (pI (max x y) :: rest) h Post) : Ok Sg T u F pc ls (pI y :: pI x :: rest) h Post := by
  intro p l e R s m args below meth c D cI cQ A ad H locs LS Qc free C Wd0 L cs hf hq
  subst hp
  have cs1 := List.forall_mem_cons.mp cs
  have cs2 := List.forall_mem_cons.mp cs1.2
  have hy : inR y := cs1.1
  have hx : inR x := cs2.1
  have hr : inR (max x y) := by
    unfold inR at *
    omega
  have K := k p l e R s m args below meth c D cI cQ A ad H locs LS Qc free C Wd0 L (List.forall_mem_cons.mpr ⟨hr, cs2.2⟩) hf hq
  have hc7 : 7 * u ≤ R.cells ∧ slz * u ≤ R.slots := ⟨Nat.le_trans (Nat.mul_le_mul_left _ hu) C.2.2.2.2.2.2.2.2.2.1, Nat.le_trans (Nat.mul_le_mul_left _ hu) C.2.2.2.2.2.2.2.2.2.2.1⟩
  refine va_mmax C.1 C.2.1 (C.2.2.2.1.trans L.1.1.symm) C.2.2.2.2.1 (C.2.2.2.2.2.1 _ hw.1) (C.2.2.2.2.2.1 _ hw.2.1) (C.2.2.2.2.2.1 _ hw.2.2.1) (C.2.2.2.2.2.1 _ hw.2.2.2) (Nat.le_trans hfr C.2.2.2.2.2.2.2.1) (by rw [cat_sum]; exact Nat.le_trans hlo C.2.2.2.2.2.2.2.2.1) hc7.1 hc7.2 hd ?_
  have he : (if i32 x < i32 y then i32 y else i32 x) = i32 (max x y) := by
    by_cases q : x < y
    · rw [if_pos ((i32_lt hx hy).mpr q), show max x y = y by omega]
    · rw [if_neg (fun z => q ((i32_lt hx hy).mp z)), show max x y = x by omega]
  rw [he]
  exact K
theorem Ok.mmin {Sg : Nat → List Sh} {T u : Nat} {F : MI} {pc pc' idx : Nat} {ls : List (Option PV)} {rest : List PV} {h : Hp} {Post : Int → Hp → Prop} {x y : Int}
    (hd : decode F.2.2.1 pc = .ok (.invokestatic idx, 3)) (hp : pc + 3 = pc') (hu : u ≤ T) (hw : Cond.methodLink F.1 idx Lib.Math.min.name ∈ lw_u ∧ Cond.static Lib.Math.min.name ∈ lw_u ∧ Cond.initialized "java/lang/Math" ∈ lw_u ∧ Cond.code Lib.Math.min.name Lib.Math.min.code 2 (some .int) ∈ lw_u) (hfr : 1 ≤ F.2.2.2.2.2.1) (hlo : (rest.map cat).sum + 13 ≤ F.2.2.2.2.2.2)
    (k : Ok Sg T u F pc' ls (pI (min x y) :: rest) h Post) : Ok Sg T u F pc ls (pI y :: pI x :: rest) h Post := by
  intro p l e R s m args below meth c D cI cQ A ad H locs LS Qc free C Wd0 L cs hf hq
  subst hp
  have cs1 := List.forall_mem_cons.mp cs
  have cs2 := List.forall_mem_cons.mp cs1.2
  have hy : inR y := cs1.1
  have hx : inR x := cs2.1
  have hr : inR (min x y) := by
    unfold inR at *
    omega
  have K := k p l e R s m args below meth c D cI cQ A ad H locs LS Qc free C Wd0 L (List.forall_mem_cons.mpr ⟨hr, cs2.2⟩) hf hq
  have hc7 : 7 * u ≤ R.cells ∧ slz * u ≤ R.slots := ⟨Nat.le_trans (Nat.mul_le_mul_left _ hu) C.2.2.2.2.2.2.2.2.2.1, Nat.le_trans (Nat.mul_le_mul_left _ hu) C.2.2.2.2.2.2.2.2.2.2.1⟩
  refine va_mmin C.1 C.2.1 (C.2.2.2.1.trans L.1.1.symm) C.2.2.2.2.1 (C.2.2.2.2.2.1 _ hw.1) (C.2.2.2.2.2.1 _ hw.2.1) (C.2.2.2.2.2.1 _ hw.2.2.1) (C.2.2.2.2.2.1 _ hw.2.2.2) (Nat.le_trans hfr C.2.2.2.2.2.2.2.1) (by rw [cat_sum]; exact Nat.le_trans hlo C.2.2.2.2.2.2.2.2.1) hc7.1 hc7.2 hd ?_
  have he : (if i32 y < i32 x then i32 y else i32 x) = i32 (min x y) := by
    by_cases q : y < x
    · rw [if_pos ((i32_lt hy hx).mpr q), show min x y = y by omega]
    · rw [if_neg (fun z => q ((i32_lt hy hx).mp z)), show min x y = x by omega]
  rw [he]
  exact K
theorem leb {a b : Nat} (h : Nat.ble a b = true) : a ≤ b := Nat.le_of_ble_eq_true h
