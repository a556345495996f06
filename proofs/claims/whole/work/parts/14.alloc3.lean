/-! CONSTRUCTORS: calls of constructors -/
def QcN (S : List ShN) (D : va_G) (cI cQ : ClassId) (A : Nat → Prop) (ad : Nat → Nat) (Post : List ShN → Hp → Prop) : Array Value → State → Outcome → State → Prop := fun _ st o t =>
  (∃ (S' : List ShN) (h' : Hp) (ad' : Nat → Nat), o = .returned none ∧ Post S' h' ∧ S.length ≤ S'.length ∧ (∀ i, i < S.length ∨ S'.length ≤ i → ad' i = ad i) ∧ va_P D vwCl (wldN cI cQ ad' S' h') t.heap ∧ va_D A (wldN cI cQ ad' S' h') ∧ cnH h' ∧ zf S'.length h' ∧ vS S') ∧ va_F A st t
def PcN (F : MI) (S : List ShN) (D : va_G) (cI cQ : ClassId) (ad : Nat → Nat) (h : Hp) (sz : Nat) (U : State) : Prop :=
  U.heap.size = sz ∧ va_P D vwCl (wldN cI cQ ad S h) U.heap ∧ va_K D vwCl [(cI, .int), (cQ, .object RX5)] U ∧ va_D (fun _ => True) (wldN cI cQ ad S h) ∧ (F.1 = RX5 ∨ va_AO RX5 U) ∧ ∀ w ∈ lw_n, va_Nw w U
abbrev roomN (mc ms : Nat) (F : MI) : Room := { frames := F.2.2.2.2.2.1, cells := mc, slots := ms, locals := F.2.2.2.2.2.2 }
def MOkN (F : MI) : Prop := MOk F ∧ F.2.1.name = "<init>" ∧ F.2.2.2.2.1 = none ∧ Cond.instanceMethod F.2.1 ∈ lw_u
theorem OkN.met {F : MI} {mc ms : Nat} (hF : MOkN F) {av : List PV} {S : List ShN} {h : Hp} {Post : List ShN → Hp → Prop} (hn : (eaux av).length ≤ F.2.2.2.1) (hc : ∀ v ∈ av, cnV v) (hv : ∀ v ∈ av, vR S.length v) (hh : cnH h) (hz : zf S.length h) (hS : vS S) (k : ClN F mc ms av S h Post) (l : Launch) (D : va_G) (cI cQ : ClassId) (ad : Nat → Nat) (sz : Nat) :
    Met l F.2.1 (Cond.code F.2.1 F.2.2.1 F.2.2.2.1 none :: lw_g) (roomN mc ms F) (va_Pc (av.map (trV ad)) (PcN F S D cI cQ ad h sz)) (QcN S D cI cQ (va_A (wldN cI cQ ad S h) sz) ad Post) mc ms (va_A (wldN cI cQ ad S h) sz) := by
  refine Met.ofW (cc := F.2.2.1) (maxL := F.2.2.2.1) (ret := none) hF.1.1 rfl ?_
  intro p e s m args below meth c s₁ B hml hv'
  obtain ⟨rfl, hsz, hP, hK, hD0, hAO, hN⟩ := hv'
  have hts := atoms_spec (ws := Cond.code F.2.1 F.2.2.1 F.2.2.2.1 none :: lw_g) B.pre
  have hown : s.vm.findClass F.1 = some m.cls := by
    rw [← hF.1.2.1]
    exact findClass_of_methodNamed B.named
  subst hsz
  have hD := hD0.self (sz := s.heap.size)
  rw [lg_entry_eq]
  have C : CxN F mc ms p (headSpec (Cond.code F.2.1 F.2.2.1 F.2.2.2.1 none :: lw_g) (roomN mc ms F)).room s m (av.map (trV ad)).toArray meth c D cI cQ (va_A (wldN cI cQ ad S h) s.heap.size) :=
    ⟨B.exec, B.bytes, B.returns, hml, hown, fun w hw => (List.mem_append.mp hw).elim (fun hw => hts w (List.mem_cons_of_mem _ hw)) (fun hw => va_Nw.use (isNest_tab (List.mem_filter.mp hw).2) (hN w hw)), B.notSynchronized, Nat.le_refl _, Nat.le_refl _, Nat.le_refl _, Nat.le_refl _, hK, fun q hq => Or.inr hq, (name_of_methodNamed B.named B.method).1.trans hF.2.1, hAO⟩
  have K := k p l e _ s m _ below meth c D cI cQ _ ad s.heap [] _ (QcN S D cI cQ (va_A (wldN cI cQ ad S h) s.heap.size) ad Post) _ C ⟨hP, hD, va_S.rf, hh, hz, hS⟩ ⟨LVs.entry hn hc, (fun v hv => by cases hv), fun v hv2 => ?_, (fun v hv => by cases hv)⟩ (fun q hq => hq)
    (fun S' h' ad' t p1 p2 p3 p4 p5 p6 p7 p8 p9 p10 => ⟨⟨S', h', ad', rfl, p1, p2, p3, p4, p5, p6, p7, p8⟩, p10⟩)
  · exact K
  · obtain ⟨i, hi⟩ := List.getElem?_of_mem hv2
    exact hv v (eaux_mem av v (List.mem_of_getElem? (ents_at hi)))
theorem PcN.blind {F : MI} {S : List ShN} {D : va_G} {cI cQ : ClassId} {ad : Nat → Nat} {h : Hp} {sz : Nat} {av : List Value} : FrameBlind (va_Pc av (PcN F S D cI cQ ad h sz)) := by
  intro a U g mk q
  obtain ⟨q0, q1, qP, qK, qD, qA, qN⟩ := q
  exact ⟨q0, q1, qP, va_K.moved (u := U) (U := U.calling g mk a) (Vm.Alike.refl U.vm) qK, qD, qA.imp id (fun qA => va_AO.moved (u := U) (U := U.calling g mk a) (Vm.Alike.refl U.vm) qA), fun w hw => va_Nw.same (u := U) (U := U.calling g mk a) (isNest_tab (List.mem_filter.mp hw).2) rfl (qN w hw)⟩
theorem wldN_free {S : List ShN} {D : va_G} {cI cQ : ClassId} {A : Nat → Prop} {s : State} {ad : Nat → Nat} {h : Hp} {H : Heap} {locs : List Loc} (Wd0 : WdN S D cI cQ A s ad h H locs) (hA : ∀ q, s.heap.size ≤ q → A q) : ∀ q, va_A (wldN cI cQ ad S h) H.size q → A q := by
  intro q hq
  rcases hq with ⟨k, e, hk⟩ | hq
  · exact Wd0.2.1.2 k (q, e) hk
  · exact hA q (Nat.le_trans Wd0.2.2.1.1 hq)
theorem wldN_pc {G : MI} {S : List ShN} {F : MI} (hao : F.1 ≠ RX5) {mc ms : Nat} {p : Program} {R : Room} {s : State} {m : MethodId} {args : Array Value} {meth : Method} {c : Code} {D : va_G} {cI cQ : ClassId} {A : Nat → Prop} {ad : Nat → Nat} {h : Hp} {H : Heap} {locs : List Loc} (C : CxN F mc ms p R s m args meth c D cI cQ A) (Wd0 : WdN S D cI cQ A s ad h H locs) :
    ∀ U : State, U.heap = H → s.WarmedH U.vm → PcN G S D cI cQ ad h H.size U := by
  intro U hU hW
  exact ⟨by rw [hU], by rw [hU]; exact Wd0.1, va_K.moved hW.alike C.2.2.2.2.2.2.2.2.2.2.2.1, Wd0.2.1.weaken (fun _ _ _ _ => trivial), Or.inr (va_AO.moved hW.alike (C.2.2.2.2.2.2.2.2.2.2.2.2.2.2.resolve_left hao)), fun w hw => isNest_warm (List.mem_filter.mp hw).2 hW (va_Nw.of (isNest_tab (List.mem_filter.mp hw).2) (C.2.2.2.2.2.1 w (List.mem_append_right _ hw)))⟩
def CI (F : MI) (idx : Nat) (G : MI) (n : Nat) : Prop := MOkN G ∧ COk F G n ∧ Cond.methodLink F.1 idx G.2.1 ∈ lw_u
def CIN (F : MI) (idx : Nat) (G : MI) (n : Nat) (host : String) : Prop := MOkN G ∧ COk F G n ∧ Cond.methodLinkNest F.1 idx G.2.1 host ∈ lw_u
theorem okNgo {S : List ShN} {F : MI} {mc ms mc' ms' k n pc : Nat} {ls : List (Option PV)} {st0 : List Value} {rest : List PV} {h : Hp} {Post PG : List ShN → Hp → Prop}
    {p : Program} {l : Launch} {e : Env} {R : Room} {s : State} {m : MethodId} {args a : Array Value} {below : List Frame} {meth : Method} {c : Code} {D : va_G} {cI cQ : ClassId} {A : Nat → Prop} {ad : Nat → Nat} {H : Heap} {locs : List Loc} {LS : Array Slot} {Qc : Array Value → State → Outcome → State → Prop} {free : Addr → Prop}
    (C : CxN F mc ms p R s m args meth c D cI cQ A) (Wd0 : WdN S D cI cQ A s ad h H locs) (L : LVN ad S.length LS F.2.2.2.1 ls rest) (hf : ∀ q : Nat, A q → free q) (hq : RtN S D cI cQ A s args Qc ad Post)
    (hrun : va_Run p l e R s m args below meth c H locs k n mc' ms' (F0 m pc LS st0) (rest.map (trV ad)) (QcN S D cI cQ (va_A (wldN cI cQ ad S h) H.size) ad PG a) (va_A (wldN cI cQ ad S h) H.size))
    (kk : ∀ (S' : List ShN) (h' : Hp), PG S' h' → OkN F mc ms (k + mc') (n + ms') (pc + 3) ls rest S' h' Post) :
    W p l e R s m args below meth c H locs k n (MQ below Qc args s mc ms free) (F0 m pc LS st0) := by
  have hfr := wldN_free Wd0 C.2.2.2.2.2.2.2.2.2.2.2.2.1
  intro X hX St
  obtain ⟨v, st₀, t, X', Lc, h0, St', hL, e1, e2, ⟨⟨S', h', ad', hv, hp, hle, hext, hP1, hD1, hc1, hz1, hv1⟩, hz, hk⟩, go⟩ := hrun X hX St
  cases hv
  rw [h0] at hz hk
  have hS' : va_S A s.heap X'.heap (locs ++ Lc) := ⟨Nat.le_trans Wd0.2.2.1.1 (by rw [e1]; exact hz), fun q h1 h2 => by rw [e1, hk q (Nat.lt_of_lt_of_le h1 Wd0.2.2.1.1) (fun z => h2 (hfr q z))]; exact Wd0.2.2.1.2.1 q h1 h2, fun q hq => by
      rcases List.mem_append.mp hq with h | h
      · exact Wd0.2.2.1.2.2 q h
      · exact hfr _ (hL q h)⟩
  have Wd1 : WdN S' D cI cQ A s ad' h' X'.heap (locs ++ Lc) := ⟨by rw [e1]; exact hP1, hD1.weaken (fun _ q _ z => hfr q.1 z), hS', hc1, hz1, hv1⟩
  have he : ∀ i, i < S.length → ad' i = ad i := fun i hi => hext i (Or.inl hi)
  have L' : LVN ad' S'.length LS F.2.2.2.1 ls rest := by
    refine ⟨⟨⟨L.1.1.1, L.1.1.2.1, fun q hq => ?_⟩, L.1.2⟩, L.2.1, fun v hv => (L.2.2.1 v hv).mono hle, fun v hv => (L.2.2.2 v hv).mono hle⟩
    obtain ⟨w, h1, h2⟩ := lvl_mem.mp hq
    rw [h2, trV_N (L.2.2.1 w (List.mem_of_getElem? h1)) he]
    exact L.1.at h1
  have K := kk S' h' hp p l e R s m args below meth c D cI cQ A ad' X'.heap (locs ++ Lc) LS Qc free C Wd1 L' hf (hq.gr hle hext)
  have hst : rest.map (trV ad') = rest.map (trV ad) := List.map_congr_left (fun v hv => trV_N (L.2.2.2 v hv) he)
  obtain ⟨t2, a1, b1⟩ := K X' rfl St'
  refine ⟨t2, go t2 ?_, b1⟩
  rw [hst] at a1
  exact a1
theorem LVN.tail {ad : Nat → Nat} {N : Nat} {LS : Array Slot} {n : Nat} {ls : List (Option PV)} {st rest : List PV} (L : LVN ad N LS n ls st) (h : ∀ v ∈ rest, v ∈ st) : LVN ad N LS n ls rest := ⟨L.1, fun v hv => L.2.1 v (h v hv), L.2.2.1, fun v hv => L.2.2.2 v (h v hv)⟩
theorem OkN.callI {F G : MI} (hao : F.1 ≠ RX5) {mc ms mc' ms' k n pc pc' idx nn b : Nat} {ls : List (Option PV)} {st av rest : List PV} {S : List ShN} {h : Hp} {Post PG : List ShN → Hp → Prop}
    (hd : decode F.2.2.1 pc = .ok (.invokespecial idx, 3)) (hp : pc + 3 = pc') (hC : CI F idx G nn) (hst : st = av.reverse ++ pR b :: rest) (hn : av.length = nn) (hm : (eaux (pR b :: av)).length ≤ G.2.2.2.1) (hr : (rest.map cat).sum ≤ 8) (hk : k + mc' ≤ mc) (hs : n + ms' ≤ ms)
    (hG : ClN G mc' ms' (pR b :: av) S h PG) (kk : ∀ (S' : List ShN) (h' : Hp), PG S' h' → OkN F mc ms (k + mc') (n + ms') pc' ls rest S' h' Post) : OkN F mc ms k n pc ls st S h Post := by
  intro p l e R s m args below meth c D cI cQ A ad H locs LS Qc free C Wd0 L hf hq
  subst hp
  have hin : ∀ v ∈ pR b :: av, v ∈ st := fun v hv => by
    rw [hst]
    rcases List.mem_cons.mp hv with rfl | hv
    · exact List.mem_append_right _ List.mem_cons_self
    · exact List.mem_append_left _ (List.mem_reverse.mpr hv)
  have hM := OkN.met hC.1 hm (fun v hv => L.2.1 v (hin v hv)) (fun v hv => L.2.2.2 v (hin v hv)) Wd0.2.2.2.1 Wd0.2.2.2.2.1 Wd0.2.2.2.2.2 hG l D cI cQ ad H.size
  have L' : LVN ad S.length LS F.2.2.2.1 ls rest := L.tail (fun v hv => by rw [hst]; exact List.mem_append_right _ (List.mem_cons_of_mem _ hv))
  refine okNgo (mc' := mc') (ms' := ms') (a := (Value.ref (ad b) :: av.map (trV ad)).toArray) C Wd0 L' hf hq ?_ (fun S' h' hp => kk S' h' hp)
  have cb : CallB R s args F.1 idx G.2.1 G.2.2.1 G.2.2.2.1 none (Cond.code G.2.1 G.2.2.1 G.2.2.2.1 none :: lw_g) (roomN mc' ms' G) mc' ms' nn := by
    have hg := lw_gi hC.1.1
    have h1 := hC.1.1.2.2.1
    rw [hC.1.2.2.1] at hg h1
    exact ⟨rfl, rfl, Nat.le_trans hC.2.1.2.1 C.2.2.2.2.2.2.2.1, Nat.le_trans hC.2.1.2.2 C.2.2.2.2.2.2.2.2.1, pay_in (fun w hw => C.2.2.2.2.2.1 w (List.mem_append_left _ hw)) hg, List.mem_cons_self, C.2.2.2.2.2.1 _ (List.mem_append_left _ h1), by rw [hC.1.1.2.1]; exact C.2.2.2.2.2.1 _ hC.1.1.2.2.2.1, hC.1.1.2.2.2.2, hC.2.1.len, C.2.2.2.2.2.1 _ hC.2.2⟩
  exact va_runI (As := av.map (trV ad)) (rest := rest.map (trV ad)) ⟨C.1, C.2.1, C.2.2.2.1, C.2.2.2.2.1, C.2.2.2.2.2.1⟩ hM ⟨cb, hC.1.2.1, C.2.2.2.2.2.1 _ hC.1.2.2.2⟩
    ⟨PcN.blind, fun U hU hW => ⟨rfl, wldN_pc hao C Wd0 U hU hW⟩⟩ rfl (by rw [List.length_map]; exact hn) L.1.1.1 (trV_rev hst) (lv_room (by rw [cat_sum]; exact hr)) hd ⟨Nat.le_trans hk C.2.2.2.2.2.2.2.2.2.1, Nat.le_trans hs C.2.2.2.2.2.2.2.2.2.2.1⟩
theorem OkN.callIN {F G : MI} (hao : F.1 ≠ RX5) {mc ms mc' ms' k n pc pc' idx nn b : Nat} {ls : List (Option PV)} {st av rest : List PV} {S : List ShN} {h : Hp} {Post PG : List ShN → Hp → Prop} {host : String}
    (hd : decode F.2.2.1 pc = .ok (.invokespecial idx, 3)) (hp : pc + 3 = pc') (hC : CIN F idx G nn host) (hst : st = av.reverse ++ pR b :: rest) (hn : av.length = nn) (hm : (eaux (pR b :: av)).length ≤ G.2.2.2.1) (hr : (rest.map cat).sum ≤ 8) (hk : k + mc' ≤ mc) (hs : n + ms' ≤ ms)
    (hG : ClN G mc' ms' (pR b :: av) S h PG) (kk : ∀ (S' : List ShN) (h' : Hp), PG S' h' → OkN F mc ms (k + mc') (n + ms') pc' ls rest S' h' Post) : OkN F mc ms k n pc ls st S h Post := by
  intro p l e R s m args below meth c D cI cQ A ad H locs LS Qc free C Wd0 L hf hq
  subst hp
  have hin : ∀ v ∈ pR b :: av, v ∈ st := fun v hv => by
    rw [hst]
    rcases List.mem_cons.mp hv with rfl | hv
    · exact List.mem_append_right _ List.mem_cons_self
    · exact List.mem_append_left _ (List.mem_reverse.mpr hv)
  have hM := OkN.met hC.1 hm (fun v hv => L.2.1 v (hin v hv)) (fun v hv => L.2.2.2 v (hin v hv)) Wd0.2.2.2.1 Wd0.2.2.2.2.1 Wd0.2.2.2.2.2 hG l D cI cQ ad H.size
  have L' : LVN ad S.length LS F.2.2.2.1 ls rest := L.tail (fun v hv => by rw [hst]; exact List.mem_append_right _ (List.mem_cons_of_mem _ hv))
  refine okNgo (mc' := mc') (ms' := ms') (a := (Value.ref (ad b) :: av.map (trV ad)).toArray) C Wd0 L' hf hq ?_ (fun S' h' hp => kk S' h' hp)
  have cb : va_CN R s args F.1 idx G.2.1 host G.2.2.1 G.2.2.2.1 none (Cond.code G.2.1 G.2.2.1 G.2.2.2.1 none :: lw_g) (roomN mc' ms' G) mc' ms' nn := by
    have hg := lw_gi hC.1.1
    have h1 := hC.1.1.2.2.1
    rw [hC.1.2.2.1] at hg h1
    exact ⟨⟨rfl, rfl, Nat.le_trans hC.2.1.2.1 C.2.2.2.2.2.2.2.1, Nat.le_trans hC.2.1.2.2 C.2.2.2.2.2.2.2.2.1, pay_in (fun w hw => C.2.2.2.2.2.1 w (List.mem_append_left _ hw)) hg, List.mem_cons_self⟩, C.2.2.2.2.2.1 _ (List.mem_append_left _ h1), by rw [hC.1.1.2.1]; exact C.2.2.2.2.2.1 _ hC.1.1.2.2.2.1, hC.1.1.2.2.2.2, hC.2.1.len, C.2.2.2.2.2.1 _ hC.2.2⟩
  exact va_runIN (As := av.map (trV ad)) (rest := rest.map (trV ad)) ⟨C.1, C.2.1, C.2.2.2.1, C.2.2.2.2.1, C.2.2.2.2.2.1⟩ hM ⟨cb, hC.1.2.1, C.2.2.2.2.2.1 _ hC.1.2.2.2⟩
    ⟨PcN.blind, fun U hU hW => ⟨rfl, wldN_pc hao C Wd0 U hU hW⟩⟩ rfl (by rw [List.length_map]; exact hn) L.1.1.1 (trV_rev hst) (lv_room (by rw [cat_sum]; exact hr)) hd ⟨Nat.le_trans hk C.2.2.2.2.2.2.2.2.2.1, Nat.le_trans hs C.2.2.2.2.2.2.2.2.2.2.1⟩
