/-! CALLS -/
def eaux : List PV → List (Option PV)
  | [] => []
  | .inr (.inr z) :: av => some (.inr (.inr z)) :: none :: eaux av
  | v :: av => some v :: eaux av
def ents (av : List PV) (n : Nat) : List (Option PV) := eaux av ++ List.replicate (n - (eaux av).length) none
theorem eaux_len (ad : Nat → Nat) : ∀ av : List PV, (eaux av).length = (lg_sl (av.map (trV ad))).length
  | [] => rfl
  | .inr (.inr z) :: av => by
    have h := eaux_len ad av
    simp only [lg_sl] at h
    simp [eaux, lg_sl, trV, Value.category, h]
  | .inr (.inl z) :: av => by
    have h := eaux_len ad av
    simp only [lg_sl] at h
    simp [eaux, lg_sl, trV, Value.category, h]
  | .inl z :: av => by
    have h := eaux_len ad av
    simp only [lg_sl] at h
    simp [eaux, lg_sl, trV, Value.category, h]
theorem eaux_args (ad : Nat → Nat) : ∀ (av : List PV) (k i : Nat) (v : PV), (eaux av)[i]? = some (some v) → (k + i, trV ad v) ∈ lv_args k (av.map (trV ad))
  | [], k, i, v, h => by simp [eaux] at h
  | .inr (.inr z) :: av, k, i, v, h => by
    simp only [List.map_cons, lv_args]
    rcases i with _ | _ | i
    · simp [eaux] at h
      subst h
      exact List.mem_cons_self
    · simp [eaux] at h
    · simp only [eaux, List.getElem?_cons_succ] at h
      have := eaux_args ad av (k + 2) i v h
      rw [show k + (i + 1 + 1) = k + 2 + i by omega]
      simp only [trV, Value.category, if_true]
      exact List.mem_cons_of_mem _ this
  | .inr (.inl z) :: av, k, i, v, h => by
    simp only [List.map_cons, lv_args]
    rcases i with _ | i
    · simp [eaux] at h
      subst h
      exact List.mem_cons_self
    · simp only [eaux, List.getElem?_cons_succ] at h
      have := eaux_args ad av (k + 1) i v h
      rw [show k + (i + 1) = k + 1 + i by omega]
      simp only [trV, Value.category]
      exact List.mem_cons_of_mem _ this
  | .inl z :: av, k, i, v, h => by
    simp only [List.map_cons, lv_args]
    rcases i with _ | i
    · simp [eaux] at h
      subst h
      exact List.mem_cons_self
    · simp only [eaux, List.getElem?_cons_succ] at h
      have := eaux_args ad av (k + 1) i v h
      rw [show k + (i + 1) = k + 1 + i by omega]
      simp only [trV, Value.category]
      exact List.mem_cons_of_mem _ this
theorem eaux_mem : ∀ (av : List PV) (v : PV), some v ∈ eaux av → v ∈ av
  | [], v, h => by simp [eaux] at h
  | .inr (.inr z) :: av, v, h => by
    simp only [eaux, List.mem_cons] at h
    rcases h with h | h | h
    · cases h; exact List.mem_cons_self
    · cases h
    · exact List.mem_cons_of_mem _ (eaux_mem av v h)
  | .inr (.inl z) :: av, v, h => by
    simp only [eaux, List.mem_cons] at h
    rcases h with h | h
    · cases h; exact List.mem_cons_self
    · exact List.mem_cons_of_mem _ (eaux_mem av v h)
  | .inl z :: av, v, h => by
    simp only [eaux, List.mem_cons] at h
    rcases h with h | h
    · cases h; exact List.mem_cons_self
    · exact List.mem_cons_of_mem _ (eaux_mem av v h)
theorem ents_at {av : List PV} {n i : Nat} {v : PV} (h : (ents av n)[i]? = some (some v)) : (eaux av)[i]? = some (some v) := by
  unfold ents at h
  by_cases hi : i < (eaux av).length
  · rwa [List.getElem?_append_left hi] at h
  · rw [List.getElem?_append_right (by omega)] at h
    have := List.eq_of_mem_replicate (List.mem_of_getElem? h)
    cases this
theorem LVs.entry {ad : Nat → Nat} {av : List PV} {n : Nat} (hn : (eaux av).length ≤ n) (hc : ∀ v ∈ av, cnV v) : LVs ad ((lg_sl (av.map (trV ad)) ++ List.replicate (n - (lg_sl (av.map (trV ad))).length) Slot.unset).toArray) n (ents av n) := by
  have he := lv_entry (av.map (trV ad)) (n := n) (by rw [← eaux_len]; exact hn)
  refine ⟨⟨he.1, he.2.1, fun q hq => ?_⟩, fun v hv => ?_⟩
  · obtain ⟨v, h1, h2⟩ := lvl_mem.mp hq
    have h3 := eaux_args ad av 0 q.1 v (ents_at h1)
    rw [Nat.zero_add] at h3
    have := he.2.2 _ h3
    rw [h2]
    exact this
  · obtain ⟨i, hi⟩ := List.getElem?_of_mem hv
    exact hc v (eaux_mem av v (List.mem_of_getElem? (ents_at hi)))
def QcP (Sg : Nat → List Sh) (T : Nat) (F : MI) (D : va_G) (cI cQ : ClassId) (A : Nat → Prop) (ad : Nat → Nat) (h : Hp) (Post : Int → Hp → Prop) : Array Value → State → Outcome → State → Prop := fun _ st o t =>
  (∃ (r : Int) (h' : Hp) (ad' : Nat → Nat) (v : Option Value), o = .returned v ∧ Post r h' ∧ Ext Sg T ad h.2.2 ad' h'.2.2 ∧ va_P D vwCl (wld cI cQ ad' (Sg h'.2.2) h') t.heap ∧ va_D A (wld cI cQ ad' (Sg h'.2.2) h') ∧ cnH h' ∧ inR r ∧ retOf F.2.2.2.2.1 r v) ∧ va_F A st t
def PcP (Sg : Nat → List Sh) (D : va_G) (cI cQ : ClassId) (ad : Nat → Nat) (h : Hp) (sz : Nat) (U : State) : Prop :=
  U.heap.size = sz ∧ va_P D vwCl (wld cI cQ ad (Sg h.2.2) h) U.heap ∧ va_K D vwCl [(cI, .int), (cQ, .object RX5)] U ∧ va_D (fun _ => True) (wld cI cQ ad (Sg h.2.2) h) ∧ stZ ad (va_A (wld cI cQ ad (Sg h.2.2) h) sz) U ∧ ∀ w ∈ lw_n, va_Nw w U
abbrev roomOf (T : Nat) (F : MI) : Room := { frames := F.2.2.2.2.2.1, cells := 7 * T, slots := slz * T, locals := F.2.2.2.2.2.2 }
/-- what is fixed of a method, by program: the class's name is plain, class and name agree, its words, its arguments' number -/
def MOk (F : MI) : Prop := plainName F.2.1.cls = true ∧ F.2.1.cls = F.1 ∧ Cond.code F.2.1 F.2.2.1 F.2.2.2.1 F.2.2.2.2.1 ∈ lw_g ∧ Cond.initialized F.1 ∈ lw_u ∧ (F.2.1.cls ≠ "java/lang/invoke/MethodHandle" ∧ F.2.1.cls ≠ "java/lang/invoke/VarHandle")
theorem Ok.met {Sg : Nat → List Sh} {T : Nat} {F : MI} (hF : MOk F) {av : List PV} {h : Hp} {Post : Int → Hp → Prop} (hn : (eaux av).length ≤ F.2.2.2.1) (hc : ∀ v ∈ av, cnV v) (hh : cnH h) (k : Ok Sg T 0 F 0 (ents av F.2.2.2.1) [] h Post) (l : Launch) (D : va_G) (cI cQ : ClassId) (ad : Nat → Nat) (sz : Nat) :
    Met l F.2.1 (Cond.code F.2.1 F.2.2.1 F.2.2.2.1 F.2.2.2.2.1 :: lw_g) (roomOf T F) (va_Pc (av.map (trV ad)) (PcP Sg D cI cQ ad h sz)) (QcP Sg T F D cI cQ (va_A (wld cI cQ ad (Sg h.2.2) h) sz) ad h Post) (7 * T) (slz * T) (va_A (wld cI cQ ad (Sg h.2.2) h) sz) := by
  refine Met.ofW (cc := F.2.2.1) (maxL := F.2.2.2.1) (ret := F.2.2.2.2.1) hF.1 rfl ?_
  intro p e s m args below meth c s₁ B hml hv
  obtain ⟨rfl, hsz, hP, hK, hD0, hZ, hN⟩ := hv
  have hts := atoms_spec (ws := Cond.code F.2.1 F.2.2.1 F.2.2.2.1 F.2.2.2.2.1 :: lw_g) B.pre
  have hown : s.vm.findClass F.1 = some m.cls := by
    rw [← hF.2.1]
    exact findClass_of_methodNamed B.named
  subst hsz
  have hD := hD0.self (sz := s.heap.size)
  rw [lg_entry_eq]
  have C : Cx T F p (headSpec (Cond.code F.2.1 F.2.2.1 F.2.2.2.1 F.2.2.2.2.1 :: lw_g) (roomOf T F)).room s m (av.map (trV ad)).toArray meth c D cI cQ (va_A (wld cI cQ ad (Sg h.2.2) h) s.heap.size) :=
    ⟨B.exec, B.bytes, B.returns, hml, hown, fun w hw => (List.mem_append.mp hw).elim (fun hw => hts w (List.mem_cons_of_mem _ hw)) (fun hw => va_Nw.use (isNest_tab (List.mem_filter.mp hw).2) (hN w hw)), B.notSynchronized, Nat.le_refl _, Nat.le_refl _, Nat.le_refl _, Nat.le_refl _, hK, fun q hq => Or.inr hq⟩
  have K := k p l e _ s m _ below meth c D cI cQ _ ad s.heap [] _ (QcP Sg T F D cI cQ (va_A (wld cI cQ ad (Sg h.2.2) h) s.heap.size) ad h Post) _ C ⟨hP, hD, va_S.rf, hh, hZ⟩ (LVs.entry hn hc) (fun v hv => by cases hv) (fun q hq => hq)
    (fun r h' ad' t v p1 p2 p3 p4 p5 p6 p7 p8 p9 => ⟨⟨r, h', ad', v, rfl, p1, p2, p3, p4, p5, p6, p7⟩, p9⟩)
  exact K
theorem PcP.blind {Sg : Nat → List Sh} {D : va_G} {cI cQ : ClassId} {ad : Nat → Nat} {h : Hp} {sz : Nat} {av : List Value} : FrameBlind (va_Pc av (PcP Sg D cI cQ ad h sz)) := by
  intro a U g mk q
  obtain ⟨q0, q1, qP, qK, qD, qZ, qN⟩ := q
  exact ⟨q0, q1, qP, va_K.moved (u := U) (U := U.calling g mk a) (Vm.Alike.refl U.vm) qK, qD, fun k hk => ⟨va_Z.moved (u := U) (U := U.calling g mk a) (Vm.Alike.refl U.vm) (qZ k hk).1, va_T.moved (u := U) (U := U.calling g mk a) (Vm.Alike.refl U.vm) (qZ k hk).2⟩, fun w hw => va_Nw.same (u := U) (U := U.calling g mk a) (isNest_tab (List.mem_filter.mp hw).2) rfl (qN w hw)⟩
theorem wld_free {Sg : Nat → List Sh} {D : va_G} {cI cQ : ClassId} {A : Nat → Prop} {s : State} {ad : Nat → Nat} {h : Hp} {H : Heap} {locs : List Loc} (Wd0 : Wd Sg D cI cQ A s ad h H locs) (hA : ∀ q, s.heap.size ≤ q → A q) : ∀ q, va_A (wld cI cQ ad (Sg h.2.2) h) H.size q → A q := by
  intro q hq
  rcases hq with ⟨k, e, hk⟩ | hq
  · exact Wd0.2.1.2 k (q, e) hk
  · exact hA q (Nat.le_trans Wd0.2.2.1.1 hq)
theorem wld_pc {Sg : Nat → List Sh} {T : Nat} {F : MI} {p : Program} {R : Room} {s : State} {m : MethodId} {args : Array Value} {meth : Method} {c : Code} {D : va_G} {cI cQ : ClassId} {A : Nat → Prop} {ad : Nat → Nat} {h : Hp} {H : Heap} {locs : List Loc} (C : Cx T F p R s m args meth c D cI cQ A) (Wd0 : Wd Sg D cI cQ A s ad h H locs) :
    ∀ U : State, U.heap = H → s.WarmedH U.vm → PcP Sg D cI cQ ad h H.size U := by
  intro U hU hW
  have hfr := wld_free Wd0 C.2.2.2.2.2.2.2.2.2.2.2.2
  refine ⟨by rw [hU], by rw [hU]; exact Wd0.1, va_K.moved hW.alike C.2.2.2.2.2.2.2.2.2.2.2.1, Wd0.2.1.weaken (fun _ _ _ _ => trivial), fun k hk => ?_, fun w hw => isNest_warm (List.mem_filter.mp hw).2 hW (va_Nw.of (isNest_tab (List.mem_filter.mp hw).2) (C.2.2.2.2.2.1 w (List.mem_append_right _ hw)))⟩
  have hz := Wd0.2.2.2.2 k hk
  rw [hU]
  exact ⟨va_Z.moved hW.alike ((hz.1.kept (fun a h1 h2 => Wd0.2.2.1.2.1 a h1 h2)).narrow hfr), va_T.moved hW.alike ((hz.2.kept (fun a h1 h2 => Wd0.2.2.1.2.1 a h1 h2)).narrow hfr)⟩
def rp (ret : Option FieldType) (r : Int) : List PV := match ret with
  | none => []
  | some _ => [pI r]
theorem okgo {Sg : Nat → List Sh} {T u : Nat} {F G : MI} {pc : Nat} {ls : List (Option PV)} {st0 : List Value} {rest : List PV} {h : Hp} {Post PG : Int → Hp → Prop}
    {p : Program} {l : Launch} {e : Env} {R : Room} {s : State} {m : MethodId} {args a : Array Value} {below : List Frame} {meth : Method} {c : Code} {D : va_G} {cI cQ : ClassId} {A : Nat → Prop} {ad : Nat → Nat} {H : Heap} {locs : List Loc} {LS : Array Slot} {Qc : Array Value → State → Outcome → State → Prop} {free : Addr → Prop}
    (C : Cx T F p R s m args meth c D cI cQ A) (Wd0 : Wd Sg D cI cQ A s ad h H locs) (L : LVs ad LS F.2.2.2.1 ls) (cs : ∀ v ∈ rest, cnV v) (hf : ∀ q : Nat, A q → free q) (hq : Rt Sg T F D cI cQ A s args Qc ad h Post)
    (hrun : va_Run p l e R s m args below meth c H locs (7 * u) (slz * u) (7 * 0) (slz * 0) (F0 m pc LS st0) (rest.map (trV ad)) (QcP Sg 0 G D cI cQ (va_A (wld cI cQ ad (Sg h.2.2) h) H.size) ad h PG a) (va_A (wld cI cQ ad (Sg h.2.2) h) H.size))
    (k : ∀ (r : Int) (h' : Hp), PG r h' → Ok Sg T u F (pc + 3) ls (rp G.2.2.2.2.1 r ++ rest) h' Post) :
    W p l e R s m args below meth c H locs (7 * u) (slz * u) (MQ below Qc args s (7 * T) (slz * T) free) (F0 m pc LS st0) := by
  have hfr := wld_free Wd0 C.2.2.2.2.2.2.2.2.2.2.2.2
  intro X hX St
  obtain ⟨v, st₀, t, X', Lc, h0, St', hL, e1, e2, ⟨⟨r, h', ad', v', hv, hp, hE, hP1, hD1, hc1, hr, hret⟩, hz, hk⟩, go⟩ := hrun X hX St
  cases hv
  rw [h0] at hz hk
  obtain ⟨ea, ec⟩ := hE.1 rfl
  subst ea
  have hS' : va_S A s.heap X'.heap (locs ++ Lc) := ⟨Nat.le_trans Wd0.2.2.1.1 (by rw [e1]; exact hz), fun q h1 h2 => by rw [e1, hk q (Nat.lt_of_lt_of_le h1 Wd0.2.2.1.1) (fun z => h2 (hfr q z))]; exact Wd0.2.2.1.2.1 q h1 h2, fun q hq => by
      rcases List.mem_append.mp hq with h | h
      · exact Wd0.2.2.1.2.2 q h
      · exact hfr _ (hL q h)⟩
  have Wd1 : Wd Sg D cI cQ A s ad' h' X'.heap (locs ++ Lc) := ⟨by rw [e1]; exact hP1, hD1.weaken (fun _ q _ z => hfr q.1 z), hS', hc1, Wd0.2.2.2.2⟩
  have cs' : ∀ w ∈ rp G.2.2.2.2.1 r ++ rest, cnV w := by
    intro w hw
    rcases List.mem_append.mp hw with hw | hw
    · cases hg : G.2.2.2.2.1 with
      | none => rw [hg] at hw; cases hw
      | some ty =>
        rw [hg] at hw
        rcases List.mem_singleton.mp hw with rfl
        exact hr
    · exact cs w hw
  have hq' : Rt Sg T F D cI cQ A s args Qc ad' h' Post := by
    intro r2 h2 ad2 t2 v2 p1 p2
    rw [ec] at p2
    exact hq r2 h2 ad2 t2 v2 p1 p2
  have K := k r h' hp p l e R s m args below meth c D cI cQ A ad' X'.heap (locs ++ Lc) LS Qc free C Wd1 L cs' hf hq'
  have hst : v.toList ++ rest.map (trV ad') = (rp G.2.2.2.2.1 r ++ rest).map (trV ad') := by
    cases hg : G.2.2.2.2.1 with
    | none =>
      rw [hg] at hret
      rw [hret.1]
      rfl
    | some ty =>
      rw [hg] at hret
      rw [show v = some (Value.int (i32 r)) from hret]
      rfl
  obtain ⟨t2, a1, b1⟩ := K X' rfl St'
  refine ⟨t2, go t2 ?_, b1⟩
  rw [← hst] at a1
  exact a1
