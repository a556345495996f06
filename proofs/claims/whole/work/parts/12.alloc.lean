/-! CONSTRUCTORS: cells that are made; fields may be null as yet -/
abbrev FN : Type := Option (Option Nat)
abbrev ShN : Type := Nat ⊕ ((Nat × List FN) ⊕ (Nat × (Nat → Option Nat)))
abbrev nA (n : Nat) : ShN := Sum.inl n
abbrev nO (ci : Nat) (fs : List FN) : ShN := Sum.inr (Sum.inl (ci, fs))
abbrev nQ (n : Nat) (f : Nat → Option Nat) : ShN := Sum.inr (Sum.inr (n, f))
def fvN (ad : Nat → Nat) (I : Nat → Int) (k : Nat) (f : FN) : Value := match f with
  | none => .null
  | some none => .int (i32 (I k))
  | some (some o) => .ref (ad o)
def fvsN (ad : Nat → Nat) (I : Nat → Int) (fs : List FN) : List Value := fs.mapIdx (fun k f => fvN ad I k f)
def entN (cI cQ : ClassId) (ad : Nat → Nat) (h : Hp) (o : Nat) (sh : ShN) : va_E := match sh with
  | .inl n => .inl (cI, n, .inl (fun j => i32 (h.1 o j)))
  | .inr (.inl (ci, fs)) => .inr (ci, fvsN ad (h.2.1 o) fs)
  | .inr (.inr (n, f)) => .inl (cQ, n, .inr (.inr (.inr (.inr (fun j => (f j).map ad)))))
def wldN (cI cQ : ClassId) (ad : Nat → Nat) (S : List ShN) (h : Hp) : va_W := S.mapIdx (fun o sh => (ad o, entN cI cQ ad h o sh))
def emb (sh : Sh) : ShN := match sh with
  | .inl n => .inl n
  | .inr (.inl (ci, fs)) => .inr (.inl (ci, fs.map some))
  | .inr (.inr (n, f)) => .inr (.inr (n, f))
theorem wldN_emb (cI cQ : ClassId) (ad : Nat → Nat) (S : List Sh) (h : Hp) : wldN cI cQ ad (S.map emb) h = wld cI cQ ad S h := by
  apply List.ext_getElem?
  intro o
  unfold wldN wld
  rw [List.getElem?_mapIdx, List.getElem?_mapIdx, List.getElem?_map]
  cases hs : S[o]? with
  | none => rfl
  | some sh =>
    rcases sh with n | ⟨ci, fs⟩ | ⟨n, f⟩
    · rfl
    · show some (ad o, Sum.inr (ci, fvsN ad (h.2.1 o) (fs.map some))) = some (ad o, Sum.inr (ci, fvs ad (h.2.1 o) fs))
      congr 4
      unfold fvsN fvs
      apply List.ext_getElem?
      intro k
      rw [List.getElem?_mapIdx, List.getElem?_mapIdx, List.getElem?_map]
      cases fs[k]? with
      | none => rfl
      | some f => cases f <;> rfl
    · rfl
theorem wldN_at {cI cQ : ClassId} {ad : Nat → Nat} {S : List ShN} {h : Hp} {o : Nat} {sh : ShN} (hs : S[o]? = some sh) : (wldN cI cQ ad S h)[o]? = some (ad o, entN cI cQ ad h o sh) := by
  unfold wldN
  rw [List.getElem?_mapIdx, hs]
  rfl
theorem wldN_len {cI cQ : ClassId} {ad : Nat → Nat} {S : List ShN} {h : Hp} : (wldN cI cQ ad S h).length = S.length := by
  unfold wldN
  rw [List.length_mapIdx]
/-- references within -/
def vF (N : Nat) (f : FN) : Prop := match f with
  | some (some o) => o < N
  | _ => True
def vSh (N : Nat) (sh : ShN) : Prop := match sh with
  | .inl _ => True
  | .inr (.inl (_, fs)) => ∀ f ∈ fs, vF N f
  | .inr (.inr (_, f)) => ∀ j o, f j = some o → o < N
def vS (S : List ShN) : Prop := ∀ sh ∈ S, vSh S.length sh
def vR (N : Nat) (v : PV) : Prop := match v with
  | .inr (.inl o) => o < N
  | _ => True
theorem vF.mono {N M : Nat} {f : FN} (h : vF N f) (hm : N ≤ M) : vF M f := by
  rcases f with _ | _ | o
  · trivial
  · trivial
  · exact Nat.lt_of_lt_of_le h hm
theorem vSh.mono {N M : Nat} {sh : ShN} (h : vSh N sh) (hm : N ≤ M) : vSh M sh := by
  rcases sh with n | ⟨ci, fs⟩ | ⟨n, f⟩
  · trivial
  · exact fun f hf => (h f hf).mono hm
  · exact fun j o ho => Nat.lt_of_lt_of_le (h j o ho) hm
theorem vR.mono {N M : Nat} {v : PV} (h : vR N v) (hm : N ≤ M) : vR M v := by
  rcases v with z | o | z
  · trivial
  · exact Nat.lt_of_lt_of_le h hm
  · trivial
theorem entN_ad {cI cQ : ClassId} {ad ad' : Nat → Nat} {h : Hp} {o : Nat} {sh : ShN} {N : Nat} (hv : vSh N sh) (he : ∀ i, i < N → ad' i = ad i) : entN cI cQ ad' h o sh = entN cI cQ ad h o sh := by
  rcases sh with n | ⟨ci, fs⟩ | ⟨n, f⟩
  · rfl
  · show Sum.inr (ci, fvsN ad' (h.2.1 o) fs) = Sum.inr (ci, fvsN ad (h.2.1 o) fs)
    congr 2
    unfold fvsN
    apply List.ext_getElem?
    intro k
    rw [List.getElem?_mapIdx, List.getElem?_mapIdx]
    cases hk : fs[k]? with
    | none => rfl
    | some f =>
      have hf := hv f (List.mem_of_getElem? hk)
      rcases f with _ | _ | q
      · rfl
      · rfl
      · show some (Value.ref (ad' q)) = some (Value.ref (ad q))
        rw [he q hf]
  · show Sum.inl (cQ, n, _) = Sum.inl (cQ, n, _)
    congr 7
    funext j
    cases hj : f j with
    | none => rfl
    | some q =>
      show some (ad' q) = some (ad q)
      rw [he q (hv j q hj)]
theorem trV_N {ad ad' : Nat → Nat} {N : Nat} {v : PV} (hv : vR N v) (he : ∀ i, i < N → ad' i = ad i) : trV ad' v = trV ad v := by
  rcases v with z | o | z
  · rfl
  · show Value.ref (ad' o) = Value.ref (ad o)
    rw [he o hv]
  · rfl
theorem wldN_push {cI cQ : ClassId} {ad : Nat → Nat} {S : List ShN} {h : Hp} (hv : vS S) (q : Nat) {sh : ShN} (hs : vSh S.length sh) : wldN cI cQ ad S h ++ [(q, entN cI cQ ad h S.length sh)] = wldN cI cQ (va_up ad S.length q) (S ++ [sh]) h := by
  have he : ∀ i, i < S.length → va_up ad S.length q i = ad i := fun i hi => by
    unfold va_up
    rw [if_neg (by omega)]
  apply List.ext_getElem?
  intro o
  by_cases ho : o < S.length
  · rw [List.getElem?_append_left (by rw [wldN_len]; exact ho)]
    obtain ⟨x, hx⟩ : ∃ x, S[o]? = some x := ⟨S[o], List.getElem?_eq_getElem ho⟩
    rw [wldN_at hx, wldN_at (S := S ++ [sh]) (by rw [List.getElem?_append_left ho]; exact hx), he o ho, entN_ad (hv x (List.mem_of_getElem? hx)) he]
  · by_cases ho2 : o = S.length
    · subst ho2
      rw [List.getElem?_append_right (by rw [wldN_len]; exact Nat.le_refl _), wldN_len, Nat.sub_self, wldN_at (S := S ++ [sh]) (sh := sh) (by rw [List.getElem?_append_right (Nat.le_refl _), Nat.sub_self]; rfl), entN_ad hs he]
      show some (q, _) = some (va_up ad S.length q S.length, _)
      unfold va_up
      rw [if_pos rfl]
    · rw [List.getElem?_eq_none (by rw [List.length_append, wldN_len]; simp; omega), List.getElem?_eq_none (by rw [wldN_len, List.length_append]; simp; omega)]
theorem fvsN_at {ad : Nat → Nat} {I : Nat → Int} {fs : List FN} {k : Nat} {f : FN} (h : fs[k]? = some f) : (fvsN ad I fs)[k]? = some (fvN ad I k f) := by
  unfold fvsN
  rw [List.getElem?_mapIdx, h]
  rfl
theorem wldN_putR {cI cQ : ClassId} {ad : Nat → Nat} {S : List ShN} {h : Hp} {o ci k v : Nat} {fs : List FN} (hs : S[o]? = some (nO ci fs)) (hk : k < fs.length) :
    (wldN cI cQ ad S h).set o (ad o, .inr (ci, (fvsN ad (h.2.1 o) fs).set k (.ref (ad v)))) = wldN cI cQ ad (S.set o (nO ci (fs.set k (some (some v))))) h := by
  have hl : o < S.length := (List.getElem?_eq_some_iff.mp hs).1
  apply List.ext_getElem?
  intro q
  by_cases ho : q = o
  · subst ho
    rw [List.getElem?_set_self (by rw [wldN_len]; exact hl), wldN_at (S := S.set q _) (List.getElem?_set_self hl)]
    show some (ad q, Sum.inr (ci, (fvsN ad (h.2.1 q) fs).set k (.ref (ad v)))) = some (ad q, Sum.inr (ci, fvsN ad (h.2.1 q) (fs.set k (some (some v)))))
    congr 4
    apply List.ext_getElem?
    intro j
    unfold fvsN
    by_cases hj : j = k
    · subst hj
      rw [List.getElem?_set_self (by rw [List.length_mapIdx]; exact hk), List.getElem?_mapIdx, List.getElem?_set_self hk]
      rfl
    · rw [List.getElem?_set_ne (fun e => hj e.symm), List.getElem?_mapIdx, List.getElem?_mapIdx, List.getElem?_set_ne (fun e => hj e.symm)]
  · rw [List.getElem?_set_ne (fun e => ho e.symm)]
    unfold wldN
    rw [List.getElem?_mapIdx, List.getElem?_mapIdx, List.getElem?_set_ne (fun e => ho e.symm)]
theorem wldN_putI {cI cQ : ClassId} {ad : Nat → Nat} {S : List ShN} {h : Hp} {o ci k : Nat} {fs : List FN} (hs : S[o]? = some (nO ci fs)) (hk : fs[k]? = some (some none)) (z : Int) :
    (wldN cI cQ ad S h).set o (ad o, .inr (ci, (fvsN ad (h.2.1 o) fs).set k (.int (i32 z)))) = wldN cI cQ ad S (hI h o k z) := by
  have hl : o < S.length := (List.getElem?_eq_some_iff.mp hs).1
  apply List.ext_getElem?
  intro q
  by_cases ho : q = o
  · subst ho
    rw [List.getElem?_set_self (by rw [wldN_len]; exact hl), wldN_at hs]
    show some (ad q, Sum.inr (ci, (fvsN ad (h.2.1 q) fs).set k (.int (i32 z)))) = some (ad q, Sum.inr (ci, fvsN ad ((hI h q k z).2.1 q) fs))
    congr 4
    apply List.ext_getElem?
    intro j
    unfold fvsN
    by_cases hj : j = k
    · subst hj
      rw [List.getElem?_set_self (by rw [List.length_mapIdx]; exact (List.getElem?_eq_some_iff.mp hk).1), List.getElem?_mapIdx, hk]
      simp [fvN, hI]
    · rw [List.getElem?_set_ne (fun e => hj e.symm), List.getElem?_mapIdx, List.getElem?_mapIdx]
      cases fs[j]? with
      | none => rfl
      | some f => rcases f with _ | _ | p <;> simp [fvN, hI, hj]
  · rw [List.getElem?_set_ne (fun e => ho e.symm)]
    unfold wldN
    rw [List.getElem?_mapIdx, List.getElem?_mapIdx]
    cases hso : S[q]? with
    | none => rfl
    | some sh => rcases sh with n' | ⟨ci', fs'⟩ | ⟨n', f⟩ <;> simp [entN, hI, ho]
/-- cells not yet made hold zeros -/
def zf (N : Nat) (h : Hp) : Prop := ∀ a, N ≤ a → (∀ i, h.1 a i = 0) ∧ ∀ k, h.2.1 a k = 0
def CxN (F : MI) (mc ms : Nat) (p : Program) (R : Room) (s : State) (m : MethodId) (args : Array Value) (meth : Method) (c : Code) (D : va_G) (cI cQ : ClassId) (A : Nat → Prop) : Prop :=
  p.tables.exec = Jvm.exec ∧ c.code = F.2.2.1 ∧ meth.sig.returnType = none ∧ c.maxLocals = F.2.2.2.1 ∧ s.vm.findClass F.1 = some m.cls ∧ (∀ w ∈ lw_u, w.before args s = true) ∧ meth.locks = false ∧
  F.2.2.2.2.2.1 ≤ R.frames ∧ F.2.2.2.2.2.2 ≤ R.locals ∧ mc ≤ R.cells ∧ ms ≤ R.slots ∧ va_K D vwCl [(cI, .int), (cQ, .object RX5)] s ∧ (∀ q, s.heap.size ≤ q → A q) ∧ meth.name = "<init>" ∧ (F.1 = RX5 ∨ va_AO RX5 s)
def WdN (S : List ShN) (D : va_G) (cI cQ : ClassId) (A : Nat → Prop) (s : State) (ad : Nat → Nat) (h : Hp) (H : Heap) (locs : List Loc) : Prop :=
  va_P D vwCl (wldN cI cQ ad S h) H ∧ va_D A (wldN cI cQ ad S h) ∧ va_S A s.heap H locs ∧ cnH h ∧ zf S.length h ∧ vS S
def LVN (ad : Nat → Nat) (N : Nat) (LS : Array Slot) (n : Nat) (ls : List (Option PV)) (st : List PV) : Prop := LVs ad LS n ls ∧ (∀ v ∈ st, cnV v) ∧ (∀ v, some v ∈ ls → vR N v) ∧ ∀ v ∈ st, vR N v
def RtN (S : List ShN) (D : va_G) (cI cQ : ClassId) (A : Nat → Prop) (s : State) (args : Array Value) (Qc : Array Value → State → Outcome → State → Prop) (ad : Nat → Nat) (Post : List ShN → Hp → Prop) : Prop :=
  ∀ (S' : List ShN) (h' : Hp) (ad' : Nat → Nat) (t : State), Post S' h' → S.length ≤ S'.length → (∀ i, i < S.length ∨ S'.length ≤ i → ad' i = ad i) → va_P D vwCl (wldN cI cQ ad' S' h') t.heap → va_D A (wldN cI cQ ad' S' h') → cnH h' → zf S'.length h' → vS S' → s.WarmedH t.vm → va_F A s t → Qc args s (.returned none) t
def OkN (F : MI) (mc ms k n pc : Nat) (ls : List (Option PV)) (st : List PV) (S : List ShN) (h : Hp) (Post : List ShN → Hp → Prop) : Prop :=
  ∀ (p : Program) (l : Launch) (e : Env) (R : Room) (s : State) (m : MethodId) (args : Array Value) (below : List Frame) (meth : Method) (c : Code) (D : va_G) (cI cQ : ClassId) (A : Nat → Prop) (ad : Nat → Nat) (H : Heap) (locs : List Loc) (LS : Array Slot) (Qc : Array Value → State → Outcome → State → Prop) (free : Addr → Prop),
    CxN F mc ms p R s m args meth c D cI cQ A → WdN S D cI cQ A s ad h H locs → LVN ad S.length LS F.2.2.2.1 ls st → (∀ q : Nat, A q → free q) → RtN S D cI cQ A s args Qc ad Post →
    W p l e R s m args below meth c H locs k n (MQ below Qc args s mc ms free) (F0 m pc LS (st.map (trV ad)))
def ClN (F : MI) (mc ms : Nat) (av : List PV) (S : List ShN) (h : Hp) (Post : List ShN → Hp → Prop) : Prop := OkN F mc ms 0 0 0 (ents av F.2.2.2.1) [] S h Post
theorem RtN.gr {S S1 : List ShN} {D : va_G} {cI cQ : ClassId} {A : Nat → Prop} {s : State} {args : Array Value} {Qc : Array Value → State → Outcome → State → Prop} {ad ad1 : Nat → Nat} {Post : List ShN → Hp → Prop} (r : RtN S D cI cQ A s args Qc ad Post) (hl : S.length ≤ S1.length) (he : ∀ i, i < S.length ∨ S1.length ≤ i → ad1 i = ad i) : RtN S1 D cI cQ A s args Qc ad1 Post := by
  intro S' h' ad' t p1 p2 p3 p4 p5 p6 p7 p8 p9 p10
  refine r S' h' ad' t p1 (Nat.le_trans hl p2) (fun i hi => ?_) p4 p5 p6 p7 p8 p9 p10
  rcases hi with hi | hi
  · rw [p3 i (Or.inl (by omega)), he i (Or.inl hi)]
  · rw [p3 i (Or.inr hi), he i (Or.inr (by omega))]
section NR
variable {F : MI} {mc ms k n pc pc' : Nat} {ls : List (Option PV)} {st : List PV} {S : List ShN} {h : Hp} {Post : List ShN → Hp → Prop}
theorem OkN.aload_n {i : Fin 4} {z : Nat} (hl : ls[(i : Nat)]? = some (some (pR z))) (hd : decode F.2.2.1 pc = .ok (.aload_n i, 1)) (hp : pc + 1 = pc') (kk : OkN F mc ms k n pc' ls (pR z :: st) S h Post) : OkN F mc ms k n pc ls st S h Post := by
  intro p l e R s m args below meth c D cI cQ A ad H locs LS Qc free C Wd L hf hq
  subst hp
  have K := kk p l e R s m args below meth c D cI cQ A ad H locs LS Qc free C Wd ⟨L.1, List.forall_mem_cons.mpr ⟨trivial, L.2.1⟩, L.2.2.1, List.forall_mem_cons.mpr ⟨L.2.2.1 _ (List.mem_of_getElem? hl), L.2.2.2⟩⟩ hf hq
  exact lv_aload_n C.1 C.2.1 hd rfl (L.1.at hl) K
theorem OkN.iconst {z : Int} (hn : inR z) (hd : decode F.2.2.1 pc = .ok (.iconst z, 1)) (hp : pc + 1 = pc') (kk : OkN F mc ms k n pc' ls (pI z :: st) S h Post) : OkN F mc ms k n pc ls st S h Post := by
  intro p l e R s m args below meth c D cI cQ A ad H locs LS Qc free C Wd L hf hq
  subst hp
  have K := kk p l e R s m args below meth c D cI cQ A ad H locs LS Qc free C Wd ⟨L.1, List.forall_mem_cons.mpr ⟨hn, L.2.1⟩, L.2.2.1, List.forall_mem_cons.mpr ⟨trivial, L.2.2.2⟩⟩ hf hq
  exact lv_iconst C.1 C.2.1 hd rfl K
theorem OkN.bipush {z : Int} (hn : -128 ≤ z ∧ z < 128) (hd : decode F.2.2.1 pc = .ok (.bipush z, 2)) (hp : pc + 2 = pc') (kk : OkN F mc ms k n pc' ls (pI z :: st) S h Post) : OkN F mc ms k n pc ls st S h Post := by
  intro p l e R s m args below meth c D cI cQ A ad H locs LS Qc free C Wd L hf hq
  subst hp
  have K := kk p l e R s m args below meth c D cI cQ A ad H locs LS Qc free C Wd ⟨L.1, List.forall_mem_cons.mpr ⟨(by unfold cnV inR; show _ ∧ _; omega), L.2.1⟩, L.2.2.1, List.forall_mem_cons.mpr ⟨trivial, L.2.2.2⟩⟩ hf hq
  exact lv_bipush C.1 C.2.1 hd (by rw [Int8.toInt32_ofInt (by have := hn.1; exact this) (by have := hn.2; show z ≤ 127; omega)]) K
theorem OkN.sipush {z : Int} (hn : -32768 ≤ z ∧ z < 32768) (hd : decode F.2.2.1 pc = .ok (.sipush z, 3)) (hp : pc + 3 = pc') (kk : OkN F mc ms k n pc' ls (pI z :: st) S h Post) : OkN F mc ms k n pc ls st S h Post := by
  intro p l e R s m args below meth c D cI cQ A ad H locs LS Qc free C Wd L hf hq
  subst hp
  have K := kk p l e R s m args below meth c D cI cQ A ad H locs LS Qc free C Wd ⟨L.1, List.forall_mem_cons.mpr ⟨(by unfold cnV inR; show _ ∧ _; omega), L.2.1⟩, L.2.2.1, List.forall_mem_cons.mpr ⟨trivial, L.2.2.2⟩⟩ hf hq
  exact lv_sipush C.1 C.2.1 hd (by rw [Int16.toInt32_ofInt (by have := hn.1; exact this) (by have := hn.2; show z ≤ 32767; omega)]) K
theorem OkN.ldc {z : Int} {idx : Nat} {v : Int32} (hn : inR z) (hw : Cond.constant F.1 idx v ∈ lw_u) (hv : i32 z = v) (hd : decode F.2.2.1 pc = .ok (.ldc idx, 2)) (hp : pc + 2 = pc') (kk : OkN F mc ms k n pc' ls (pI z :: st) S h Post) : OkN F mc ms k n pc ls st S h Post := by
  intro p l e R s m args below meth c D cI cQ A ad H locs LS Qc free C Wd L hf hq
  subst hp; subst hv
  have K := kk p l e R s m args below meth c D cI cQ A ad H locs LS Qc free C Wd ⟨L.1, List.forall_mem_cons.mpr ⟨hn, L.2.1⟩, L.2.2.1, List.forall_mem_cons.mpr ⟨trivial, L.2.2.2⟩⟩ hf hq
  exact lv_ldc C.1 C.2.1 C.2.2.2.2.1 (C.2.2.2.2.2.1 _ hw) hd K
theorem OkN.dup {v : PV} (hd : decode F.2.2.1 pc = .ok (.dup, 1)) (hp : pc + 1 = pc') (hv : nl (some v) = true) (kk : OkN F mc ms k n pc' ls (v :: v :: st) S h Post) : OkN F mc ms k n pc ls (v :: st) S h Post := by
  intro p l e R s m args below meth c D cI cQ A ad H locs LS Qc free C Wd L hf hq
  subst hp
  have K := kk p l e R s m args below meth c D cI cQ A ad H locs LS Qc free C Wd ⟨L.1, List.forall_mem_cons.mpr ⟨L.2.1 _ List.mem_cons_self, L.2.1⟩, L.2.2.1, List.forall_mem_cons.mpr ⟨L.2.2.2 _ List.mem_cons_self, L.2.2.2⟩⟩ hf hq
  exact lv_dup C.1 C.2.1 hd (nl_cat hv) K
theorem OkN.getR {o ci j idx N v : Nat} {ref C0 : String} {TX : u_T} {fs : List FN}
    (hd : decode F.2.2.1 pc = .ok (.getfield idx, 3)) (hp : pc + 3 = pc') (hs : S[o]? = some (nO ci fs)) (hc : vwCl[ci]? = some (C0, TX, N)) (hin : ∀ w ∈ u_ws C0 TX N, w ∈ lw_u) (hk : j < N) (hf : fs[j]? = some (some (some v)))
    (hlink : Cond.fieldLink F.1 idx ref (TX j).2.1 (TX j).2.2.1 ∈ lw_u) (hsame : ref = (TX j).1) (kk : OkN F mc ms k n pc' ls (pR v :: st) S h Post) : OkN F mc ms k n pc ls (pR o :: st) S h Post := by
  intro p l e R s m args below meth c D cI cQ A ad H locs LS Qc free C Wd L hf' hq
  subst hp; subst hsame
  have hvv : vR S.length (pR v) := by
    have := Wd.2.2.2.2.2 _ (List.mem_of_getElem? hs)
    exact this _ (List.mem_of_getElem? hf)
  have K := kk p l e R s m args below meth c D cI cQ A ad H locs LS Qc free C Wd ⟨L.1, List.forall_mem_cons.mpr ⟨trivial, (List.forall_mem_cons.mp L.2.1).2⟩, L.2.2.1, List.forall_mem_cons.mpr ⟨hvv, (List.forall_mem_cons.mp L.2.2.2).2⟩⟩ hf' hq
  exact va_get C.1 C.2.1 C.2.2.2.2.2.1 hin C.2.2.2.2.1 C.2.2.2.2.2.2.2.2.2.2.2.1 Wd.1 o (wldN_at hs) hc j hk (C.2.2.2.2.2.1 _ hlink) (fun _ z => z) (fvsN_at hf) hd K
theorem OkN.getRN {o ci j idx N v : Nat} {ref C0 host : String} {TX : u_T} {fs : List FN}
    (hd : decode F.2.2.1 pc = .ok (.getfield idx, 3)) (hp : pc + 3 = pc') (hs : S[o]? = some (nO ci fs)) (hc : vwCl[ci]? = some (C0, TX, N)) (hin : ∀ w ∈ u_ws C0 TX N, w ∈ lw_u) (hk : j < N) (hf : fs[j]? = some (some (some v)))
    (hlink : Cond.fieldLinkNest F.1 idx ref (TX j).2.1 (TX j).2.2.1 host ∈ lw_u) (hsame : ref = (TX j).1) (kk : OkN F mc ms k n pc' ls (pR v :: st) S h Post) : OkN F mc ms k n pc ls (pR o :: st) S h Post := by
  intro p l e R s m args below meth c D cI cQ A ad H locs LS Qc free C Wd L hf' hq
  subst hp; subst hsame
  have hvv : vR S.length (pR v) := by
    have := Wd.2.2.2.2.2 _ (List.mem_of_getElem? hs)
    exact this _ (List.mem_of_getElem? hf)
  have K := kk p l e R s m args below meth c D cI cQ A ad H locs LS Qc free C Wd ⟨L.1, List.forall_mem_cons.mpr ⟨trivial, (List.forall_mem_cons.mp L.2.1).2⟩, L.2.2.1, List.forall_mem_cons.mpr ⟨hvv, (List.forall_mem_cons.mp L.2.2.2).2⟩⟩ hf' hq
  exact va_getN C.1 C.2.1 C.2.2.2.2.2.1 hin C.2.2.2.2.1 C.2.2.2.2.2.2.2.2.2.2.2.1 Wd.1 o (wldN_at hs) hc j hk (C.2.2.2.2.2.1 _ hlink) (fun _ z => z) (fvsN_at hf) hd K
theorem vS_set {S : List ShN} {o ci j v : Nat} {fs : List FN} (hv : vS S) (hs : S[o]? = some (nO ci fs)) (hvv : v < S.length) : vS (S.set o (nO ci (fs.set j (some (some v))))) := by
  intro sh hsh
  rw [List.length_set]
  rcases List.mem_or_eq_of_mem_set hsh with h1 | rfl
  · exact hv sh h1
  · intro f hf
    rcases List.mem_or_eq_of_mem_set hf with h1 | rfl
    · exact hv _ (List.mem_of_getElem? hs) f h1
    · exact hvv
theorem OkN.putF {o ci j idx N v : Nat} {ref C0 : String} {TX : u_T} {fs : List FN} {S' : List ShN}
    (hd : decode F.2.2.1 pc = .ok (.putfield idx, 3)) (hp : pc + 3 = pc') (hs : S[o]? = some (nO ci fs)) (hc : vwCl[ci]? = some (C0, TX, N)) (hin : ∀ w ∈ u_ws C0 TX N, w ∈ lw_u) (ty0 : Nat → FieldType) (hty : ∀ k, k < N → parseFieldDescriptor (TX k).2.2.1 = some (ty0 k)) (hnm : ∀ a, a < N → ∀ b, b < N → a ≠ b → (TX a).2.1 ≠ (TX b).2.1) (hk : j < N) (hl : j < fs.length)
    (hlink : Cond.fieldLink F.1 idx ref (TX j).2.1 (TX j).2.2.1 ∈ lw_u) (hsame : ref = (TX j).1) (hfin : (TX j).2.2.2 = true) (hdecl : (TX j).1 = F.1) (hn : ∀ a : Nat, narrow (ty0 j) (.ref a) = .ref a) (hfit : ∀ a : Nat, fits (ty0 j) (.ref a) = true) (hS' : S.set o (nO ci (fs.set j (some (some v)))) = S') (kk : OkN F mc ms k n pc' ls st S' h Post) : OkN F mc ms k n pc ls (pR v :: pR o :: st) S h Post := by
  intro p l e R s m args below meth c D cI cQ A ad H locs LS Qc free C Wd L hf' hq
  subst hp; subst hsame; subst hS'
  have hvv : v < S.length := L.2.2.2 (pR v) List.mem_cons_self
  refine va_putF C.1 C.2.1 C.2.2.2.2.2.1 hin ty0 hty hnm C.2.2.2.2.1 C.2.2.2.2.2.2.2.2.2.2.2.1 Wd.1 Wd.2.1 Wd.2.2.1 o (wldN_at hs) hc j hk (C.2.2.2.2.2.1 _ hlink) (fun _ z => z) hfin C.2.2.2.2.2.2.2.2.2.2.2.2.2.1 hdecl (hty j hk) (hn _) (hfit _) (by unfold fvsN; rw [List.length_mapIdx]; exact hl) hd (fun H1 locs1 hP hD hS => ?_)
  have ee := wldN_putR (h := h) (cI := cI) (cQ := cQ) (ad := ad) (v := v) hs hl
  have hP := (congrArg (fun w => va_P D vwCl w H1) ee).mp hP
  have hD := (congrArg (fun w => va_D A w) ee).mp hD
  have hlen : (S.set o (nO ci (fs.set j (some (some v))))).length = S.length := List.length_set
  refine kk p l e R s m args below meth c D cI cQ A ad H1 locs1 LS Qc free C ⟨hP, hD, hS, Wd.2.2.2.1, by rw [hlen]; exact Wd.2.2.2.2.1, vS_set Wd.2.2.2.2.2 hs hvv⟩ ?_ hf' (hq.gr (by rw [hlen]; exact Nat.le_refl _) (fun _ _ => rfl))
  rw [hlen]
  exact ⟨L.1, (List.forall_mem_cons.mp (List.forall_mem_cons.mp L.2.1).2).2, L.2.2.1, (List.forall_mem_cons.mp (List.forall_mem_cons.mp L.2.2.2).2).2⟩
theorem OkN.putI {o ci j idx N : Nat} {z : Int} {ref C0 : String} {TX : u_T} {fs : List FN}
    (hd : decode F.2.2.1 pc = .ok (.putfield idx, 3)) (hp : pc + 3 = pc') (hs : S[o]? = some (nO ci fs)) (hc : vwCl[ci]? = some (C0, TX, N)) (hin : ∀ w ∈ u_ws C0 TX N, w ∈ lw_u) (ty0 : Nat → FieldType) (hty : ∀ k, k < N → parseFieldDescriptor (TX k).2.2.1 = some (ty0 k)) (hnm : ∀ a, a < N → ∀ b, b < N → a ≠ b → (TX a).2.1 ≠ (TX b).2.1) (hk : j < N) (hf : fs[j]? = some (some none))
    (hlink : Cond.fieldLink F.1 idx ref (TX j).2.1 (TX j).2.2.1 ∈ lw_u) (hsame : ref = (TX j).1) (hfin : (TX j).2.2.2 = false) (hbt : ty0 j = .int) (kk : OkN F mc ms k n pc' ls st S (hI h o j z) Post) : OkN F mc ms k n pc ls (pI z :: pR o :: st) S h Post := by
  intro p l e R s m args below meth c D cI cQ A ad H locs LS Qc free C Wd L hf' hq
  subst hp; subst hsame
  have hz : inR z := L.2.1 _ List.mem_cons_self
  have hl : j < fs.length := (List.getElem?_eq_some_iff.mp hf).1
  have ho : o < S.length := (List.getElem?_eq_some_iff.mp hs).1
  refine va_put C.1 C.2.1 C.2.2.2.2.2.1 hin ty0 hty hnm C.2.2.2.2.1 C.2.2.2.2.2.2.2.2.2.2.2.1 Wd.1 Wd.2.1 Wd.2.2.1 o (wldN_at hs) hc j hk (C.2.2.2.2.2.1 _ hlink) (fun _ z => z) hfin (hty j hk) (by rw [hbt]; rfl) (by rw [hbt]; rfl) (by unfold fvsN; rw [List.length_mapIdx]; exact hl) hd (fun H1 locs1 hP hD hS => ?_)
  have ee := wldN_putI (h := h) (cI := cI) (cQ := cQ) (ad := ad) hs hf z
  have hP := (congrArg (fun w => va_P D vwCl w H1) ee).mp hP
  have hD := (congrArg (fun w => va_D A w) ee).mp hD
  exact kk p l e R s m args below meth c D cI cQ A ad H1 locs1 LS Qc free C ⟨hP, hD, hS, Wd.2.2.2.1.I hz o j, fun a ha => ⟨(Wd.2.2.2.2.1 a ha).1, fun k => by show (if a = o ∧ k = j then z else h.2.1 a k) = 0; rw [if_neg (by omega)]; exact (Wd.2.2.2.2.1 a ha).2 k⟩, Wd.2.2.2.2.2⟩ ⟨L.1, (List.forall_mem_cons.mp (List.forall_mem_cons.mp L.2.1).2).2, L.2.2.1, (List.forall_mem_cons.mp (List.forall_mem_cons.mp L.2.2.2).2).2⟩ hf' hq
end NR
