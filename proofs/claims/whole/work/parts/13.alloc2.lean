/-! CONSTRUCTORS: the rows that make cells, call constructors, return -/
theorem vS_push {S : List ShN} {sh : ShN} (hv : vS S) (hs : vSh (S.length + 1) sh) : vS (S ++ [sh]) := by
  intro x hx
  rw [List.length_append]
  rcases List.mem_append.mp hx with h | h
  · exact (hv x h).mono (Nat.le_add_right _ _)
  · rw [List.mem_singleton] at h
    subst h
    exact hs
theorem LVN.up {ad : Nat → Nat} {N q : Nat} {LS : Array Slot} {n : Nat} {ls : List (Option PV)} {st : List PV} (L : LVN ad N LS n ls st) : LVN (va_up ad N q) (N + 1) LS n ls st := by
  have he : ∀ i, i < N → va_up ad N q i = ad i := fun i hi => by
    unfold va_up
    rw [if_neg (by omega)]
  refine ⟨⟨⟨L.1.1.1, L.1.1.2.1, fun x hx => ?_⟩, L.1.2⟩, L.2.1, fun v hv => (L.2.2.1 v hv).mono (Nat.le_succ _), fun v hv => (L.2.2.2 v hv).mono (Nat.le_succ _)⟩
  obtain ⟨w, h1, h2⟩ := lvl_mem.mp hx
  rw [h2, trV_N (L.2.2.1 w (List.mem_of_getElem? h1)) he]
  exact L.1.at h1
theorem trs_up {ad : Nat → Nat} {N q : Nat} {st : List PV} (h : ∀ v ∈ st, vR N v) : st.map (trV (va_up ad N q)) = st.map (trV ad) :=
  List.map_congr_left (fun v hv => trV_N (h v hv) (fun i hi => by
    unfold va_up
    rw [if_neg (by omega)]))
theorem zf_push {S : List ShN} {sh : ShN} {h : Hp} (hz : zf S.length h) : zf (S ++ [sh]).length h := by
  intro a ha
  rw [List.length_append] at ha
  exact hz a (by omega)
theorem up_gr {ad : Nat → Nat} {N q : Nat} : ∀ i, i < N ∨ N + 1 ≤ i → va_up ad N q i = ad i := fun i hi => by
  unfold va_up
  rw [if_neg (by omega)]
theorem i32_n {n : Nat} (hn : n < 134217728) : ¬ i32 (n : Int) < 0 ∧ (i32 (n : Int)).toNatClampNeg = n := by
  have hr : inR (n : Int) := by unfold inR; omega
  refine ⟨?_, i32_k (by omega)⟩
  have h0 : (0 : Int32) = i32 0 := rfl
  rw [h0, i32_lt hr (by unfold inR; omega)]
  omega
section NR2
variable {F : MI} {mc ms k n pc pc' : Nat} {ls : List (Option PV)} {st : List PV} {S : List ShN} {h : Hp} {Post : List ShN → Hp → Prop}
theorem OkN.newa {z : Int} {n0 : Nat} {S' : List ShN} (hd : decode F.2.2.1 pc = .ok (.newarray .int, 2)) (hp : pc + 2 = pc') (hz : z = (n0 : Int)) (hn : n0 < 134217728) (hw : Cond.arrayClass .int ∈ lw_u) (hk : k + 1 ≤ mc) (hs : n + n0 ≤ ms) (hS' : S ++ [nA n0] = S') {a : Nat} (ha : S.length = a)
    (kk : OkN F mc ms (k + 1) (n + n0) pc' ls (pR a :: st) S' h Post) : OkN F mc ms k n pc ls (pI z :: st) S h Post := by
  intro p l e R s m args below meth c D cI cQ A ad H locs LS Qc free C Wd L hf hq
  subst hp; subst hS'; subst hz; subst ha
  have hK := C.2.2.2.2.2.2.2.2.2.2.2.1
  refine va_newa (atype := .int) (a0 := (n0, .inl (fun _ => 0))) (ty := .int) C.1 C.2.1 (C.2.2.2.2.2.1 _ hw) rfl hK Wd.1 Wd.2.1 Wd.2.2.1 C.2.2.2.2.2.2.2.2.2.2.2.2.1 (fun cA => rfl) (i32_n hn).1 (i32_n hn).2 (by show n0 * 4 ≤ 536870912; omega) (Nat.le_trans hk C.2.2.2.2.2.2.2.2.2.1) (Nat.le_trans hs C.2.2.2.2.2.2.2.2.2.2.1) hd (fun q cA H1 hK1 hP hD hS => ?_)
  have e1 : cA = cI := by
    have h1 := (hK1.2 2 (cA, .int) rfl).2
    have h2 := (hK.2 0 (cI, .int) rfl).2
    have h1 : s.vm.findClass ("[" ++ FieldType.int.toString) = some cA := h1
    have h2 : s.vm.findClass ("[" ++ FieldType.int.toString) = some cI := h2
    exact Option.some.inj (h1.symm.trans h2)
  subst e1
  have he : (Sum.inl (cA, (n0, Sum.inl (fun _ => 0))) : va_E) = entN cA cQ ad h S.length (nA n0) := by
    show _ = (Sum.inl (cA, n0, Sum.inl (fun j => i32 (h.1 S.length j))) : va_E)
    congr 4
    funext j
    rw [(Wd.2.2.2.2.1 S.length (Nat.le_refl _)).1 j]
    rfl
  rw [he] at hP hD
  have ee := wldN_push (cI := cA) (cQ := cQ) (ad := ad) (h := h) Wd.2.2.2.2.2 q (sh := nA n0) trivial
  rw [ee] at hP hD
  have K := kk p l e R s m args below meth c D cA cQ A (va_up ad S.length q) H1 locs LS Qc free C ⟨hP, hD, hS, Wd.2.2.2.1, zf_push Wd.2.2.2.2.1, vS_push Wd.2.2.2.2.2 trivial⟩ ?_ hf (hq.gr (by rw [List.length_append]; exact Nat.le_add_right _ _) (by rw [List.length_append]; exact up_gr))
  · rw [List.map_cons, trs_up (fun v hv => L.2.2.2 v (List.mem_cons_of_mem _ hv))] at K
    have hq0 : trV (va_up ad S.length q) (pR S.length) = Value.ref q := by
      show Value.ref (va_up ad S.length q S.length) = _
      unfold va_up
      rw [if_pos rfl]
    rw [hq0] at K
    exact K
  · rw [List.length_append]
    have L2 := L.up (q := q)
    exact ⟨L2.1, List.forall_mem_cons.mpr ⟨trivial, (List.forall_mem_cons.mp L2.2.1).2⟩, L2.2.2.1, List.forall_mem_cons.mpr ⟨Nat.lt_succ_self _, (List.forall_mem_cons.mp L2.2.2.2).2⟩⟩
theorem OkN.newq (hao : F.1 ≠ RX5) {z : Int} {n0 idx : Nat} {S' : List ShN} (hd : decode F.2.2.1 pc = .ok (.anewarray idx, 3)) (hp : pc + 3 = pc') (hz : z = (n0 : Int)) (hn : n0 < 134217728) (hw : Cond.classLink F.1 idx RX5 ∈ lw_u) (hk : k + 1 ≤ mc) (hs : n + n0 ≤ ms) (hS' : S ++ [nQ n0 (fun _ => none)] = S') {a : Nat} (ha : S.length = a)
    (kk : OkN F mc ms (k + 1) (n + n0) pc' ls (pR a :: st) S' h Post) : OkN F mc ms k n pc ls (pI z :: st) S h Post := by
  intro p l e R s m args below meth c D cI cQ A ad H locs LS Qc free C Wd L hf hq
  subst hp; subst hS'; subst hz; subst ha
  have hK := C.2.2.2.2.2.2.2.2.2.2.2.1
  refine va_newq C.1 C.2.1 C.2.2.2.2.1 (C.2.2.2.2.2.1 _ hw) (C.2.2.2.2.2.2.2.2.2.2.2.2.2.2.resolve_left hao) hK Wd.1 Wd.2.1 Wd.2.2.1 C.2.2.2.2.2.2.2.2.2.2.2.2.1 (i32_n hn).1 (i32_n hn).2 (by omega) (Nat.le_trans hk C.2.2.2.2.2.2.2.2.2.1) (Nat.le_trans hs C.2.2.2.2.2.2.2.2.2.2.1) hd (fun q cA H1 hK1 hP hD hS => ?_)
  have e1 : cA = cQ := by
    have h1 := (hK1.2 2 (cA, .object RX5) rfl).2
    have h2 := (hK.2 1 (cQ, .object RX5) rfl).2
    obtain ⟨_, _, -, -, -, h1⟩ := h1
    obtain ⟨_, _, -, -, -, h2⟩ := h2
    exact Option.some.inj (h1.symm.trans h2)
  subst e1
  have he : (Sum.inl (cA, n0, .inr (.inr (.inr (.inr (fun _ => none))))) : va_E) = entN cI cA ad h S.length (nQ n0 (fun _ => none)) := rfl
  rw [he] at hP hD
  have ee := wldN_push (cI := cI) (cQ := cA) (ad := ad) (h := h) Wd.2.2.2.2.2 q (sh := nQ n0 (fun _ => none)) (fun j o ho => by cases ho)
  rw [ee] at hP hD
  have K := kk p l e R s m args below meth c D cI cA A (va_up ad S.length q) H1 locs LS Qc free C ⟨hP, hD, hS, Wd.2.2.2.1, zf_push Wd.2.2.2.2.1, vS_push Wd.2.2.2.2.2 (fun j o ho => by cases ho)⟩ ?_ hf (hq.gr (by rw [List.length_append]; exact Nat.le_add_right _ _) (by rw [List.length_append]; exact up_gr))
  · rw [List.map_cons, trs_up (fun v hv => L.2.2.2 v (List.mem_cons_of_mem _ hv))] at K
    have hq0 : trV (va_up ad S.length q) (pR S.length) = Value.ref q := by
      show Value.ref (va_up ad S.length q S.length) = _
      unfold va_up
      rw [if_pos rfl]
    rw [hq0] at K
    exact K
  · rw [List.length_append]
    have L2 := L.up (q := q)
    exact ⟨L2.1, List.forall_mem_cons.mpr ⟨trivial, (List.forall_mem_cons.mp L2.2.1).2⟩, L2.2.2.1, List.forall_mem_cons.mpr ⟨Nat.lt_succ_self _, (List.forall_mem_cons.mp L2.2.2.2).2⟩⟩
/-- a field as it is when its object is made -/
def bornF (f : FN) : Prop := f = none ∨ f = some none
theorem OkN.new {ci idx N : Nat} {C0 : String} {TX : u_T} {fs : List FN} {S' : List ShN}
    (hd : decode F.2.2.1 pc = .ok (.new idx, 3)) (hp : pc + 3 = pc') (hc : vwCl[ci]? = some (C0, TX, N)) (hin : ∀ w ∈ u_ws C0 TX N, w ∈ lw_u) (ty0 : Nat → FieldType) (hty : ∀ k, k < N → parseFieldDescriptor (TX k).2.2.1 = some (ty0 k))
    (hcl : Cond.classLink F.1 idx C0 ∈ lw_u) (hinst : Cond.instantiable C0 N ∈ lw_u) (hini : Cond.initialized C0 ∈ lw_u) (hk : k + 1 ≤ mc) (hs : n + N ≤ ms) (hfs : ∀ j, j < N → ∃ f, fs[j]? = some f ∧ ((f = none ∧ defaultValue (ty0 j) = .null) ∨ (f = some none ∧ defaultValue (ty0 j) = .int 0))) (hfv : ∀ f ∈ fs, bornF f) (hS' : S ++ [nO ci fs] = S') {a : Nat} (ha : S.length = a)
    (kk : OkN F mc ms (k + 1) (n + N) pc' ls (pR a :: st) S' h Post) : OkN F mc ms k n pc ls st S h Post := by
  intro p l e R s m args below meth c D cI cQ A ad H locs LS Qc free C Wd L hf hq
  subst hp; subst hS'; subst ha
  have hK := C.2.2.2.2.2.2.2.2.2.2.2.1
  have hz0 : ∀ j, i32 (h.2.1 S.length j) = 0 := fun j => by
    rw [(Wd.2.2.2.2.1 S.length (Nat.le_refl _)).2 j]
    rfl
  refine va_new (fs := fvsN ad (h.2.1 S.length) fs) C.1 C.2.1 C.2.2.2.2.2.1 hin ty0 hty C.2.2.2.2.1 (C.2.2.2.2.2.1 _ hcl) (C.2.2.2.2.2.1 _ hinst) (C.2.2.2.2.2.1 _ hini) hK Wd.1 Wd.2.1 Wd.2.2.1 C.2.2.2.2.2.2.2.2.2.2.2.2.1 hc (fun j hj => ?_) (Nat.le_trans hk C.2.2.2.2.2.2.2.2.2.1) (Nat.le_trans hs C.2.2.2.2.2.2.2.2.2.2.1) hd (fun q H1 hP hD hS => ?_)
  · obtain ⟨f, h1, h2⟩ := hfs j hj
    unfold vp_V
    rw [List.getD_eq_getElem?_getD, fvsN_at h1]
    rcases h2 with ⟨rfl, h2⟩ | ⟨rfl, h2⟩
    · rw [h2]; rfl
    · rw [h2]
      show Value.int 0 = Value.int (i32 _)
      rw [hz0 j]
  have hsv : vSh S.length (nO ci fs) := fun f hf => by
    rcases hfv f hf with rfl | rfl <;> trivial
  have he : (Sum.inr (ci, fvsN ad (h.2.1 S.length) fs) : va_E) = entN cI cQ ad h S.length (nO ci fs) := rfl
  rw [he] at hP hD
  have ee := wldN_push (cI := cI) (cQ := cQ) (ad := ad) (h := h) Wd.2.2.2.2.2 q hsv
  rw [ee] at hP hD
  have K := kk p l e R s m args below meth c D cI cQ A (va_up ad S.length q) H1 locs LS Qc free C ⟨hP, hD, hS, Wd.2.2.2.1, zf_push Wd.2.2.2.2.1, vS_push Wd.2.2.2.2.2 (hsv.mono (Nat.le_succ _))⟩ ?_ hf (hq.gr (by rw [List.length_append]; exact Nat.le_add_right _ _) (by rw [List.length_append]; exact up_gr))
  · rw [List.map_cons, trs_up (fun v hv => L.2.2.2 v hv)] at K
    have hq0 : trV (va_up ad S.length q) (pR S.length) = Value.ref q := by
      show Value.ref (va_up ad S.length q S.length) = _
      unfold va_up
      rw [if_pos rfl]
    rw [hq0] at K
    exact K
  · rw [List.length_append]
    have L2 := L.up (q := q)
    exact ⟨L2.1, List.forall_mem_cons.mpr ⟨trivial, L2.2.1⟩, L2.2.2.1, List.forall_mem_cons.mpr ⟨Nat.lt_succ_self _, L2.2.2.2⟩⟩
theorem OkN.objInit {o idx : Nat} (hd : decode F.2.2.1 pc = .ok (.invokespecial idx, 3)) (hp : pc + 3 = pc') (hl : Cond.methodLink F.1 idx Lib.objectInit ∈ lw_u) (hi : Cond.instanceMethod Lib.objectInit ∈ lw_u) (hc : Cond.code Lib.objectInit ⟨#[0xb1]⟩ 1 none ∈ lw_u) (hfr : 1 ≤ F.2.2.2.2.2.1) (hlo : 20 ≤ F.2.2.2.2.2.2)
    (kk : OkN F mc ms k n pc' ls [] S h Post) : OkN F mc ms k n pc ls [pR o] S h Post := by
  intro p l e R s m args below meth c D cI cQ A ad H locs LS Qc free C Wd L hf hq
  subst hp
  have K := kk p l e R s m args below meth c D cI cQ A ad H locs LS Qc free C Wd ⟨L.1, (fun v hv => by cases hv), L.2.2.1, (fun v hv => by cases hv)⟩ hf hq
  refine W.objInit (a := ad o) (rest := []) C.1 C.2.1 C.2.2.2.2.1 (C.2.2.2.2.2.1 _ hl) (C.2.2.2.2.2.1 _ hi) (C.2.2.2.2.2.1 _ hc) rfl (L.1.1.1.trans C.2.2.2.1.symm) rfl hd (Nat.le_trans hfr C.2.2.2.2.2.2.2.1) ?_ K
  have h1 := C.2.2.2.2.2.2.2.2.1
  have h2 := lv_room (m := m) (pc := pc) (ls := LS) (rest := List.map (trV ad) [pR o]) (st := []) (by decide)
  omega
theorem OkN.ret (hd : decode F.2.2.1 pc = .ok (.return_, 1)) (hk : k = mc) (hn : n = ms) (q : Post S h) : OkN F mc ms k n pc ls [] S h Post := by
  intro p l e R s m args below meth c D cI cQ A ad H locs LS Qc free C Wd L hf hq
  subst hk; subst hn
  refine W.vret C.1 C.2.1 C.2.2.1 (fun t ht hW => ?_) (fun q hq => hf _ (Wd.2.2.1.2.2 q hq)) hd C.2.2.2.2.2.2.1
  refine hq S h ad t q (Nat.le_refl _) (fun _ _ => rfl) (by rw [ht]; exact Wd.1) Wd.2.1 Wd.2.2.2.1 Wd.2.2.2.2.1 Wd.2.2.2.2.2 hW ⟨by rw [ht]; exact Wd.2.2.1.1, fun q h1 h2 => by rw [ht]; exact Wd.2.2.1.2.1 q h1 h2⟩
end NR2
