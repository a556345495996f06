/-! A KEPT ROW THAT IS MADE: hold, its first half; rows of the row of rows -/
theorem Ok.aaload {Sg : Nat → List Sh} {T u : Nat} {F : MI} {pc pc' : Nat} {ls : List (Option PV)} {st : List PV} {h : Hp} {Post : Int → Hp → Prop} {a n k o' : Nat} {z : Int} {f : Nat → Option Nat}
    (hd : decode F.2.2.1 pc = .ok (.aaload, 1)) (hp : pc + 1 = pc') (hs : (Sg h.2.2)[a]? = some (shQ n f)) (hz : z = (k : Int)) (hk : k < n) (hn : n < 2147483648) (hf : f k = some o') (kk : Ok Sg T u F pc' ls (pR o' :: st) h Post) : Ok Sg T u F pc ls (pI z :: pR a :: st) h Post := by
  intro p l e R s m args below meth c D cI cQ A ad H locs LS Qc free C Wd L cs hf' hq
  subst hp; subst hz
  have K := kk p l e R s m args below meth c D cI cQ A ad H locs LS Qc free C Wd L (List.forall_mem_cons.mpr ⟨trivial, (List.forall_mem_cons.mp (List.forall_mem_cons.mp cs).2).2⟩) hf' hq
  refine va_aldq C.1 C.2.1 C.2.2.2.2.2.2.2.2.2.2.2.1 Wd.1 a 1 (wld_at hs) rfl (i32_in hk hn) hd ?_
  rw [i32_k (by omega), hf]
  exact K
theorem Ok.aanull {Sg : Nat → List Sh} {T u : Nat} {F : MI} {pc pc1 pc' : Nat} {off : Int} {ls : List (Option PV)} {st : List PV} {h : Hp} {Post : Int → Hp → Prop} {a n k : Nat} {z : Int} {f : Nat → Option Nat}
    (hd : decode F.2.2.1 pc = .ok (.aaload, 1)) (hp1 : pc + 1 = pc1) (hd2 : decode F.2.2.1 pc1 = .ok (.ifnonnull off, 3)) (hp : pc1 + 3 = pc') (hs : (Sg h.2.2)[a]? = some (shQ n f)) (hz : z = (k : Int)) (hk : k < n) (hn : n < 2147483648) (hf : f k = none) (kk : Ok Sg T u F pc' ls st h Post) : Ok Sg T u F pc ls (pI z :: pR a :: st) h Post := by
  intro p l e R s m args below meth c D cI cQ A ad H locs LS Qc free C Wd L cs hf' hq
  subst hp1; subst hp; subst hz
  have K := kk p l e R s m args below meth c D cI cQ A ad H locs LS Qc free C Wd L (List.forall_mem_cons.mp (List.forall_mem_cons.mp cs).2).2 hf' hq
  refine va_aldq C.1 C.2.1 C.2.2.2.2.2.2.2.2.2.2.2.1 Wd.1 a 1 (wld_at hs) rfl (i32_in hk hn) hd ?_
  rw [i32_k (by omega), hf]
  exact lv_ifnonnullN C.1 C.2.1 hd2 K
theorem Ok.ifnn {Sg : Nat → List Sh} {T u : Nat} {F : MI} {pc pc' : Nat} {off : Int} {ls : List (Option PV)} {st : List PV} {h : Hp} {Post : Int → Hp → Prop} {o : Nat}
    (hd : decode F.2.2.1 pc = .ok (.ifnonnull off, 3)) (hp : (pc : Int) + off = (pc' : Int)) (kk : Ok Sg T u F pc' ls st h Post) : Ok Sg T u F pc ls (pR o :: st) h Post := by
  intro p l e R s m args below meth c D cI cQ A ad H locs LS Qc free C Wd L cs hf' hq
  exact lv_ifnonnull C.1 C.2.1 hd hp (kk p l e R s m args below meth c D cI cQ A ad H locs LS Qc free C Wd L (List.forall_mem_cons.mp cs).2 hf' hq)
theorem Ok.ifnl {Sg : Nat → List Sh} {T u : Nat} {F : MI} {pc pc' : Nat} {off : Int} {ls : List (Option PV)} {st : List PV} {h : Hp} {Post : Int → Hp → Prop} {o : Nat}
    (hd : decode F.2.2.1 pc = .ok (.ifnull off, 3)) (hp : pc + 3 = pc') (kk : Ok Sg T u F pc' ls st h Post) : Ok Sg T u F pc ls (pR o :: st) h Post := by
  intro p l e R s m args below meth c D cI cQ A ad H locs LS Qc free C Wd L cs hf' hq
  subst hp
  exact lv_ifnull C.1 C.2.1 hd (kk p l e R s m args below meth c D cI cQ A ad H locs LS Qc free C Wd L (List.forall_mem_cons.mp cs).2 hf' hq)
/-- cells from N on hold zeros -/
def zr (N : Nat) (h : Hp) : Hp := (fun a i => if N ≤ a then 0 else h.1 a i, fun o k => if N ≤ o then 0 else h.2.1 o k, h.2.2)
theorem zr_zf (N : Nat) (h : Hp) : zf N (zr N h) := by
  intro a ha
  exact ⟨fun i => if_pos ha, fun k => if_pos ha⟩
theorem zr_cn {N : Nat} {h : Hp} (c : cnH h) : cnH (zr N h) := by
  have h0 : inR 0 := by unfold inR; omega
  refine ⟨fun a i => ?_, fun o k => ?_⟩
  · show inR (if N ≤ a then 0 else h.1 a i)
    split
    · exact h0
    · exact c.1 a i
  · show inR (if N ≤ o then 0 else h.2.1 o k)
    split
    · exact h0
    · exact c.2 o k
theorem wld_zr {cI cQ : ClassId} {ad : Nat → Nat} {S : List Sh} {h : Hp} : wld cI cQ ad S (zr S.length h) = wld cI cQ ad S h := by
  apply List.ext_getElem?
  intro o
  unfold wld
  rw [List.getElem?_mapIdx, List.getElem?_mapIdx]
  cases hs : S[o]? with
  | none => rfl
  | some sh =>
    have ho : ¬ S.length ≤ o := by
      have := (List.getElem?_eq_some_iff.mp hs).1
      omega
    rcases sh with n | ⟨ci, fs⟩ | ⟨n, f⟩ <;> simp [ent, zr, ho]
def vB (N : Nat) (sh : Sh) : Bool := match sh with
  | .inl _ => true
  | .inr (.inl (_, fs)) => fs.all (fun f => match f with
    | none => true
    | some o => Nat.blt o N)
  | .inr (.inr _) => true
def qB (N : Nat) (sh : Sh) : Prop := match sh with
  | .inr (.inr (_, f)) => ∀ j o, f j = some o → o < N
  | _ => True
theorem vSh_of {N : Nat} {sh : Sh} (h : vB N sh = true) (hq : qB N sh) : vSh N (emb sh) := by
  rcases sh with n | ⟨ci, fs⟩ | ⟨n, f⟩
  · trivial
  · intro f hf
    obtain ⟨x, hx, rfl⟩ := List.mem_map.mp hf
    have := List.all_eq_true.mp h x hx
    cases x with
    | none => trivial
    | some o => exact Nat.le_of_ble_eq_true this
  · exact hq
theorem slots_v : ∀ (n o N : Nat), o + 7 * n ≤ N → ∀ sh ∈ slots o n, vSh N (emb sh)
  | 0, _, _, _, sh, h => by cases h
  | n + 1, o, N, hN, sh, h => by
    have h : sh ∈ rowSh o ++ slots (o + 7) n := h
    rcases List.mem_append.mp h with h | h
    · refine vSh_of ?_ ?_
      · have hr : (rowSh o).all (vB N) = true := by
          simp [rowSh, vB]
          omega
        exact List.all_eq_true.mp hr sh h
      · simp only [rowSh, List.mem_cons] at h
        rcases h with rfl | rfl | rfl | rfl | rfl | rfl | rfl | h
        all_goals first | trivial | cases h
    · exact slots_v n (o + 7) N (by omega) sh h
theorem vS_shC (c : Nat) : vS ((shC c).map emb) := by
  intro x hx
  rw [List.length_map, shC_len]
  obtain ⟨sh, hs, rfl⟩ := List.mem_map.mp hx
  unfold shC at hs
  rcases List.mem_append.mp hs with hs | hs
  · refine vSh_of ?_ ?_
    · have h1 : ∀ L : List Sh, L.all (vB 46) = true → ∀ sh ∈ L, vB (46 + 7 * c) sh = true := by
        intro L hL sh hsh
        have := List.all_eq_true.mp hL sh hsh
        rcases sh with n | ⟨ci, fs⟩ | ⟨n, f⟩
        · rfl
        · refine List.all_eq_true.mpr (fun f hf => ?_)
          have h2 := List.all_eq_true.mp this f hf
          cases f with
          | none => rfl
          | some o =>
            have h3 : o + 1 ≤ 46 := Nat.le_of_ble_eq_true h2
            exact Nat.ble_eq_true_of_le (show o + 1 ≤ 46 + 7 * c by omega)
        · rfl
      exact h1 _ (by rfl) sh hs
    · have hq : ∀ j o, (if j < c then some (46 + 7 * j) else none : Option Nat) = some o → o < 46 + 7 * c := by
        intro j o ho
        by_cases hj : j < c
        · rw [if_pos hj] at ho
          cases ho
          omega
        · rw [if_neg hj] at ho
          cases ho
      simp only [List.mem_cons, List.not_mem_nil, or_false] at hs
      rcases hs with rfl | rfl | rfl | rfl | rfl | rfl | rfl | rfl | rfl | rfl | rfl | rfl | rfl | rfl | rfl | rfl | rfl | rfl | rfl | rfl | rfl | rfl | rfl | rfl | rfl | rfl | rfl | rfl | rfl | rfl | rfl | rfl | rfl | rfl | rfl | rfl | rfl | rfl | rfl | rfl | rfl | rfl | rfl | rfl | rfl | rfl
      all_goals first | trivial | exact hq
  · exact slots_v c 46 _ (Nat.le_refl _) sh hs
theorem wldN_putQ {cI cQ : ClassId} {ad : Nat → Nat} {S : List ShN} {h : Hp} {a n k v : Nat} {f : Nat → Option Nat} (hs : S[a]? = some (nQ n f)) :
    (wldN cI cQ ad S h).set a (ad a, .inl (cQ, n, .inr (.inr (.inr (.inr (va_up (fun j => (f j).map ad) k (some (ad v)))))))) = wldN cI cQ ad (S.set a (nQ n (va_up f k (some v)))) h := by
  have hl : a < S.length := (List.getElem?_eq_some_iff.mp hs).1
  apply List.ext_getElem?
  intro q
  by_cases ho : q = a
  · subst ho
    rw [List.getElem?_set_self (by rw [wldN_len]; exact hl), wldN_at (S := S.set q _) (List.getElem?_set_self hl)]
    show some (ad q, _) = some (ad q, entN cI cQ ad h q (nQ n (va_up f k (some v))))
    simp only [entN]
    congr 8
    refine congrArg Sum.inr (funext fun j => ?_)
    unfold va_up
    split <;> rfl
  · rw [List.getElem?_set_ne (fun e => ho e.symm)]
    unfold wldN
    rw [List.getElem?_mapIdx, List.getElem?_mapIdx, List.getElem?_set_ne (fun e => ho e.symm)]
theorem slots_succ : ∀ (n o : Nat), slots o (n + 1) = slots o n ++ rowSh (o + 7 * n)
  | 0, o => by
    show rowSh o ++ slots (o + 7) 0 = [] ++ rowSh (o + 7 * 0)
    rw [show slots (o + 7) 0 = [] from rfl, List.append_nil, List.nil_append]
    rfl
  | n + 1, o => by
    show rowSh o ++ slots (o + 7) (n + 1) = (rowSh o ++ slots (o + 7) n) ++ rowSh (o + 7 * (n + 1))
    rw [slots_succ n (o + 7), List.append_assoc, show o + 7 + 7 * n = o + 7 * (n + 1) by omega]
theorem shC_grow {c : Nat} : ((shC c).map emb ++ (rowSh (46 + 7 * c)).map emb).set 39 (nQ 13 (va_up (fun k => if k < c then some (46 + 7 * k) else none) c (some (46 + 7 * c)))) = (shC (c + 1)).map emb := by
  have hf : va_up (fun k => if k < c then some (46 + 7 * k) else none) c (some (46 + 7 * c)) = (fun k => if k < c + 1 then some (46 + 7 * k) else none) := by
    funext k
    unfold va_up
    by_cases hk : k = c
    · subst hk
      rw [if_pos rfl, if_pos (Nat.lt_succ_self _)]
    · rw [if_neg hk]
      show (if k < c then some (46 + 7 * k) else none) = _
      by_cases h2 : k < c
      · rw [if_pos h2, if_pos (by omega)]
      · rw [if_neg h2, if_neg (by omega)]
  rw [hf, ← List.map_append]
  unfold shC
  rw [slots_succ c 46, List.append_assoc]
  rfl
/-- the heap as it is once a kept row is made -/
def fresh (h : Hp) : Hp := ((zr (46 + 7 * h.2.2) h).1, ((zr (46 + 7 * h.2.2) h).2.1, h.2.2 + 1))
theorem okX5i : MOkN mX5_init := ⟨okX5_init, rfl, rfl, wd_114⟩
theorem hold_new {k : Nat} {h : Hp} {Post : Int → Hp → Prop} (hk : k = h.2.2) (hk13 : k < 13) (kk : Ok shC 1 1 mX4_hold 35 [some (pR 38), some (pR 2), some (pI k)] [] (fresh h) Post) : Ok shC 1 0 mX4_hold 27 [some (pR 38), some (pR 2), some (pI k)] [pI k, pR 39] h Post := by
  intro p l e R s m args below meth c D cI cQ A ad H locs LS Qc free C Wd0 L cs hf hq
  subst hk
  have hN : (shC h.2.2).length = 46 + 7 * h.2.2 := shC_len _
  have hK := C.2.2.2.2.2.2.2.2.2.2.2.1
  have hA := C.2.2.2.2.2.2.2.2.2.2.2.2
  have hw := C.2.2.2.2.2.1
  have hcl : 7 ≤ R.cells := C.2.2.2.2.2.2.2.2.2.1
  have hsl : 3628 ≤ R.slots := C.2.2.2.2.2.2.2.2.2.2.1
  have e0 : wld cI cQ ad (shC h.2.2) h = wldN cI cQ ad ((shC h.2.2).map emb) (zr (46 + 7 * h.2.2) h) := by
    rw [wldN_emb, ← hN, wld_zr]
  have hP0 := Wd0.1
  have hD0 := Wd0.2.1
  rw [e0] at hP0 hD0
  have hlen : ((shC h.2.2).map emb).length = 46 + 7 * h.2.2 := by rw [List.length_map, hN]
  have hz0 : ∀ j, i32 ((zr (46 + 7 * h.2.2) h).2.1 (46 + 7 * h.2.2) j) = 0 := fun j => by
    show i32 (if 46 + 7 * h.2.2 ≤ 46 + 7 * h.2.2 then 0 else h.2.1 _ j) = 0
    rw [if_pos (Nat.le_refl _)]
    rfl
  refine va_new (fs := fvsN ad ((zr (46 + 7 * h.2.2) h).2.1 (46 + 7 * h.2.2)) [none, none, none, none, none, none, some none, some none]) C.1 C.2.1 hw inX5 tyX5 tyX5_ok C.2.2.2.2.1 (hw _ wd_323) (hw _ wd_112) (hw _ wd_86) hK hP0 hD0 Wd0.2.2.1 hA (ci := 5) rfl (fun j hj => ?_) (by omega) (by omega) dX4_hold_27 (fun q H1 hP hD hS => ?_)
  · obtain ⟨f, h1, h2⟩ := bornX5 j hj
    unfold vp_V
    rw [List.getD_eq_getElem?_getD, fvsN_at h1]
    rcases h2 with ⟨rfl, h2⟩ | ⟨rfl, h2⟩
    · rw [h2]; rfl
    · rw [h2]
      show Value.int 0 = Value.int (i32 _)
      rw [hz0 j]
  have hsv : vSh ((shC h.2.2).map emb).length (nO 5 [none, none, none, none, none, none, some none, some none]) := by
    intro f hf
    simp only [List.mem_cons, List.not_mem_nil, or_false] at hf
    rcases hf with rfl | rfl | rfl | rfl | rfl | rfl | rfl | rfl <;> trivial
  have ee := wldN_push (cI := cI) (cQ := cQ) (ad := ad) (h := zr (46 + 7 * h.2.2) h) (vS_shC h.2.2) q hsv
  have ex : entN cI cQ ad (zr (46 + 7 * h.2.2) h) ((shC h.2.2).map emb).length (nO 5 [none, none, none, none, none, none, some none, some none]) = .inr (5, fvsN ad ((zr (46 + 7 * h.2.2) h).2.1 (46 + 7 * h.2.2)) [none, none, none, none, none, none, some none, some none]) := by
    rw [hlen]
    rfl
  rw [ex] at ee
  rw [ee] at hP hD
  generalize had1 : va_up ad ((shC h.2.2).map emb).length q = ad1 at hP hD
  have hext1 : ∀ i, i < 46 + 7 * h.2.2 ∨ 46 + 7 * h.2.2 + 1 ≤ i → ad1 i = ad i := fun i hi => by
    rw [← had1, hlen]
    exact up_gr i hi
  have hadq : ad1 (46 + 7 * h.2.2) = q := by
    rw [← had1, hlen]
    unfold va_up
    rw [if_pos rfl]
  have Wd1 : WdN ((shC h.2.2).map emb ++ [nO 5 [none, none, none, none, none, none, some none, some none]]) D cI cQ A s ad1 (zr (46 + 7 * h.2.2) h) H1 locs :=
    ⟨hP, hD, hS, zr_cn Wd0.2.2.2.1, zf_push (by rw [hlen]; exact zr_zf _ _), vS_push (vS_shC _) (hsv.mono (Nat.le_succ _))⟩
  refine lv_dup C.1 C.2.1 dX4_hold_30 rfl ?_
  have hlen1 : ((shC h.2.2).map emb ++ [nO 5 [none, none, none, none, none, none, some none, some none]]).length = 46 + 7 * h.2.2 + 1 := by rw [List.length_append, hlen]; rfl
  have hG := nX5_init ((shC h.2.2).map emb) (46 + 7 * h.2.2) hlen (zr (46 + 7 * h.2.2) h)
  have hM := OkN.met okX5i (leb rfl) (av := [pR (46 + 7 * h.2.2)]) (fun v hv => by rcases List.mem_singleton.mp hv with rfl; trivial) (fun v hv => by rcases List.mem_singleton.mp hv with rfl; show _ < _; rw [hlen1]; omega) Wd1.2.2.2.1 Wd1.2.2.2.2.1 Wd1.2.2.2.2.2 hG l D cI cQ ad1 H1.size
  have cb : va_CN R s args mX4_hold.1 24 mX5_init.2.1 "CallMelt" mX5_init.2.2.1 mX5_init.2.2.2.1 none (Cond.code mX5_init.2.1 mX5_init.2.2.1 mX5_init.2.2.2.1 none :: lw_g) (roomN 6 3620 mX5_init) 6 3620 0 := by
    have hC : COk mX4_hold mX5_init 0 := ⟨by decide +kernel, by decide, by decide⟩
    exact ⟨⟨rfl, rfl, Nat.le_trans hC.2.1 C.2.2.2.2.2.2.2.1, Nat.le_trans hC.2.2 C.2.2.2.2.2.2.2.2.1, pay_in (fun w hw' => hw w (List.mem_append_left _ hw')) (lw_gi okX5_init), List.mem_cons_self⟩, hw _ (List.mem_append_left _ okX5_init.2.2.1), hw _ wd_86, okX5_init.2.2.2.2, hC.len, hw _ wd_505⟩
  have hrun := va_runIN (l := l) (e := e) (locs := locs) (cells := 0 + 1) (slots := 0 + 8) (below := below) (meth := meth) (As := []) (b := q) (rest := [.ref q, .int (i32 (h.2.2 : Int)), .ref (ad 39)]) (g := F0 m 31 LS [.ref q, .ref q, .int (i32 (h.2.2 : Int)), .ref (ad 39)]) ⟨C.1, C.2.1, C.2.2.2.1, C.2.2.2.2.1, hw⟩ hM ⟨cb, rfl, hw _ wd_114⟩
    ⟨PcN.blind, fun U hU hW => ⟨by rw [List.map_singleton]; show #[Value.ref q] = #[Value.ref (ad1 _)]; rw [hadq], by rw [hU], by rw [hU]; exact hP, va_K.moved hW.alike hK, hD.weaken (fun _ _ _ _ => trivial), Or.inl rfl, fun w hw' => isNest_warm (List.mem_filter.mp hw').2 hW (va_Nw.of (isNest_tab (List.mem_filter.mp hw').2) (hw w (List.mem_append_right _ hw')))⟩⟩ rfl rfl L.1.1 rfl (lv_room (leb rfl)) dX4_hold_31 ⟨by omega, by omega⟩
  have hfr := wldN_free Wd1 hA
  intro X hX St
  obtain ⟨v, st₀, t, X', Lc, h0, St', hL, e1, e2, ⟨⟨S', h', ad', hv, ⟨rfl, rfl⟩, hle, hext, hP2, hD2, hc2, hz2, hv2⟩, hz, hkp⟩, go⟩ := hrun X hX St
  cases hv
  rw [h0] at hz hkp
  have hS2 : va_S A s.heap X'.heap (locs ++ Lc) := ⟨Nat.le_trans hS.1 (by rw [e1]; exact hz), fun q h1 h2 => by rw [e1, hkp q (Nat.lt_of_lt_of_le h1 hS.1) (fun z => h2 (hfr q z))]; exact hS.2.1 q h1 h2, fun q hq => by
      rcases List.mem_append.mp hq with h | h
      · exact hS.2.2 q h
      · exact hfr _ (hL q h)⟩
  rw [← e1] at hP2
  have hD2 := hD2.weaken (fun _ q _ z => hfr q.1 z)
  have hl2 : ((shC h.2.2).map emb ++ (rowSh (46 + 7 * h.2.2)).map emb).length = 46 + 7 * (h.2.2 + 1) := by rw [List.length_append, hlen]; simp [rowSh]; omega
  have e39 : ad' 39 = ad 39 := by
    rw [hext 39 (Or.inl (by rw [hlen1]; omega)), hext1 39 (Or.inl (by omega))]
  have eq2 : ad' (46 + 7 * h.2.2) = q := by
    rw [hext _ (Or.inl (by rw [hlen1]; omega)), hadq]
  have h39 : ((shC h.2.2).map emb ++ (rowSh (46 + 7 * h.2.2)).map emb)[39]? = some (nQ 13 (fun k => if k < h.2.2 then some (46 + 7 * k) else none)) := by
    rw [List.getElem?_append_left (by rw [hlen]; omega), List.getElem?_map, shC_39]
    rfl
  have hNN : ((shC h.2.2).map emb ++ (rowSh (46 + 7 * h.2.2)).map emb)[46 + 7 * h.2.2]? = ((rowSh (46 + 7 * h.2.2)).map emb)[0]? := by
    rw [List.getElem?_append_right (by rw [hlen]; exact Nat.le_refl _), hlen, Nat.sub_self]
  have hP2 : va_P D vwCl (wldN cI cQ ad' ((shC h.2.2).map emb ++ (rowSh (46 + 7 * h.2.2)).map emb) (zr (46 + 7 * h.2.2) h)) X'.heap := hP2
  have hD2 : va_D A (wldN cI cQ ad' ((shC h.2.2).map emb ++ (rowSh (46 + 7 * h.2.2)).map emb) (zr (46 + 7 * h.2.2) h)) := hD2
  have KW : W p l e R s m args below meth c X'.heap (locs ++ Lc) (7 * 1) (slz * 1) (MQ below Qc args s (7 * 1) (slz * 1) free) (F0 m 34 LS [.ref (ad' (46 + 7 * h.2.2)), .int (i32 (h.2.2 : Int)), .ref (ad' 39)]) := by
    refine va_astq C.1 C.2.1 hK hP2 hD2 hS2 39 1 (46 + 7 * h.2.2) 5 (r := (RX5, TX5, 8)) (wldN_at h39) rfl (wldN_at (hNN.trans rfl)) rfl (i32_in hk13 (by decide)) dX4_hold_34 (fun H2 locs2 hP3 hD3 hS3 => ?_)
    rw [i32_k (by omega), wldN_putQ h39, shC_grow, wldN_emb] at hP3 hD3
    have hex : ∀ i, (i < 46 + 7 * h.2.2 ∨ 1000000 ≤ i) → ad' i = ad i := fun i hi => by
      rw [hext i (by rw [hlen1]; show _ ∨ ((shC h.2.2).map emb ++ (rowSh (46 + 7 * h.2.2)).map emb).length ≤ i; rw [hl2]; omega), hext1 i (by omega)]
    have hZ : stZ ad' A s := by
      intro k hk
      rw [hex (1000000 + k) (Or.inr (by omega))]
      exact Wd0.2.2.2.2 k hk
    have hr0 : ∀ a i, inR ((fresh h).1 a i) := fun a i => (zr_cn (N := 46 + 7 * h.2.2) Wd0.2.2.2.1).1 a i
    have hr1 : ∀ a i, inR ((fresh h).2.1 a i) := fun a i => (zr_cn (N := 46 + 7 * h.2.2) Wd0.2.2.2.1).2 a i
    refine kk p l e R s m args below meth c D cI cQ A ad' H2 locs2 LS Qc free C ⟨hP3, hD3, hS3, ⟨hr0, hr1⟩, hZ⟩ ⟨⟨L.1.1, L.1.2.1, fun x hx => ?_⟩, L.2⟩ (fun v hv => by cases hv) hf ?_
    · obtain ⟨w, h1, h2⟩ := lvl_mem.mp hx
      have hw0 := L.at h1
      have hvv : vR (46 + 7 * h.2.2) w := by
        have hm : some w ∈ [some (pR 38), some (pR 2), some (pI (h.2.2 : Int))] := List.mem_of_getElem? h1
        simp only [List.mem_cons, List.not_mem_nil, or_false, Option.some.injEq] at hm
        rcases hm with rfl | rfl | rfl
        · show 38 < _; omega
        · show 2 < _; omega
        · trivial
      rw [h2, trV_N hvv (fun i hi => hex i (Or.inl hi))]
      exact hw0
    · intro r2 h2 ad2 t2 v2 p1 p2
      refine hq r2 h2 ad2 t2 v2 p1 ⟨fun z => absurd z (by decide), ?_, fun i hi => ?_⟩
      · have := p2.2.1
        have h3 : h.2.2 + 1 ≤ h2.2.2 := this
        omega
      · rw [p2.2.2 i (hi.imp (fun z => by show i < (shC (h.2.2 + 1)).length; rw [shC_len]; rw [hN] at z; omega) id)]
        exact hex i (by rw [hN] at hi; exact hi)
  rw [eq2, e39] at KW
  obtain ⟨t2, a1, b1⟩ := KW X' rfl St'
  exact ⟨t2, go t2 a1, b1⟩
