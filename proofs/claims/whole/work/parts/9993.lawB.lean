/-! THE LAW'S WALK: two worlds side by side, that of the class and that of the reference -/
abbrev mLaw : MI := (R_law, ⟨"CallMeltLaw", "law", "([I)Z"⟩, code, 4, ret, 10, 392)
def lwA (s : State) : Nat → Prop := fun q => s.heap.size ≤ q
def apt (w1 w2 : va_W) : Prop := ∀ (i j : Nat) (x y : Nat × va_E), w1[i]? = some x → w2[j]? = some y → x.1 ≠ y.1
theorem apt.sy {w1 w2 : va_W} (h : apt w1 w2) : apt w2 w1 := fun i j x y hx hy e => h j i y x hy hx e.symm
theorem apt_go {D : va_G} {cl : List vw_C} {w1 w1' w2 : va_W} {H H1 : Heap} (hP2 : va_P D cl w2 H) (ha : apt w1 w2) (hk : ∀ q : Nat, q < H.size → ¬ va_A w1 H.size q → H1[q]? = H[q]?) (hD1 : va_D (va_A w1 H.size) w1') : va_P D cl w2 H1 ∧ apt w1' w2 := by
  have key : ∀ (k : Nat) (q : Nat × va_E), w2[k]? = some q → q.1 < H.size ∧ ¬ va_A w1 H.size q.1 := by
    intro k q hq
    have hl := (hP2 k q hq).lt
    refine ⟨hl, fun h => ?_⟩
    rcases h with ⟨i, e, h⟩ | h
    · exact ha i k (q.1, e) q h hq rfl
    · exact absurd hl (Nat.not_lt.mpr h)
  refine ⟨fun k q hq => (hP2 k q hq).kept (hk q.1 (key k q hq).1 (key k q hq).2), fun i j x y hx hy e => ?_⟩
  exact (key j y hy).2 (by rw [← e]; exact hD1.2 i x hx)
theorem va_split {A : Nat → Prop} {D : va_G} {cl : List vw_C} {w1 w2 : va_W} {H : Heap} (hP : va_P D cl (w1 ++ w2) H) (hD : va_D A (w1 ++ w2)) : va_P D cl w1 H ∧ va_D A w1 ∧ va_P D cl w2 H ∧ va_D A w2 ∧ apt w1 w2 := by
  have e1 : ∀ (k : Nat) (q : Nat × va_E), w1[k]? = some q → (w1 ++ w2)[k]? = some q := fun k q hq => by
    rw [List.getElem?_append_left (List.getElem?_eq_some_iff.mp hq).1]
    exact hq
  have e2 : ∀ (k : Nat) (q : Nat × va_E), w2[k]? = some q → (w1 ++ w2)[w1.length + k]? = some q := fun k q hq => by
    rw [List.getElem?_append_right (Nat.le_add_right _ _), Nat.add_sub_cancel_left]
    exact hq
  refine ⟨fun k q hq => hP k q (e1 k q hq), ⟨fun i j p q hp hq e => hD.1 i j p q (e1 i p hp) (e1 j q hq) e, fun k q hq => hD.2 k q (e1 k q hq)⟩, fun k q hq => hP _ q (e2 k q hq), ⟨fun i j p q hp hq e => ?_, fun k q hq => hD.2 _ q (e2 k q hq)⟩, fun i j x y hx hy e => ?_⟩
  · have := hD.1 _ _ p q (e2 i p hp) (e2 j q hq) e
    omega
  · have h1 := hD.1 _ _ x y (e1 i x hx) (e2 j y hy) e
    have h2 := (List.getElem?_eq_some_iff.mp hx).1
    omega
section LWC
variable {p : Program} {l : Launch} {e : Env} {s : State} {m : MethodId} {below : List Frame} {meth : Method} {c : Code} {b L : Nat} {xs : Nat → Int32} {D : va_G} {cI cQ : ClassId}
theorem lw_hu (C0 : lw_At p s m meth c b L xs) : ∀ w ∈ lw_u, w.before #[Value.ref b] s = true := fun w hw => C0.2.2.2.2.2.1 w ((List.mem_append.mp hw).elim (fun h => (List.mem_filter.mp h).1) (fun h => (List.mem_filter.mp h).1))
theorem lwA_free {ws : va_W} {H : Heap} {locs : List Loc} (hD : va_D (lwA s) ws) (hS : va_S (lwA s) s.heap H locs) : ∀ q, va_A ws H.size q → lwA s q := by
  intro q hq
  rcases hq with ⟨k, e, hk⟩ | hq
  · exact hD.2 k (q, e) hk
  · exact Nat.le_trans hS.1 hq
theorem lw_call (C0 : lw_At p s m meth c b L xs) (hK : va_K D vwCl [(cI, .int), (cQ, .object RX5)] s) {Sg : Nat → List Sh} {T pc idx n : Nat} {G : MI} {ad : Nat → Nat} {h : Hp} {H : Heap} {locs : List Loc} {w2 : va_W} {av : List PV} {rest st : List Value} {LS : Array Slot} {cells slots : Nat} {PG : Int → Hp → Prop} {ci N : Nat} {fs : List (Option Nat)} {TX : u_T} {ty : FieldType}
    (hP : va_P D vwCl (wld cI cQ ad (Sg h.2.2) h) H) (hD : va_D (lwA s) (wld cI cQ ad (Sg h.2.2) h)) (hS : va_S (lwA s) s.heap H locs) (hc : cnH h) (hZ : stZ ad (lwA s) s)
    (hP2 : va_P D vwCl w2 H) (ha : apt (wld cI cQ ad (Sg h.2.2) h) w2)
    (hd : decode code pc = .ok (.invokevirtual idx, 3)) (hC : CV mLaw idx G n) (hty : G.2.2.2.2.1 = some ty) (hs : (Sg h.2.2)[0]? = some (shO ci fs)) (hcl : vwCl[ci]? = some (G.1, TX, N))
    (hst : st = (av.map (trV ad)).reverse ++ .ref (ad 0) :: rest) (hav : ∀ v ∈ av, cnV v) (hn : av.length = n) (hm : (eaux (pR 0 :: av)).length ≤ G.2.2.2.1) (hr : (rest.map fun v => v.category).sum ≤ 8) (hls : LS.size = 4)
    (hf : cells + 7 * T ≤ 600000 ∧ slots + slz * T ≤ 7302250)
    (hG : Ok Sg T 0 G 0 (ents (pR 0 :: av) G.2.2.2.1) [] h PG) (hSg : ∀ c, 0 < (Sg c).length)
    (k : ∀ (r : Int) (h' : Hp) (ad' : Nat → Nat) (H' : Heap) (locs' : List Loc), PG r h' → cnH h' → ad' 0 = ad 0 → va_P D vwCl (wld cI cQ ad' (Sg h'.2.2) h') H' → va_D (lwA s) (wld cI cQ ad' (Sg h'.2.2) h') → va_S (lwA s) s.heap H' locs' → stZ ad' (lwA s) s → va_P D vwCl w2 H' → apt (wld cI cQ ad' (Sg h'.2.2) h') w2 → W p l e room_1 s m #[Value.ref b] below meth c H' locs' (cells + 7 * T) (slots + slz * T) (lw_Z below #[Value.ref b] s) (F0 m (pc + 3) LS (.int (i32 r) :: rest))) :
    W p l e room_1 s m #[Value.ref b] below meth c H locs cells slots (lw_Z below #[Value.ref b] s) (F0 m pc LS st) := by
  subst hst
  have hu := lw_hu C0
  obtain ⟨hx, hb, hrt, hml, hown, hts, hX, hbl, hlocks, hgv⟩ := id C0
  have hfr := lwA_free hD hS
  have hM := Ok.met hC.1 hm (List.forall_mem_cons.mpr ⟨trivial, hav⟩) hc hG l D cI cQ ad H.size
  have cb : CallB room_1 s #[Value.ref b] mLaw.1 idx G.2.1 G.2.2.1 G.2.2.2.1 G.2.2.2.2.1 (Cond.code G.2.1 G.2.2.1 G.2.2.2.1 G.2.2.2.2.1 :: lw_g) (roomOf T G) (7 * T) (slz * T) n :=
    ⟨rfl, rfl, hC.2.1.2.1, hC.2.1.2.2, pay_in (fun w hw => hu w (List.mem_append_left _ hw)) (lw_gi hC.1), List.mem_cons_self, hu _ (List.mem_append_left _ hC.1.2.2.1), by rw [hC.1.2.1]; exact hu _ hC.1.2.2.2.1, hC.1.2.2.2.2, hC.2.1.len, hu _ hC.2.2.1⟩
  have hpc : ∀ U : State, U.heap = H → s.WarmedH U.vm → PcP Sg D cI cQ ad h H.size U := by
    intro U hU hW
    refine ⟨by rw [hU], by rw [hU]; exact hP, va_K.moved hW.alike hK, hD.weaken (fun _ _ _ _ => trivial), fun k hk => ?_, fun w hw => isNest_warm (List.mem_filter.mp hw).2 hW (va_Nw.of (isNest_tab (List.mem_filter.mp hw).2) (hu w (List.mem_append_right _ hw)))⟩
    have hz := hZ k hk
    rw [hU]
    exact ⟨va_Z.moved hW.alike ((hz.1.kept (fun a h1 h2 => hS.2.1 a h1 h2)).narrow hfr), va_T.moved hW.alike ((hz.2.kept (fun a h1 h2 => hS.2.1 a h1 h2)).narrow hfr)⟩
  have hrun : va_Run p l e room_1 s m #[Value.ref b] below meth c H locs cells slots (7 * T) (slz * T) (F0 m pc LS ((av.map (trV ad)).reverse ++ .ref (ad 0) :: rest)) rest (QcP Sg T G D cI cQ (va_A (wld cI cQ ad (Sg h.2.2) h) H.size) ad h PG (Value.ref (ad 0) :: av.map (trV ad)).toArray) (va_A (wld cI cQ ad (Sg h.2.2) h) H.size) :=
    va_runV (As := av.map (trV ad)) (rest := rest) ⟨hx, hb, hml, hown, hu⟩ hM ⟨cb, hu _ hC.2.2.2.1, hu _ hC.2.2.2.2⟩
    ⟨PcP.blind, wld_recv hK hP hs hcl, fun U hU hW => ⟨rfl, hpc U hU hW⟩⟩ rfl (by rw [List.length_map]; exact hn) hls rfl (lv_room hr) hd hf
  intro X hX St
  obtain ⟨v, st₀, t, X', Lc, h0, St', hL, e1, e2, ⟨⟨r, h', ad', v', hv, hp, hE, hP1, hD1, hc1, hr1, hret⟩, hz, hk⟩, go⟩ := hrun X hX St
  cases hv
  rw [h0] at hz hk
  have hS' : va_S (lwA s) s.heap X'.heap (locs ++ Lc) := ⟨Nat.le_trans hS.1 (by rw [e1]; exact hz), fun q h1 h2 => by rw [e1, hk q (Nat.lt_of_lt_of_le h1 hS.1) (fun z => h2 (hfr q z))]; exact hS.2.1 q h1 h2, fun q hq => by
      rcases List.mem_append.mp hq with h | h
      · exact hS.2.2 q h
      · exact hfr _ (hL q h)⟩
  rw [hty] at hret
  have hret : v = some (.int (i32 r)) := hret
  have hj := apt_go (H1 := X'.heap) hP2 ha (fun q h1 h2 => by rw [e1]; exact hk q h1 h2) hD1
  have hZ' : stZ ad' (lwA s) s := fun k hk => by
    rw [hE.2.2 (1000000 + k) (Or.inr (Nat.le_add_right _ _))]
    exact hZ k hk
  have K := k r h' ad' X'.heap (locs ++ Lc) hp hc1 (hE.2.2 0 (Or.inl (hSg _))) (by rw [e1]; exact hP1) (hD1.weaken (fun _ q _ z => hfr q.1 z)) hS' hZ' hj.1 hj.2
  obtain ⟨t2, a1, b1⟩ := K X' rfl St'
  refine ⟨t2, go t2 ?_, b1⟩
  rw [hret]
  exact a1
theorem lw_ctor (C0 : lw_At p s m meth c b L xs) (hK : va_K D vwCl [(cI, .int), (cQ, .object RX5)] s) (hAO : va_AO RX5 s) {pc idx mc ms : Nat} {G : MI} {S : List ShN} {ad : Nat → Nat} {h : Hp} {H : Heap} {locs : List Loc} {w2 : va_W} {rest : List Value} {LS : Array Slot} {cells slots : Nat} {PG : List ShN → Hp → Prop}
    (hP : va_P D vwCl (wldN cI cQ ad S h) H) (hD : va_D (lwA s) (wldN cI cQ ad S h)) (hS : va_S (lwA s) s.heap H locs) (hc : cnH h) (hzf : zf S.length h) (hv : vS S)
    (hP2 : va_P D vwCl w2 H) (ha : apt (wldN cI cQ ad S h) w2)
    (hd : decode code pc = .ok (.invokespecial idx, 3)) (hC : CI mLaw idx G 0) (hpos : 0 < S.length) (hm : (eaux [pR 0]).length ≤ G.2.2.2.1) (hr : (rest.map fun v => v.category).sum ≤ 8) (hls : LS.size = 4)
    (hf : cells + mc ≤ 600000 ∧ slots + ms ≤ 7302250)
    (hG : ClN G mc ms [pR 0] S h PG)
    (k : ∀ (S' : List ShN) (h' : Hp) (ad' : Nat → Nat) (H' : Heap) (locs' : List Loc), PG S' h' → (∀ i, i < S.length ∨ S'.length ≤ i → ad' i = ad i) → cnH h' → va_P D vwCl (wldN cI cQ ad' S' h') H' → va_D (lwA s) (wldN cI cQ ad' S' h') → va_S (lwA s) s.heap H' locs' → va_P D vwCl w2 H' → apt (wldN cI cQ ad' S' h') w2 → W p l e room_1 s m #[Value.ref b] below meth c H' locs' (cells + mc) (slots + ms) (lw_Z below #[Value.ref b] s) (F0 m (pc + 3) LS rest)) :
    W p l e room_1 s m #[Value.ref b] below meth c H locs cells slots (lw_Z below #[Value.ref b] s) (F0 m pc LS (.ref (ad 0) :: rest)) := by
  have hu := lw_hu C0
  obtain ⟨hx, hb, hrt, hml, hown, hts, hX, hbl, hlocks, hgv⟩ := id C0
  have hfr := lwA_free hD hS
  have hM := OkN.met hC.1 hm (av := [pR 0]) (List.forall_mem_cons.mpr ⟨trivial, fun v hv => by cases hv⟩) (List.forall_mem_cons.mpr ⟨hpos, fun v hv => by cases hv⟩) hc hzf hv hG l D cI cQ ad H.size
  have cb : CallB room_1 s #[Value.ref b] mLaw.1 idx G.2.1 G.2.2.1 G.2.2.2.1 none (Cond.code G.2.1 G.2.2.1 G.2.2.2.1 none :: lw_g) (roomN mc ms G) mc ms 0 := by
    have hg := lw_gi hC.1.1
    have h1 := hC.1.1.2.2.1
    rw [hC.1.2.2.1] at hg h1
    exact ⟨rfl, rfl, hC.2.1.2.1, hC.2.1.2.2, pay_in (fun w hw => hu w (List.mem_append_left _ hw)) hg, List.mem_cons_self, hu _ (List.mem_append_left _ h1), by rw [hC.1.1.2.1]; exact hu _ hC.1.1.2.2.2.1, hC.1.1.2.2.2.2, hC.2.1.len, hu _ hC.2.2⟩
  have hpc : ∀ U : State, U.heap = H → s.WarmedH U.vm → PcN G S D cI cQ ad h H.size U := by
    intro U hU hW
    exact ⟨by rw [hU], by rw [hU]; exact hP, va_K.moved hW.alike hK, hD.weaken (fun _ _ _ _ => trivial), Or.inr (va_AO.moved hW.alike hAO), fun w hw => isNest_warm (List.mem_filter.mp hw).2 hW (va_Nw.of (isNest_tab (List.mem_filter.mp hw).2) (hu w (List.mem_append_right _ hw)))⟩
  have hrun : va_Run p l e room_1 s m #[Value.ref b] below meth c H locs cells slots mc ms (F0 m pc LS (.ref (ad 0) :: rest)) rest (QcN S D cI cQ (va_A (wldN cI cQ ad S h) H.size) ad PG (Value.ref (ad 0) :: []).toArray) (va_A (wldN cI cQ ad S h) H.size) :=
    va_runI (As := []) (rest := rest) ⟨hx, hb, hml, hown, hu⟩ hM ⟨cb, hC.1.2.1, hu _ hC.1.2.2.2⟩
    ⟨PcN.blind, fun U hU hW => ⟨rfl, hpc U hU hW⟩⟩ rfl rfl hls rfl (lv_room hr) hd hf
  intro X hX St
  obtain ⟨v, st₀, t, X', Lc, h0, St', hL, e1, e2, ⟨⟨S', h', ad', hv, hp, hle, hext, hP1, hD1, hc1, hz1, hv1⟩, hz, hk⟩, go⟩ := hrun X hX St
  cases hv
  rw [h0] at hz hk
  have hS' : va_S (lwA s) s.heap X'.heap (locs ++ Lc) := ⟨Nat.le_trans hS.1 (by rw [e1]; exact hz), fun q h1 h2 => by rw [e1, hk q (Nat.lt_of_lt_of_le h1 hS.1) (fun z => h2 (hfr q z))]; exact hS.2.1 q h1 h2, fun q hq => by
      rcases List.mem_append.mp hq with h | h
      · exact hS.2.2 q h
      · exact hfr _ (hL q h)⟩
  have hj := apt_go (H1 := X'.heap) hP2 ha (fun q h1 h2 => by rw [e1]; exact hk q h1 h2) hD1
  have K := k S' h' ad' X'.heap (locs ++ Lc) hp hext hc1 (by rw [e1]; exact hP1) (hD1.weaken (fun _ q _ z => hfr q.1 z)) hS' hj.1 hj.2
  obtain ⟨t2, a1, b1⟩ := K X' rfl St'
  exact ⟨t2, go t2 a1, b1⟩
/-! the script's ints onto the stack -/
def PushAt (pc n : Nat) : Prop := ∀ j, j < n → decode code (pc + 5 * j) = .ok (.aload_n 0, 1) ∧ decode code (pc + 5 * j + 1) = .ok (.iload_n 3, 1) ∧ decode code (pc + 5 * j + 2) = .ok (.iconst ((j : Int) + 1), 1) ∧ decode code (pc + 5 * j + 3) = .ok (.iadd, 1) ∧ decode code (pc + 5 * j + 4) = .ok (.iaload, 1)
def lwx (xs : Nat → Int32) (i n : Nat) : List PV := (List.range n).map (fun j => pI (xs (i + 1 + j)).toInt)
theorem lwx_cn {i n : Nat} : ∀ v ∈ lwx xs i n, cnV v := by
  intro v hv
  unfold lwx at hv
  obtain ⟨j, -, rfl⟩ := List.mem_map.mp hv
  have h1 := Int32.le_toInt (xs (i + 1 + j))
  have h2 := Int32.toInt_lt (xs (i + 1 + j))
  show inR _
  unfold inR
  omega
theorem lwx_len {i n : Nat} : (lwx xs i n).length = n := by
  unfold lwx
  rw [List.length_map, List.length_range]
theorem lwx_s {i n : Nat} : lwx xs i (n + 1) = lwx xs i n ++ [pI (xs (i + 1 + n)).toInt] := by
  unfold lwx
  rw [List.range_succ, List.map_append]
  rfl
theorem lw_push (C0 : lw_At p s m meth c b L xs) (hL : L ≤ 3072) {H : Heap} {locs : List Loc} (hS : va_S (lwA s) s.heap H locs) {i : Nat} {LS : Array Slot} (h0 : LS[0]? = some (.val (.ref b))) (h3 : LS[3]? = some (.val (.int (i32 (i : Int))))) (ad : Nat → Nat) {cells slots : Nat} : ∀ (n pc : Nat) (rest : List Value), PushAt pc n → i + n < L →
    W p l e room_1 s m #[Value.ref b] below meth c H locs cells slots (lw_Z below #[Value.ref b] s) (F0 m (pc + 5 * n) LS (((lwx xs i n).map (trV ad)).reverse ++ rest)) →
    W p l e room_1 s m #[Value.ref b] below meth c H locs cells slots (lw_Z below #[Value.ref b] s) (F0 m pc LS rest)
  | 0, pc, rest, _, _, kk => kk
  | n + 1, pc, rest, hp, hi, kk => by
    obtain ⟨hx, hb, hrt, hml, hown, hts, hX, hbl, hlocks, hgv⟩ := id C0
    refine lw_push C0 hL hS h0 h3 ad n pc rest (fun j hj => hp j (by omega)) (by omega) ?_
    obtain ⟨d1, d2, d3, d4, d5⟩ := hp n (Nat.lt_succ_self n)
    refine lv_aload_n hx hb d1 rfl h0 ?_
    refine lv_iload_n hx hb d2 rfl h3 ?_
    refine lv_iconst (v := i32 ((n : Int) + 1)) hx hb d3 rfl ?_
    refine lv_iadd hx hb d4 ?_
    have e : i32 (i : Int) + i32 ((n : Int) + 1) = i32 ((i + 1 + n : Nat) : Int) := by
      rw [← Int32.ofInt_add, show (i : Int) + ((n : Int) + 1) = ((i + 1 + n : Nat) : Int) by omega]
    rw [e]
    refine va_sld hx hb hX hbl (Nat.not_le.mpr hbl) hS (i32_in (by omega) (by omega)) d5 ?_
    rw [i32_k (by omega)]
    have e2 : ((lwx xs i (n + 1)).map (trV ad)).reverse ++ rest = .int (xs (i + 1 + n)) :: (((lwx xs i n).map (trV ad)).reverse ++ rest) := by
      rw [lwx_s, List.map_append, List.reverse_append]
      show Value.int (i32 (xs (i + 1 + n)).toInt) :: _ = _
      rw [show i32 (xs (i + 1 + n)).toInt = xs (i + 1 + n) from Int32.ofInt_toInt _]
      rfl
    rw [e2, show pc + 5 * (n + 1) = pc + 5 * n + 4 + 1 by omega] at kk
    exact kk
end LWC
