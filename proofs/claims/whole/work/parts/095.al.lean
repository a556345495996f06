/-! a call that may make one row of cells (hold): the addresses grow -/
def vld (v : Option PV) : Bool := match v with
  | some (.inr (.inl o)) => Nat.ble (o + 1) 46
  | _ => true
theorem shC_mono {c c' : Nat} (h : c ≤ c') : (shC c).length ≤ (shC c').length := by
  rw [shC_len, shC_len]
  omega
theorem shC_46 (c : Nat) : 46 ≤ (shC c).length := by
  rw [shC_len]
  omega
theorem trV_ext {ad ad' : Nat → Nat} {n : Nat} (hn : 46 ≤ n) (he : ∀ i, (i < n ∨ 1000000 ≤ i) → ad' i = ad i) {v : PV} (hv : vld (some v) = true) : trV ad' v = trV ad v := by
  rcases v with z | o | z
  · rfl
  · have ho : o + 1 ≤ 46 := Nat.le_of_ble_eq_true hv
    show Value.ref (ad' o) = Value.ref (ad o)
    rw [he o (Or.inl (by omega))]
  · rfl
theorem Ok.callAl {Sg : Nat → List Sh} {F G : MI} {pc pc' idx n : Nat} {ls : List (Option PV)} {st av rest : List PV} {h : Hp} {Post PG : Int → Hp → Prop} {b ci N : Nat} {fs : List (Option Nat)} {TX : u_T}
    (hd : decode F.2.2.1 pc = .ok (.invokevirtual idx, 3)) (hp : pc + 3 = pc') (hC : CV F idx G n) (hs : (Sg h.2.2)[b]? = some (shO ci fs)) (hc : vwCl[ci]? = some (G.1, TX, N)) (hst : st = av.reverse ++ pR b :: rest) (hn : av.length = n) (hm : (eaux (pR b :: av)).length ≤ G.2.2.2.1) (hr : (rest.map cat).sum ≤ 8)
    (hmono : ∀ {c c' : Nat}, c ≤ c' → (Sg c).length ≤ (Sg c').length) (hlen : 46 ≤ (Sg h.2.2).length) (hv : (ls.all vld && rest.all (fun v => vld (some v))) = true)
    (hG : Cl1 Sg G (pR b :: av) h PG) (k : ∀ (r : Int) (h' : Hp), PG r h' → Ok Sg 1 1 F pc' ls (rp G.2.2.2.2.1 r ++ rest) h' Post) : Ok Sg 1 0 F pc ls st h Post := by
  intro p l e R s m args below meth c D cI cQ A ad H locs LS Qc free C Wd0 L cs hf hq
  subst hp
  have hc1 : ∀ v ∈ pR b :: av, cnV v := fun v hv => cs v (by
    rw [hst]
    rcases List.mem_cons.mp hv with rfl | hv
    · exact List.mem_append_right _ List.mem_cons_self
    · exact List.mem_append_left _ (List.mem_reverse.mpr hv))
  have hc2 : ∀ v ∈ rest, cnV v := fun v hv => cs v (by rw [hst]; exact List.mem_append_right _ (List.mem_cons_of_mem _ hv))
  have hM := Ok.met hC.1 hm hc1 Wd0.2.2.2.1 hG l D cI cQ ad H.size
  have hc7 : 7 * 0 + 7 * 1 ≤ R.cells ∧ slz * 0 + slz * 1 ≤ R.slots := ⟨C.2.2.2.2.2.2.2.2.2.1, C.2.2.2.2.2.2.2.2.2.2.1⟩
  have cb : CallB R s args F.1 idx G.2.1 G.2.2.1 G.2.2.2.1 G.2.2.2.2.1 (Cond.code G.2.1 G.2.2.1 G.2.2.2.1 G.2.2.2.2.1 :: lw_g) (roomOf 1 G) (7 * 1) (slz * 1) n :=
    ⟨rfl, rfl, Nat.le_trans hC.2.1.2.1 C.2.2.2.2.2.2.2.1, Nat.le_trans hC.2.1.2.2 C.2.2.2.2.2.2.2.2.1, pay_in (fun w hw => C.2.2.2.2.2.1 w (List.mem_append_left _ hw)) (lw_gi hC.1), List.mem_cons_self, C.2.2.2.2.2.1 _ (List.mem_append_left _ hC.1.2.2.1), by rw [hC.1.2.1]; exact C.2.2.2.2.2.1 _ hC.1.2.2.2.1, hC.1.2.2.2.2, hC.2.1.len, C.2.2.2.2.2.1 _ hC.2.2.1⟩
  have hrun := va_runV (l := l) (e := e) (locs := locs) (cells := 7 * 0) (slots := slz * 0) (below := below) (meth := meth) (As := av.map (trV ad)) (rest := rest.map (trV ad)) (g := F0 m pc LS (st.map (trV ad))) ⟨C.1, C.2.1, C.2.2.2.1, C.2.2.2.2.1, C.2.2.2.2.2.1⟩ hM ⟨cb, C.2.2.2.2.2.1 _ hC.2.2.2.1, C.2.2.2.2.2.1 _ hC.2.2.2.2⟩
    ⟨PcP.blind, wld_recv C.2.2.2.2.2.2.2.2.2.2.2.1 Wd0.1 hs hc, fun U hU hW => ⟨rfl, wld_pc C Wd0 U hU hW⟩⟩ rfl (by rw [List.length_map]; exact hn) L.1.1 (trV_rev hst) (lv_room (by rw [cat_sum]; exact hr)) hd hc7
  have hfr := wld_free Wd0 C.2.2.2.2.2.2.2.2.2.2.2.2
  intro X hX St
  obtain ⟨v, st₀, t, X', Lc, h0, St', hL, e1, e2, ⟨⟨r, h', ad', v', hv', hp, hE, hP1, hD1, hc1', hr', hret⟩, hz, hk⟩, go⟩ := hrun X hX St
  cases hv'
  rw [h0] at hz hk
  obtain ⟨-, ec, ea⟩ := hE
  rw [Bool.and_eq_true] at hv
  have hS' : va_S A s.heap X'.heap (locs ++ Lc) := ⟨Nat.le_trans Wd0.2.2.1.1 (by rw [e1]; exact hz), fun q h1 h2 => by rw [e1, hk q (Nat.lt_of_lt_of_le h1 Wd0.2.2.1.1) (fun z => h2 (hfr q z))]; exact Wd0.2.2.1.2.1 q h1 h2, fun q hq => by
      rcases List.mem_append.mp hq with h | h
      · exact Wd0.2.2.1.2.2 q h
      · exact hfr _ (hL q h)⟩
  have hZ : stZ ad' A s := by
    intro k hk
    rw [ea (1000000 + k) (Or.inr (by omega))]
    exact Wd0.2.2.2.2 k hk
  have Wd1 : Wd Sg D cI cQ A s ad' h' X'.heap (locs ++ Lc) := ⟨by rw [e1]; exact hP1, hD1.weaken (fun _ q _ z => hfr q.1 z), hS', hc1', hZ⟩
  have L' : LVs ad' LS F.2.2.2.1 ls := by
    refine ⟨⟨L.1.1, L.1.2.1, fun q hq => ?_⟩, L.2⟩
    obtain ⟨w, h1, h2⟩ := lvl_mem.mp hq
    rw [h2, trV_ext hlen ea (List.all_eq_true.mp hv.1 _ (List.mem_of_getElem? h1))]
    exact L.at h1
  have cs' : ∀ w ∈ rp G.2.2.2.2.1 r ++ rest, cnV w := by
    intro w hw
    rcases List.mem_append.mp hw with hw | hw
    · cases hg : G.2.2.2.2.1 with
      | none => rw [hg] at hw; cases hw
      | some ty =>
        rw [hg] at hw
        rcases List.mem_singleton.mp hw with rfl
        exact hr'
    · exact hc2 w hw
  have hq' : Rt Sg 1 F D cI cQ A s args Qc ad' h' Post := by
    intro r2 h2 ad2 t2 v2 p1 p2
    refine hq r2 h2 ad2 t2 v2 p1 ⟨fun z => absurd z (by decide), Nat.le_trans ec p2.2.1, fun i hi => ?_⟩
    rw [p2.2.2 i (hi.imp (fun z => Nat.lt_of_lt_of_le z (hmono ec)) id)]
    exact ea i hi
  have K := k r h' hp p l e R s m args below meth c D cI cQ A ad' X'.heap (locs ++ Lc) LS Qc free C Wd1 L' cs' hf hq'
  have hre : rest.map (trV ad') = rest.map (trV ad) := List.map_congr_left (fun w hw => trV_ext hlen ea (List.all_eq_true.mp hv.2 w hw))
  have hst2 : v.toList ++ rest.map (trV ad) = (rp G.2.2.2.2.1 r ++ rest).map (trV ad') := by
    rw [List.map_append, hre]
    cases hg : G.2.2.2.2.1 with
    | none =>
      rw [hg] at hret
      rw [hret.1]
      rfl
    | some ty =>
      rw [hg] at hret
      rw [show v = some (Value.int (i32 r)) from hret]
      rfl
  obtain ⟨t2, a1, b1⟩ := K X' rfl St'
  refine ⟨t2, go t2 ?_, b1⟩
  rw [← hst2] at a1
  exact a1
