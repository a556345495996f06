/-! THE LAW: its start -/
section LWS
variable {p : Program} {l : Launch} {e : Env} {s : State} {m : MethodId} {below : List Frame} {meth : Method} {c : Code} {b L : Nat} {xs : Nat → Int32} {D : va_G} {cI cQ : ClassId}
theorem lw_wAO : Cond.arrayOver (.object RX5) ∈ lw_tbl := List.mem_of_getElem? (i := 324) (by decide +kernel)
theorem lw_wZ0 : Cond.laysStatic "CallMelt" "COST_OF_KIND" "[I" ∈ lw_tbl := List.mem_of_getElem? (i := 639) (by decide +kernel)
theorem lw_wZ1 : Cond.laysStatic "CallMelt" "PARTS_OF_KIND" "[I" ∈ lw_tbl := List.mem_of_getElem? (i := 663) (by decide +kernel)
theorem lw_know (C0 : lw_At p s m meth c b L xs) : ∃ (D : va_G) (cI cQ : ClassId), va_K D vwCl [(cI, .int), (cQ, .object RX5)] s := by
  have hu := lw_hu C0
  obtain ⟨c0, i0, k0⟩ := u_known (C := RX0) (T := TX0) (N := 13) (n := 13) hu inX0 (hu _ wd_337)
  obtain ⟨c1, i1, k1⟩ := u_known (C := RX1) (T := TX1) (N := 3) (n := 3) hu inX1 (hu _ wd_106)
  obtain ⟨c2, i2, k2⟩ := u_known (C := RX2) (T := TX2) (N := 18) (n := 18) hu inX2 (hu _ wd_205)
  obtain ⟨c3, i3, k3⟩ := u_known (C := RX3) (T := TX3) (N := 3) (n := 3) hu inX3 (hu _ wd_266)
  obtain ⟨c4, i4, k4⟩ := u_known (C := RX4) (T := TX4) (N := 3) (n := 3) hu inX4 (hu _ wd_318)
  obtain ⟨c5, i5, k5⟩ := u_known (C := RX5) (T := TX5) (N := 8) (n := 8) hu inX5 (hu _ wd_112)
  obtain ⟨c6, i6, k6⟩ := u_known (C := RX6) (T := TX6) (N := 5) (n := 5) hu inX6 (hu _ wd_158)
  obtain ⟨c7, i7, k7⟩ := u_known (C := RX7) (T := TX7) (N := 9) (n := 9) hu inX7 (hu _ wd_282)
  obtain ⟨c8, i8, k8⟩ := u_known (C := RX8) (T := TX8) (N := 6) (n := 6) hu inX8 (hu _ wd_98)
  obtain ⟨c9, i9, k9⟩ := u_known (C := RX9) (T := TX9) (N := 46) (n := 46) hu inX9 (hu _ wd_975)
  obtain ⟨cI, kI, cmp, a1, a2, a3⟩ := Cond.arrayClass_spec (hu _ hAI)
  obtain ⟨cmp2, cQ, kQ, b1, -, b2, b3, b4⟩ := Cond.arrayOver_spec (C0.2.2.2.2.2.1 _ lw_wAO)
  refine ⟨(fun k => [c0, c1, c2, c3, c4, c5, c6, c7, c8, c9].getD k c0, fun k => [i0, i1, i2, i3, i4, i5, i6, i7, i8, i9].getD k i0), cI, cQ, fun k q hq => ?_, fun k q hk => ?_⟩
  · match k, hq with
    | 0, hq => cases hq; exact k0
    | 1, hq => cases hq; exact k1
    | 2, hq => cases hq; exact k2
    | 3, hq => cases hq; exact k3
    | 4, hq => cases hq; exact k4
    | 5, hq => cases hq; exact k5
    | 6, hq => cases hq; exact k6
    | 7, hq => cases hq; exact k7
    | 8, hq => cases hq; exact k8
    | 9, hq => cases hq; exact k9
    | k + 10, hq => cases hq
  · match k, hk with
    | 0, hk => cases hk; exact ⟨fun n z => ⟨fun k h => (by cases h), kI, a2, cmp, a3⟩, a1⟩
    | 1, hk => cases hk; exact ⟨fun n z => ⟨fun k h => (by cases h), kQ, b2, cmp2, b3⟩, kQ, cmp2, b2, b3, b1, b4⟩
    | k + 2, hk => cases hk
theorem lw_sk (n : String) (z : Nat → Int) {args : Array Value} (harr : (Cond.arrayOf (.static "CallMelt" n "[I") .int).before args s = true) (hlen : (Cond.eq (.length (.static "CallMelt" n "[I")) (.int 12)).before args s = true)
    (hel : ∀ j : Nat, j < 12 → (Cond.eq (.elem (.static "CallMelt" n "[I") (.int (Int32.ofNat j))) (.int (i32 (z j)))).before args s = true) (hlay : (Cond.laysStatic "CallMelt" n "[I").before args s = true) (hini : (Cond.initialized "CallMelt").before args s = true) :
    ∃ t : Nat, va_Z "CallMelt" n "[I" (.ref t) (lwA s) s s.heap ∧ va_T .int t 12 (fun j => .int (i32 (z j))) (lwA s) s s.heap := by
  have hA : ∀ a : Nat, a < s.heap.size → ¬ lwA s a := fun a h => Nat.not_le.mpr h
  obtain ⟨t, ht, hT⟩ := va_Tof (N := 12) (f := fun j => .int (i32 (z j))) (by decide) harr (va_eqt hlen) (fun j hj => va_eqt (hel j hj)) hA
  exact ⟨t, va_Zof hlay hini ht hA, hT⟩
theorem lw_stat (C0 : lw_At p s m meth c b L xs) : ∃ t0 t1 : Nat, ∀ ad : Nat → Nat, ad 1000000 = t0 → ad 1000001 = t1 → stZ ad (lwA s) s := by
  have hs := flat_of_before _ C0.2.2.2.2.2.2.2.2.2
  obtain ⟨t0, hz0, ht0⟩ := lw_sk (s := s) "COST_OF_KIND" (stT 0) (args := #[Value.ref b]) (hs _ (by decide +kernel)) (hs _ (by decide +kernel)) (fun j hj => by
    rcases (show j = 0 ∨ j = 1 ∨ j = 2 ∨ j = 3 ∨ j = 4 ∨ j = 5 ∨ j = 6 ∨ j = 7 ∨ j = 8 ∨ j = 9 ∨ j = 10 ∨ j = 11 from by omega) with rfl | rfl | rfl | rfl | rfl | rfl | rfl | rfl | rfl | rfl | rfl | rfl <;> exact hs _ (by decide +kernel)) (C0.2.2.2.2.2.1 _ lw_wZ0) (lw_hu C0 _ wd_84)
  obtain ⟨t1, hz1, ht1⟩ := lw_sk (s := s) "PARTS_OF_KIND" (stT 1) (args := #[Value.ref b]) (hs _ (by decide +kernel)) (hs _ (by decide +kernel)) (fun j hj => by
    rcases (show j = 0 ∨ j = 1 ∨ j = 2 ∨ j = 3 ∨ j = 4 ∨ j = 5 ∨ j = 6 ∨ j = 7 ∨ j = 8 ∨ j = 9 ∨ j = 10 ∨ j = 11 from by omega) with rfl | rfl | rfl | rfl | rfl | rfl | rfl | rfl | rfl | rfl | rfl | rfl <;> exact hs _ (by decide +kernel)) (C0.2.2.2.2.2.1 _ lw_wZ1) (lw_hu C0 _ wd_84)
  refine ⟨t0, t1, fun ad h0 h1 k hk => ?_⟩
  rcases (show k = 0 ∨ k = 1 from by omega) with rfl | rfl
  · rw [show 1000000 + 0 = 1000000 from rfl, h0]
    exact ⟨hz0, ht0⟩
  · rw [show 1000000 + 1 = 1000001 from rfl, h1]
    exact ⟨hz1, ht1⟩
def hp0 : Hp := (fun _ _ => 0, (fun _ _ => 0, 0))
theorem cn_hp0 : cnH hp0 := ⟨fun _ _ => (by show inR 0; unfold inR; decide), fun _ _ => (by show inR 0; unfold inR; decide)⟩
theorem zf_hp0 {n : Nat} : zf n hp0 := fun _ _ => ⟨fun _ => rfl, fun _ => rfl⟩
theorem lw_bornS {ci : Nat} {fs : List FN} (hfv : ∀ f ∈ fs, bornF f) {n : Nat} : vSh n (nO ci fs) := fun f hf => by
  rcases hfv f hf with rfl | rfl <;> trivial
theorem lw_bornV {ci : Nat} {fs : List FN} (hfv : ∀ f ∈ fs, bornF f) : vS [nO ci fs] := fun sh hsh => by
  rcases List.mem_singleton.mp hsh with rfl
  exact lw_bornS hfv
theorem lw_new (C0 : lw_At p s m meth c b L xs) (hK : va_K D vwCl [(cI, .int), (cQ, .object RX5)] s) {pc idx ci N cells slots : Nat} {C1 : String} {TX : u_T} {fs : List FN} {ws : va_W} {H : Heap} {locs : List Loc} {LS : Array Slot} {rest : List Value} (ad : Nat → Nat)
    (hP : va_P D vwCl ws H) (hD : va_D (lwA s) ws) (hS : va_S (lwA s) s.heap H locs) (hd : decode code pc = .ok (.new idx, 3)) (hc : vwCl[ci]? = some (C1, TX, N)) (hin : ∀ w ∈ u_ws C1 TX N, w ∈ lw_u) (ty0 : Nat → FieldType) (hty : ∀ k, k < N → parseFieldDescriptor (TX k).2.2.1 = some (ty0 k))
    (hcl : Cond.classLink "CallMeltLaw" idx C1 ∈ lw_u) (hinst : Cond.instantiable C1 N ∈ lw_u) (hini : Cond.initialized C1 ∈ lw_u) (hk : cells + 1 ≤ 600000) (hs : slots + N ≤ 7302250) (hfs : ∀ j, j < N → ∃ f, fs[j]? = some f ∧ ((f = none ∧ defaultValue (ty0 j) = .null) ∨ (f = some none ∧ defaultValue (ty0 j) = .int 0))) (hfv : ∀ f ∈ fs, bornF f)
    (kk : ∀ (q : Nat) (H1 : Heap), va_P D vwCl ws H1 → va_D (lwA s) ws → va_P D vwCl (wldN cI cQ (va_up ad 0 q) [nO ci fs] hp0) H1 → va_D (lwA s) (wldN cI cQ (va_up ad 0 q) [nO ci fs] hp0) → va_S (lwA s) s.heap H1 locs → apt ws (wldN cI cQ (va_up ad 0 q) [nO ci fs] hp0) →
      W p l e room_1 s m #[Value.ref b] below meth c H1 locs (cells + 1) (slots + N) (lw_Z below #[Value.ref b] s) (F0 m (pc + 3) LS (.ref (va_up ad 0 q 0) :: rest))) :
    W p l e room_1 s m #[Value.ref b] below meth c H locs cells slots (lw_Z below #[Value.ref b] s) (F0 m pc LS rest) := by
  have hu := lw_hu C0
  obtain ⟨hx, hb, hrt, hml, hown, hts, hX, hbl, hlocks, hgv⟩ := id C0
  refine va_new (fs := fvsN ad (hp0.2.1 0) fs) hx hb hu hin ty0 hty hown (hu _ hcl) (hu _ hinst) (hu _ hini) hK hP hD hS (fun q hq => hq) hc (fun j hj => ?_) hk hs hd (fun q H1 hP hD hS => ?_)
  · obtain ⟨f, h1, h2⟩ := hfs j hj
    unfold vp_V
    rw [List.getD_eq_getElem?_getD, fvsN_at h1]
    rcases h2 with ⟨rfl, h2⟩ | ⟨rfl, h2⟩
    · rw [h2]; rfl
    · rw [h2]; rfl
  obtain ⟨P1, D1, P2, D2, ap⟩ := va_split hP hD
  have ee : ([(q, .inr (ci, fvsN ad (hp0.2.1 0) fs))] : va_W) = wldN cI cQ (va_up ad 0 q) [nO ci fs] hp0 := by
    have h := wldN_push (cI := cI) (cQ := cQ) (ad := ad) (h := hp0) (S := []) (fun _ h => by cases h) q (sh := nO ci fs) (lw_bornS hfv)
    exact h
  rw [ee] at P2 D2 ap
  have K := kk q H1 P1 D1 P2 D2 hS ap
  have hq0 : va_up ad 0 q 0 = q := by
    unfold va_up
    rw [if_pos rfl]
  rw [hq0] at K
  exact K
theorem lw_S8 : ClN mX8_init 45 12196 [pR 0] [nO 8 [none, none, none, none, none, none]] hp0 (fun S' h' => S' = (shC 0).map emb ∧ h' = hI hp0 40 12 (-4)) := by
  have h := nX8_init [] 0 rfl hp0
  have e : ((shC 0).map emb : List ShN) = [] ++ _ := rfl
  rw [e]
  exact h
theorem lw_S9 : ClN mX9_init 27 59642 [pR 0] [nO 9 [some none, none, none, none, none, none, some none, none, none, none, none, none, none, some none, none, none, some none, none, none, none, none, none, some none, some none, some none, some none, some none, some none, some none, some none, some none, some none, none, none, none, none, none, some none, none, none, none, some none, some none, some none, some none, none]] hp0 (fun S' h' => S' = (shM 0).map emb ∧ h' = hI hp0 0 0 0) := nX9_init [] 0 rfl hp0
theorem ciL8 : CI mLaw 9 mX8_init 0 := ⟨⟨okX8_init, rfl, rfl, wd_100⟩, ⟨by decide +kernel, by decide, by decide⟩, wd_99⟩
theorem ciL9 : CI mLaw 12 mX9_init 0 := ⟨⟨okX9_init, rfl, rfl, wd_977⟩, ⟨by decide +kernel, by decide, by decide⟩, wd_976⟩
end LWS
/-- from the entry, for every script of at most 3072 ints, the law comes to its end with true -/
theorem whole_start {p : Program} {e : Env} {s : State} {m : MethodId} {below : List Frame} {meth : Method} {c : Code} (l : Launch) (hflags : l.flags = flags0) {b L : Nat} {xs : Nat → Int32} (hL : L ≤ 3072) (C0 : lw_At p s m meth c b L xs) : W p l e room_1 s m #[Value.ref b] below meth c s.heap [] 0 0 (lw_Z below #[Value.ref b] s) (entryFrame m ([Value.ref b] : List Value).toArray 4) := by
  have hu := lw_hu C0
  obtain ⟨hx, hb, hrt, hml, hown, hts, hX, hbl, hlocks, hgv⟩ := id C0
  obtain ⟨D, cI, cQ, hK⟩ := lw_know C0
  obtain ⟨t0, t1, hst⟩ := lw_stat C0
  have hAO : va_AO RX5 s := va_AO.of (hts _ lw_wAO)
  obtain ⟨ad0, e0, e1⟩ : ∃ ad0 : Nat → Nat, ad0 1000000 = t0 ∧ ad0 1000001 = t1 := ⟨fun i => if i = 1000000 then t0 else t1, if_pos rfl, if_neg (by decide)⟩
  have hl := lv_entry ([.ref b]) (n := 4) (Nat.le_of_ble_eq_true rfl)
  rw [lg_entry_eq]
  generalize (lg_sl ([.ref b]) ++ List.replicate (4 - (lg_sl ([.ref b])).length) Slot.unset).toArray = ls at hl ⊢
  have hl : lv_has ls 4 [(0, .ref b)] := hl
  have bo8 : ∀ f ∈ ([none, none, none, none, none, none] : List FN), bornF f := by unfold bornF; decide
  have bo9 : ∀ f ∈ ([some none, none, none, none, none, none, some none, none, none, none, none, none, none, some none, none, none, some none, none, none, none, none, none, some none, some none, some none, some none, some none, some none, some none, some none, some none, some none, none, none, none, none, none, some none, none, none, none, some none, some none, some none, some none, none] : List FN), bornF f := by unfold bornF; decide
  have e8 : vwCl[8]? = some (RX8, TX8, 6) := rfl
  have e9 : vwCl[9]? = some (RX9, TX9, 46) := rfl
  refine lw_new C0 hK (ws := []) (fs := [none, none, none, none, none, none]) ad0 (fun k q h => by simp at h) ⟨fun i j p q h => by simp at h, fun k q h => by simp at h⟩ va_S.rf dW_0 e8 inX8 tyX8 tyX8_ok wd_97 wd_98 wd_84 (leb rfl) (leb rfl) bornX8 bo8 (fun q1 H1 _ _ P1 D1 hS1 _ => ?_)
  refine lv_dup hx hb dW_3 rfl ?_
  refine lw_ctor C0 hK hAO (w2 := []) (mc := 45) (ms := 12196) P1 D1 hS1 cn_hp0 zf_hp0 (lw_bornV bo8) (fun k q h => by simp at h) (fun i j x y hx hy => by simp at hy) dW_4 ciL8 (by decide) (leb rfl) (leb rfl) hl.1 ⟨leb rfl, leb rfl⟩ lw_S8 (fun S' h1 ad1 H2 locs2 q ext c1 P1 D1 hS1 _ _ => ?_)
  obtain ⟨rfl, rfl⟩ := q
  rw [wldN_emb] at P1 D1
  have x1 : va_up ad0 0 q1 0 = ad1 0 := (ext 0 (Or.inl (by decide))).symm
  have z1 : stZ ad1 (lwA s) s := hst ad1 ((ext 1000000 (Or.inr (leb rfl))).trans (by unfold va_up; rw [if_neg (by decide)]; exact e0)) ((ext 1000001 (Or.inr (leb rfl))).trans (by unfold va_up; rw [if_neg (by decide)]; exact e1))
  rw [x1]
  refine lv_astore_n (lv' := [(1, .ref (ad1 0)), (0, .ref b)]) hx hb dW_7 rfl hl (by decide) rfl (fun ls hl => ?_)
  refine lw_new C0 hK (fs := [some none, none, none, none, none, none, some none, none, none, none, none, none, none, some none, none, none, some none, none, none, none, none, none, some none, some none, some none, some none, some none, some none, some none, some none, some none, some none, none, none, none, none, none, some none, none, none, none, some none, some none, some none, some none, none]) ad0 P1 D1 hS1 dW_8 e9 inX9 tyX9 tyX9_ok wd_974 wd_975 wd_93 (leb rfl) (leb rfl) bornX9 bo9 (fun q2 H3 P1 D1 P2 D2 hS2 ap => ?_)
  refine lv_dup hx hb dW_11 rfl ?_
  refine lw_ctor C0 hK hAO (mc := 27) (ms := 59642) P2 D2 hS2 cn_hp0 zf_hp0 (lw_bornV bo9) P1 ap.sy dW_12 ciL9 (by decide) (leb rfl) (leb rfl) hl.1 ⟨leb rfl, leb rfl⟩ lw_S9 (fun S' h2 ad2 H4 locs4 q ext c2 P2 D2 hS2 P1 ap => ?_)
  obtain ⟨rfl, rfl⟩ := q
  rw [wldN_emb] at P2 D2 ap
  have x2 : va_up ad0 0 q2 0 = ad2 0 := (ext 0 (Or.inl (by decide))).symm
  have z2 : stZ ad2 (lwA s) s := hst ad2 ((ext 1000000 (Or.inr (leb rfl))).trans (by unfold va_up; rw [if_neg (by decide)]; exact e0)) ((ext 1000001 (Or.inr (leb rfl))).trans (by unfold va_up; rw [if_neg (by decide)]; exact e1))
  rw [x2]
  refine lv_astore_n (lv' := [(2, .ref (ad2 0)), (1, .ref (ad1 0)), (0, .ref b)]) hx hb dW_15 rfl hl (by decide) rfl (fun ls hl => ?_)
  refine lv_iconst (v := i32 ((6 * 0 : Nat) : Int)) hx hb dW_16 (by decide) ?_
  refine lv_istore_n (lv' := [(3, .int (i32 ((6 * 0 : Nat) : Int))), (2, .ref (ad2 0)), (1, .ref (ad1 0)), (0, .ref b)]) hx hb dW_17 rfl hl (by decide) rfl (fun ls hl => ?_)
  have hr : RelC st0 (hI hp0 40 12 (-4)) := relC_0 (fun _ _ => rfl) (fun o k hk => if_neg hk) (by
    show (if 40 = 40 ∧ 12 = 12 then (-4 : Int) else (0 : Int)) = -4
    exact if_pos ⟨rfl, rfl⟩) rfl
  have hm : RelM st0 (hI hp0 0 0 0) := relM_0 (fun _ _ => rfl) (fun o k => by
    show (if o = 0 ∧ k = 0 then (0 : Int) else 0) = 0
    split <;> rfl)
  exact law_loop C0 hK hL 513 0 (Nat.le_refl _) (Nat.zero_le _) st0 ad1 ad2 _ _ H4 locs4 ls ws_0 hr hm ⟨P1, D1, P2, D2, hS2, c1, c2, z1, z2, ap.sy⟩ (lv_sub hl [0, 3, 2, 1] rfl)
