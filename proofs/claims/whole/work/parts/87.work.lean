/-! AHEAD: a step is worked ahead, on both sides -/
section WK
variable {t : TV} {s : Nat}
noncomputable def nmc (L : List Nat) (U : TV) (v : Int) : TV := L.foldl (fun U n => LR U n v) U
def nls (t : TV) (k : Int) : List (Nat × Nat) → List Nat
  | [] => []
  | q :: D => if kd t q.1 = 1 ∧ nm t q.1 = k then q.1 :: nls t k D else nls t k D
theorem nls_len (k : Int) (D : List (Nat × Nat)) : (nls t k D).length = hmy t D 1 k := by
  have key : ∀ (D : List (Nat × Nat)) (a : Nat), D.foldl (fun a q => if kd t q.1 = 1 ∧ nm t q.1 = k then a + 1 else a) a = a + (nls t k D).length := by
    intro D
    induction D with
    | nil => exact fun a => rfl
    | cons q D ih =>
      intro a
      rw [List.foldl_cons, ih, nls]
      split
      · rw [List.length_cons]
        omega
      · rfl
  unfold hmy
  rw [key D 0, Nat.zero_add]
/-- names half way -/
def IVN (t U : TV) (s : Nat) (D : List (Nat × Nat)) : Prop := WF U ∧ s < mk U ∧ kd U s = 5 ∧ (∀ q ∈ D, kd U q.1 = kd t q.1 ∧ nm U q.1 = nm t q.1 ∧ inT U (yN U s) q.1) ∧ D.Pairwise (fun x y => x.1 ≠ y.1) ∧ mk t ≤ mk U ∧ ac U ≤ ac t ∧ rt U = rt t ∧ (∀ r, pr U r = pr t r) ∧ ∀ r, bd U r = -4 ↔ bd t r = -4
theorem IVN.sk {U : TV} {q : Nat × Nat} {D : List (Nat × Nat)} (h : IVN t U s (q :: D)) : IVN t U s D := by
  obtain ⟨a1, a2, a3, a4, a5, a6⟩ := h
  exact ⟨a1, a2, a3, fun x hx => a4 x (List.mem_cons_of_mem _ hx), (List.pairwise_cons.mp a5).2, a6⟩
theorem leaf_nm (w : WF t) {n : Nat} (hn : n < mk t) (hk : kd t n = 1) : leaf t n := by
  have hks : kd t n ≠ -1 := by rw [hk]; decide
  have har : ar t n = 0 := by
    unfold ar
    rw [hk, if_neg (by omega), if_neg (by omega), if_neg (by omega), if_neg (by omega)]
  refine ⟨hn, hks, ?_⟩
  have hf : ∀ k, k < 3 → pf t n k = [] := fun k hk3 => by
    unfold pf
    rw [((w.2.2.2.2.2.1 n hn hks).2.2.2 k hk3).2 (by rw [har]; exact Nat.zero_le _), if_neg (by decide)]
  rw [ch_eq, hf 0 (by decide), hf 1 (by decide), hf 2 (by decide)]
  rfl
theorem LR_ac (w : WF t) (hm : mk t < 600) {n : Nat} {v : Int} (h : leaf t n) : ac (LR t n v) ≤ ac t := by
  have hn := h.1
  show cnt _ (mk t + 1) ≤ cnt _ (mk t)
  rw [cnt_s]
  have h1 : cnt (fun x => decide (kd (LR t n v) x ≠ -1)) (mk t) < cnt (fun x => decide (kd t x ≠ -1)) (mk t) := by
    refine cnt_lt (fun i hi hd => ?_) ⟨n, hn, decide_eq_true h.2.1, ?_⟩
    · rw [decide_eq_true_eq, LR_k w hm h] at hd
      rw [decide_eq_true_eq]
      split at hd
      · exact absurd rfl hd
      · rw [if_neg (by omega)] at hd
        exact hd
    · rw [decide_eq_false_iff_not, LR_k w hm h, if_pos rfl]
      exact fun q => q rfl
  split <;> omega
theorem IVN.st {U : TV} {q : Nat × Nat} {D : List (Nat × Nat)} {v : Int} (h : IVN t U s (q :: D)) (hk : kd t q.1 = 1) (hm : mk U < 600) : IVN t (LR U q.1 v) s D ∧ leaf U q.1 ∧ bo2 U s q.1 := by
  obtain ⟨a1, a2, a3, a4, a5, a6, a7, a8, a9, a10⟩ := h
  obtain ⟨b1, b2, b3⟩ := a4 q List.mem_cons_self
  obtain ⟨⟨x1, x2, x3, x4⟩, ⟨y1, y2, y3, y4⟩, hne, _⟩ := both_p a1 a2 a3
  have hqa := inT_al a1 y3 y4 b3
  have hl : leaf U q.1 := leaf_nm a1 hqa.1 (by rw [b1]; exact hk)
  have hb : bo2 U s q.1 := ⟨a2, a3, b3⟩
  have ly := LR_y (v := v) a1 hm hl hb
  refine ⟨⟨wf_LR a1 hm hl.1 hl.2.1, by rw [LR_mk]; omega, ly.2.2, fun x hx => ?_, (List.pairwise_cons.mp a5).2, by rw [LR_mk]; omega, Nat.le_trans (LR_ac a1 hm hl) a7, a8, a9, fun r => ?_⟩, hl, hb⟩
  · obtain ⟨c1, c2, c3⟩ := a4 x (List.mem_cons_of_mem _ hx)
    have hxa := inT_al a1 y3 y4 c3
    have hxq : x.1 ≠ q.1 := fun e => (List.pairwise_cons.mp a5).1 x hx e.symm
    rw [LR_k a1 hm hl, LR_n a1 hm hl, if_neg hxq, if_neg hxq, if_neg (by omega), if_neg (by omega), ly.1]
    exact ⟨c1, c2, (LR_tree a1 hm hl y3 y4 x.1).mpr (Or.inr ⟨hxq, by omega, c3⟩)⟩
  · rw [LR_b]
    by_cases z : bd U r = (q.1 : Int)
    · rw [if_pos z]
      have := a10 r
      constructor
      · intro e
        omega
      · intro e
        have := this.mpr e
        omega
    · rw [if_neg z]
      exact a10 r
theorem IVN.in0 (w : WF t) (hs : s < mk t) (hk : kd t s = 5) : IVN t t s (plist t ((yN t s : Nat) : Int)) := by
  obtain ⟨⟨x1, x2, x3, x4⟩, ⟨y1, y2, y3, y4⟩, hne, _⟩ := both_p w hs hk
  have epl : plist t ((yN t s : Nat) : Int) = pre t 40 1 (yN t s) := plist_al (al_n.mpr ⟨y3, y4⟩)
  rw [epl]
  exact ⟨w, hs, hk, fun q hq => ⟨rfl, rfl, q.2, hq⟩, pre_nodup (w.tr' y3 y4), Nat.le_refl _, Nat.le_refl _, rfl, fun _ => rfl, fun _ => Iff.rfl⟩
section CN
variable {h : Hp} {P : Int → Hp → Prop}
/-- THE CLASS: a step becomes a number -/
theorem c_becomeNumber (w : WF t) (R : RC t h) (hs : s < mk t) (hk : kd t s ≠ -1) (p1 : mk t < 600 → ∀ h', fr 2 13 h h' → RC (LR t s (h.2.1 30 7)) h' → P 0 h') (p0 : ¬ mk t < 600 → P 0 (hI h 30 5 1)) : Cl shC mX7_becomeNumber [pR 30, pI (s : Int)] h P := by
  refine sX7_becomeNumber_0 ?_
  by_cases hm : mk t < 600
  · refine c_add R hm _ _ (fun h1 x1 R1 => ⟨fun _ => ?_, fun z => absurd z (by omega)⟩)
    exact c_repl (wf_mkN w hm _) (tp_new w hs hk) R1 (fun h2 x2 R2 => p1 hm h2 ((x1.wd (by decide) (by decide)).tr x2) R2)
  · exact c_add_full R hm _ _ ⟨fun z => absurd rfl z, fun _ => p0 hm⟩
theorem c_names (w : WF t) (R : RC t h) (hs : s < mk t) (hk : kd t s = 5) {k v : Int} (h5 : h.2.1 30 5 = 0) (h8 : h.2.1 30 8 = k) (h7 : h.2.1 30 7 = v) (hsz : h.2.1 31 4 = ((plist t ((yN t s : Nat) : Int)).length : Int)) (hD : DA h 32 33 (plist t ((yN t s : Nat) : Int)))
    (p1 : mk t + (nls t k (plist t ((yN t s : Nat) : Int))).length ≤ 600 → ∀ h', fr 2 13 h h' → RC (nmc (nls t k (plist t ((yN t s : Nat) : Int))) t v) h' → IVN t (nmc (nls t k (plist t ((yN t s : Nat) : Int))) t v) s [] → P 0 h')
    (p0 : ¬ mk t + (nls t k (plist t ((yN t s : Nat) : Int))).length ≤ 600 → ∀ h' U, fr 2 13 h h' → RC U h' → IVN t U s [] → P 0 (hI h' 30 5 1)) : Cl shC mX7_namesBecomeNumbers [pR 30] h P := by
  have hm := R.m
  have hlen := plist_len (t := t) (z := ((yN t s : Nat) : Int)) w.trr
  have key : ∀ (D2 D1 : List (Nat × Nat)) (U : TV) (h1 : Hp), D1 ++ D2 = plist t ((yN t s : Nat) : Int) → fr 2 13 h h1 → RC U h1 → IVN t U s D2 → nmc (nls t k D2) U v = nmc (nls t k (plist t ((yN t s : Nat) : Int))) t v → mk U + (nls t k D2).length = mk t + (nls t k (plist t ((yN t s : Nat) : Int))).length → Ok shC 0 0 mX7_namesBecomeNumbers 2 [some (pR 30), some (pI (D1.length : Int))] [] h1 P := by
    intro D2
    induction D2 with
    | nil =>
      intro D1 U h1 he x RU I e1 e2
      rw [List.append_nil] at he
      have e1 : U = nmc (nls t k (plist t ((yN t s : Nat) : Int))) t v := e1
      have e2 : mk U + 0 = _ := e2
      have := RU.m
      refine sX7_namesBecomeNumbers_2 ⟨fun _ => p1 (by omega) h1 x (by rw [← e1]; exact RU) (by rw [← e1]; exact I), fun c => absurd (by rw [x.i (by decide), hsz, ← he]; exact Int.le_refl _) c⟩
    | cons q D2 ih =>
      intro D1 U h1 he x RU I e1 e2
      have hl : D1.length < (plist t ((yN t s : Nat) : Int)).length := by rw [← he]; simp
      have hq : (plist t ((yN t s : Nat) : Int))[D1.length]? = some q := by rw [← he]; simp
      have hq32 : h1.1 32 D1.length = (q.1 : Int) := by rw [x.a (by decide)]; exact (hD _ _ hq).1
      obtain ⟨b1, b2', b3⟩ := I.2.2.2.1 q List.mem_cons_self
      obtain ⟨_, ⟨y1, y2, y3, y4⟩, _, _⟩ := both_p I.1 I.2.1 I.2.2.1
      have hqa := inT_al I.1 y3 y4 b3
      have hlen2 : ((D1 ++ [q]).length : Int) = (D1.length : Int) + 1 := by simp
      have nx := fun U' h2 => ih (D1 ++ [q]) U' h2 (by rw [← he]; simp)
      rw [hlen2] at nx
      refine sX7_namesBecomeNumbers_2 ⟨fun c => absurd c (by rw [x.i (by decide), hsz]; omega), fun _ => ⟨fun c => absurd (by rw [x.i (by decide)]; exact h5) c, fun _ => ⟨D1.length, rfl, by omega, ?_⟩⟩⟩
      rw [hq32, x.i (by decide), h8]
      refine c_isNameStep RU hqa.1 k ⟨fun c => ⟨by unfold inR; omega, ?_⟩, fun c => ?_⟩
      · have hn : ¬ (kd t q.1 = 1 ∧ nm t q.1 = k) := fun y => b2_0.mp c ⟨b1.trans y.1, b2'.trans y.2⟩
        rw [nls, if_neg hn] at e1 e2
        exact nx U h1 x RU I.sk e1 e2
      · have hn : kd t q.1 = 1 ∧ nm t q.1 = k := by
          have := b2_n0.mp c
          exact ⟨b1.symm.trans this.1, b2'.symm.trans this.2⟩
        rw [nls, if_pos hn] at e1 e2
        rw [List.length_cons] at e2
        rw [hq32]
        refine c_becomeNumber I.1 RU hqa.1 hqa.2 (fun hmU h2 x2 R2 => ⟨by unfold inR; omega, ?_⟩) (fun hmU => ⟨by unfold inR; omega, ?_⟩)
        · rw [x.i (by decide), h7] at R2
          have I2 := (I.st (v := v) hn.1 hmU).1
          exact nx (LR U q.1 v) h2 (x.tr x2) R2 I2 e1 (by rw [LR_mk]; omega)
        · have hf : ¬ mk t + (nls t k (plist t ((yN t s : Nat) : Int))).length ≤ 600 := by omega
          have := p0 hf h1 U x RU (by
            obtain ⟨a1, a2, a3, a4, a5, a6⟩ := I
            exact ⟨a1, a2, a3, fun q hq => (by cases hq), List.Pairwise.nil, a6⟩)
          refine sX7_namesBecomeNumbers_2 ⟨fun _ => this, fun _ => ⟨fun _ => this, fun c => ?_⟩⟩
          rw [hI_at, if_pos ⟨rfl, rfl⟩] at c
          exact absurd c (by decide)
  exact sX7_namesBecomeNumbers_0 (key (plist t ((yN t s : Nat) : Int)) [] t h rfl fr.rf R (IVN.in0 w hs hk) rfl rfl)
end CN
/-- the state that working a step ahead leaves -/
noncomputable def wrk (t : TV) (r : Int) (s : Nat) : TV :=
  if hld t r s = 1 then LR t s (rkn (nm t s) (nm t (xN t s)) (nm t (yN t s)))
  else if hld t r s = 3 then LR t s 0
  else if hld t r s = 2 then RP t s (pt t s (if nm t (xN t s) = 0 then 2 else 1)).toNat (GS t s (pt t s (if nm t (xN t s) = 0 then 2 else 1)).toNat)
  else if hld t r s = 4 then RP t s (yN t s) (GS t s (yN t s))
  else if hld t r s = 5 then RP t s (xN t s) (GS t s (xN t s))
  else RP (nmc (nls t (nm t (xN t s)) (plist t ((yN t s : Nat) : Int))) t (nm t (xN t (xN t s)))) s (yN (nmc (nls t (nm t (xN t s)) (plist t ((yN t s : Nat) : Int))) t (nm t (xN t (xN t s)))) s) (GS (nmc (nls t (nm t (xN t s)) (plist t ((yN t s : Nat) : Int))) t (nm t (xN t (xN t s)))) s (yN (nmc (nls t (nm t (xN t s)) (plist t ((yN t s : Nat) : Int))) t (nm t (xN t (xN t s)))) s))
abbrev ful (t : TV) (r : Int) (s : Nat) : Prop := ((hld t r s = 1 ∨ hld t r s = 3) ∧ ¬ mk t < 600) ∨ (hld t r s = 6 ∧ ¬ mk t + (nls t (nm t (xN t s)) (plist t ((yN t s : Nat) : Int))).length ≤ 600)
theorem hld_r (t : TV) (r : Int) (s : Nat) : (hld t r s = 0 ∨ hld t r s = 1 ∨ hld t r s = 2 ∨ hld t r s = 3 ∨ hld t r s = 4 ∨ hld t r s = 5 ∨ hld t r s = 6) := by
  unfold hld
  split
  · split <;> omega
  · split
    · split <;> omega
    · split
      · split <;> omega
      · split
        · split
          · omega
          · split <;> omega
        · split
          · split <;> omega
          · omega
theorem hld_kd (t : TV) (r : Int) (s : Nat) : (hld t r s = 1 → kd t s = 2 ∧ (nm t s = 3 → nm t (yN t s) ≠ 0)) ∧ (hld t r s = 2 → kd t s = 3) ∧ (hld t r s = 3 → kd t s = 8) ∧ (hld t r s = 4 → kd t s = 5) ∧ (hld t r s = 5 → kd t s = 11) ∧ (hld t r s = 6 → kd t s = 5 ∧ fast t r s) := by
  unfold hld
  by_cases c2 : kd t s = 2
  · rw [if_pos c2]
    split
    · rename_i q
      exact ⟨fun _ => ⟨c2, fun e => q.2.2.elim (fun z => absurd e z) id⟩, by omega, by omega, by omega, by omega, by omega⟩
    · exact ⟨by omega, by omega, by omega, by omega, by omega, by omega⟩
  · rw [if_neg c2]
    by_cases c3 : kd t s = 3
    · rw [if_pos c3]
      split <;> exact ⟨by omega, by omega, by omega, by omega, by omega, by omega⟩
    · rw [if_neg c3]
      by_cases c8 : kd t s = 8
      · rw [if_pos c8]
        split <;> exact ⟨by omega, by omega, by omega, by omega, by omega, by omega⟩
      · rw [if_neg c8]
        by_cases c5 : kd t s = 5
        · rw [if_pos c5]
          split
          · exact ⟨by omega, by omega, by omega, by omega, by omega, by omega⟩
          · split
            · rename_i q
              exact ⟨by omega, by omega, by omega, by omega, by omega, fun _ => ⟨c5, q⟩⟩
            · exact ⟨by omega, by omega, by omega, by omega, by omega, by omega⟩
        · rw [if_neg c5]
          split
          · split <;> exact ⟨by omega, by omega, by omega, by omega, by omega, by omega⟩
          · exact ⟨by omega, by omega, by omega, by omega, by omega, by omega⟩
/-- what working ahead keeps -/
def KP (t U : TV) : Prop := WF U ∧ mk t ≤ mk U ∧ rt U = rt t ∧ (∀ r, pr U r = pr t r) ∧ (∀ r, bd U r = -4 ↔ bd t r = -4) ∧ ac U < ac t
theorem kp_RP {U : TV} {p : Nat} (w : WF U) (h : TP U s p) (h1 : mk t ≤ mk U) (h2 : rt U = rt t) (h3 : ∀ r, pr U r = pr t r) (h4 : ∀ r, bd U r = -4 ↔ bd t r = -4) (h5 : ac U ≤ ac t) : KP t (RP U s p (GS U s p)) := by
  have pc := h.pc w
  refine ⟨wf_RP w pc, h1, h2, h3, fun r => ?_, Nat.lt_of_lt_of_le ?_ h5⟩
  · rw [RP_b]
    have := h4 r
    by_cases z : bd U r = (s : Int)
    · rw [if_pos z]
      constructor
      · intro e
        omega
      · intro e
        have := this.mpr e
        omega
    · rw [if_neg z]
      exact this
  · show cnt _ (mk U) < cnt _ (mk U)
    refine cnt_lt (fun i _ hd => ?_) ⟨s, h.1.1, decide_eq_true h.1.2, ?_⟩
    · rw [decide_eq_true_eq, RP_k] at hd
      rw [decide_eq_true_eq]
      split at hd
      · exact absurd rfl hd
      · exact hd
    · rw [decide_eq_false_iff_not, RP_k, if_pos pc.2.2.1]
      exact fun q => q rfl
theorem cnt_lt2 {p q : Nat → Bool} : ∀ {n : Nat}, (∀ i, i < n → p i = true → q i = true) → ∀ a b, a < n → b < n → a ≠ b → q a = true → p a = false → q b = true → p b = false → cnt p n + 2 ≤ cnt q n
  | 0, _, a, _, h, _, _, _, _, _, _ => by omega
  | n + 1, h, a, b, ha, hb, hne, qa, pa, qb, pb => by
    rw [cnt_s, cnt_s]
    have hs := fun i hi => h i (show i < n + 1 by omega)
    have m := cnt_mono (p := p) (q := q) (n := n) (fun i hi => h i (by omega))
    by_cases e1 : a = n
    · have h1 := cnt_lt (p := p) (q := q) (n := n) (fun i hi => h i (by omega)) ⟨b, by omega, qb, pb⟩
      rw [e1] at qa pa
      rw [if_neg (by rw [pa]; decide), if_pos qa]
      omega
    · by_cases e2 : b = n
      · have h1 := cnt_lt (p := p) (q := q) (n := n) (fun i hi => h i (by omega)) ⟨a, by omega, qa, pa⟩
        rw [e2] at qb pb
        rw [if_neg (by rw [pb]; decide), if_pos qb]
        omega
      · have h1 := cnt_lt2 (p := p) (q := q) (n := n) (fun i hi => h i (by omega)) a b (by omega) (by omega) hne qa pa qb pb
        have h3 := h n (by omega)
        by_cases c : p n = true
        · rw [if_pos c, if_pos (h3 c)]
          omega
        · rw [if_neg c]
          omega
theorem kp_LR (w : WF t) (hm : mk t < 600) {v : Int} (hs : s < mk t) (hk : kd t s ≠ -1) {x : Nat} (hx : x ∈ ch t s) : KP t (LR t s v) := by
  have wm := wf_mkN w hm v
  have tp := tp_new (v := v) w hs hk
  have pc := tp.pc wm
  have hxa := ch_al w hs hk hx
  have hxs : x ≠ s := fun e => by
    have := rk_ch w hs hk hx
    rw [e] at this
    omega
  have gx : GS (mkS t 0 v) s (mk t) x = true := by
    refine GS_at.mpr ⟨inT_ch wm tp.1.1 tp.1.2 (inT_s wm) (by rw [mkN_ch, if_neg (by omega)]; exact hx), fun ⟨d, hd⟩ => ?_⟩
    rcases mem_pre.mp hd with e | ⟨c', h1, _⟩
    · have := congrArg Prod.fst e
      have : x = mk t := this
      omega
    · rw [mkN_ch, if_pos rfl] at h1
      cases h1
  refine ⟨wf_RP wm pc, by show mk t ≤ mk t + 1; omega, rfl, fun r => ?_, fun r => ?_, ?_⟩
  · show (mkS t 0 v).1 4 r = _
    rw [mkS_at]
    simp
  · rw [LR_b]
    by_cases z : bd t r = (s : Int)
    · rw [if_pos z]
      omega
    · rw [if_neg z]
  · show cnt _ (mk t + 1) < cnt _ (mk t)
    rw [cnt_s]
    have h2 : cnt (fun y => decide (kd (LR t s v) y ≠ -1)) (mk t) + 2 ≤ cnt (fun y => decide (kd t y ≠ -1)) (mk t) := by
      refine cnt_lt2 (fun i hi hd => ?_) s x hs hxa.1 (fun e => hxs e.symm) (decide_eq_true hk) ?_ (decide_eq_true hxa.2) ?_
      · rw [decide_eq_true_eq] at hd ⊢
        unfold LR at hd
        rw [RP_k, mkN_k] at hd
        split at hd
        · exact absurd rfl hd
        · rw [if_neg (by omega)] at hd
          exact hd
      · rw [decide_eq_false_iff_not]
        unfold LR
        rw [RP_k, if_pos pc.2.2.1]
        exact fun q => q rfl
      · rw [decide_eq_false_iff_not]
        unfold LR
        rw [RP_k, if_pos gx]
        exact fun q => q rfl
    split <;> omega
theorem nmc_iv : ∀ (D : List (Nat × Nat)) (U : TV) (k v : Int), IVN t U s D → mk U + (nls t k D).length ≤ 600 → IVN t (nmc (nls t k D) U v) s []
  | [], U, k, v, I, _ => I
  | q :: D, U, k, v, I, hm => by
    rw [nls] at hm ⊢
    by_cases c : kd t q.1 = 1 ∧ nm t q.1 = k
    · rw [if_pos c, List.length_cons] at hm
      rw [if_pos c]
      have := nmc_iv D (LR U q.1 v) k v (I.st (v := v) c.1 (by omega)).1 (by rw [LR_mk]; omega)
      exact this
    · rw [if_neg c] at hm
      rw [if_neg c]
      exact nmc_iv D U k v I.sk hm
/-- which part takes the place of a PICK -/
theorem pick_p (w : WF t) (hs : s < mk t) (hk : kd t s = 3) : ∃ p : Nat, (pt t s (if nm t (xN t s) = 0 then 2 else 1)).toNat = p ∧ pt t s (if nm t (xN t s) = 0 then 2 else 1) = (p : Int) ∧ p ∈ ch t s := by
  have hks : kd t s ≠ -1 := by rw [hk]; decide
  have a := prt w hs hks (j := 1) (by rw [ar_3' hk]; decide) (by decide)
  have b := prt w hs hks (j := 2) (by rw [ar_3' hk]; decide) (by decide)
  by_cases c : nm t (xN t s) = 0
  · rw [if_pos c]
    exact ⟨_, rfl, b.1, b.2.1⟩
  · rw [if_neg c]
    exact ⟨_, rfl, a.1, a.2.1⟩
theorem kp_wrk (w : WF t) {r : Int} (hs : s < mk t) (hk : kd t s ≠ -1) (h0 : hld t r s ≠ 0) (hf : ¬ ful t r s) : KP t (wrk t r s) := by
  obtain ⟨k1, k2, k3, k4, k5, k6⟩ := hld_kd t r s
  have part : ∀ {p : Nat}, p ∈ ch t s → KP t (RP t s p (GS t s p)) := fun {p} hp => kp_RP w ⟨⟨hs, hk⟩, ch_al w hs hk hp, Or.inl hp⟩ (Nat.le_refl _) rfl (fun _ => rfl) (fun _ => Iff.rfl) (Nat.le_refl _)
  unfold wrk
  rcases hld_r t r s with e | e | e | e | e | e | e
  · exact absurd e h0
  · rw [if_pos e]
    have hm : mk t < 600 := Classical.byContradiction fun q => hf (Or.inl ⟨Or.inl e, q⟩)
    exact kp_LR w hm hs hk (prt w hs hk (j := 0) (by rw [ar_2 (Or.inl (k1 e).1)]; decide) (by decide)).2.1
  · rw [if_neg (by omega), if_neg (by omega), if_pos e]
    obtain ⟨p, e1, _, e3⟩ := pick_p w hs (k2 e)
    rw [e1]
    exact part e3
  · rw [if_neg (by omega), if_pos e]
    have hm : mk t < 600 := Classical.byContradiction fun q => hf (Or.inl ⟨Or.inr e, q⟩)
    exact kp_LR w hm hs hk (prt w hs hk (j := 0) (by rw [ar_2 (Or.inr (Or.inr (Or.inl (k3 e))))]; decide) (by decide)).2.1
  · rw [if_neg (by omega), if_neg (by omega), if_neg (by omega), if_pos e]
    exact part (both_p w hs (k4 e)).2.1.2.1
  · rw [if_neg (by omega), if_neg (by omega), if_neg (by omega), if_neg (by omega), if_pos e]
    exact part (prt w hs hk (j := 0) (by rw [ar_1 (Or.inr (Or.inr (Or.inr (k5 e))))]; decide) (by decide)).2.1
  · rw [if_neg (by omega), if_neg (by omega), if_neg (by omega), if_neg (by omega), if_neg (by omega)]
    have hm : mk t + (nls t (nm t (xN t s)) (plist t ((yN t s : Nat) : Int))).length ≤ 600 := Classical.byContradiction fun q => hf (Or.inr ⟨e, q⟩)
    obtain ⟨i1, i2, i3, _, _, i6, i7, i8, i9, i10⟩ := nmc_iv (s := s) (plist t ((yN t s : Nat) : Int)) t (nm t (xN t s)) (nm t (xN t (xN t s))) (IVN.in0 w hs (k6 e).1) hm
    obtain ⟨_, ⟨y1, y2, y3, y4⟩, _, _⟩ := both_p i1 i2 i3
    exact kp_RP i1 ⟨⟨i2, by rw [i3]; decide⟩, ⟨y3, y4⟩, Or.inl y2⟩ i6 i8 i9 i10 i7
end WK
