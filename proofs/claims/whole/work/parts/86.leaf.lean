/-! AHEAD: a leaf becomes a number -/
section LF
variable {t : TV} {s n : Nat} {v : Int}
theorem wf_mkN (w : WF t) (hm : mk t < 600) (v : Int) : WF (mkS t 0 v) := by
  have := wf_tg (t := t) (k := 0) (v := v) (g := fun _ => -4) (n := 0) w (by decide) (fun a ha => absurd ha (Nat.not_lt_zero _)) hm (fun a ha => absurd ha (Nat.not_lt_zero _)) (by decide) ⟨by omega, by omega, by omega⟩ rfl
  exact this
theorem mkN_k (j : Nat) : kd (mkS t 0 v) j = if j = mk t then 0 else kd t j := by
  show (mkS t 0 v).1 0 j = _
  rw [mkS_at]
  by_cases z : j = mk t <;> simp [z]
theorem mkN_n (j : Nat) : nm (mkS t 0 v) j = if j = mk t then v else nm t j := by
  show (mkS t 0 v).1 1 j = _
  rw [mkS_at]
  by_cases z : j = mk t <;> simp [z]
theorem mkN_u (j : Nat) : up (mkS t 0 v) j = if j = mk t then -4 else up t j := by
  show (mkS t 0 v).1 3 j = _
  rw [mkS_at]
  by_cases z : j = mk t <;> simp [z]
theorem mkN_2 (j : Nat) : (mkS t 0 v).1 2 j = if j / 3 = mk t then -4 else t.1 2 j := by
  rw [mkS_at]
  by_cases z : j / 3 = mk t <;> simp [z]
theorem mkN_p {x k : Nat} (hk : k < 3) : pt (mkS t 0 v) x k = if x = mk t then -4 else pt t x k := by
  show (mkS t 0 v).1 2 (3 * x + k) = _
  rw [mkN_2, show (3 * x + k) / 3 = x by omega]
theorem mkN_b (r : Nat) : bd (mkS t 0 v) r = bd t r := by
  show (mkS t 0 v).1 5 r = _
  rw [mkS_at]
  simp
theorem mkN_ch (x : Nat) : ch (mkS t 0 v) x = if x = mk t then [] else ch t x := by
  have hf : ∀ k, k < 3 → pf (mkS t 0 v) x k = if x = mk t then [] else pf t x k := fun k hk => by
    unfold pf
    rw [mkN_p hk]
    by_cases z : x = mk t
    · rw [if_pos z, if_neg (by decide), if_pos z]
    · rw [if_neg z, if_neg z]
  rw [ch_eq, hf 0 (by decide), hf 1 (by decide), hf 2 (by decide)]
  by_cases z : x = mk t
  · rw [if_pos z, if_pos z, if_pos z, if_pos z]
    rfl
  · rw [if_neg z, if_neg z, if_neg z, if_neg z, ch_eq]
theorem mkN_al (w : WF t) (hs : s < mk t) (hk : kd t s ≠ -1) : s < mk (mkS t 0 v) ∧ kd (mkS t 0 v) s ≠ -1 := by
  refine ⟨by show s < mk t + 1; omega, ?_⟩
  rw [mkN_k, if_neg (by omega)]
  exact hk
/-- a new number may take any step's place -/
theorem tp_new (w : WF t) (hs : s < mk t) (hk : kd t s ≠ -1) : TP (mkS t 0 v) s (mk t) := by
  have h2 : mk t < mk (mkS t 0 v) ∧ kd (mkS t 0 v) (mk t) ≠ -1 := ⟨by show mk t < mk t + 1; omega, by rw [mkN_k, if_pos rfl]; decide⟩
  refine ⟨mkN_al w hs hk, h2, Or.inr ⟨⟨al_n.mpr h2, ?_, ?_⟩, by rw [mkN_ch, if_pos rfl], by omega⟩⟩
  · rw [upI_at h2.1, mkN_u, if_pos rfl]
  · rcases owF_ge (mkS t 0 v) (mk t : Int) (rt (mkS t 0 v)) 0 with e | ⟨k, e, _, h3, h4⟩
    · exact e
    · exfalso
      rw [mkN_b] at h4
      have h3 : k < 0 + rt t := h3
      obtain ⟨_, _, h5⟩ := w.2.2.1 k (by omega)
      rw [h4] at h5
      rcases h5 with h5 | h5
      · omega
      · have := h5.1.2.1
        omega
theorem tp_nch (w : WF t) (hs : s < mk t) (hk : kd t s ≠ -1) : mk t ∉ ch (mkS t 0 v) s := fun hc => by
  rw [mkN_ch, if_neg (by omega)] at hc
  have := (ch_al w hs hk hc).1
  omega
noncomputable def LR (t : TV) (n : Nat) (v : Int) : TV := RP (mkS t 0 v) n (mk t) (GS (mkS t 0 v) n (mk t))
theorem wf_LR (w : WF t) (hm : mk t < 600) (hs : n < mk t) (hk : kd t n ≠ -1) : WF (LR t n v) := wf_RP (wf_mkN w hm v) ((tp_new w hs hk).pc (wf_mkN w hm v))
/-- what is gone with a leaf: it alone -/
theorem GS_leaf (w : WF t) (hm : mk t < 600) (hs : n < mk t) (hk : kd t n ≠ -1) (hc : ch t n = []) (x : Nat) : GS (mkS t 0 v) n (mk t) x = true ↔ x = n := by
  have hn : ∀ y, inT (mkS t 0 v) n y ↔ y = n := fun y => by
    constructor
    · rintro ⟨d, hd⟩
      rcases mem_pre.mp hd with e | ⟨c', h1, _⟩
      · exact congrArg Prod.fst e
      · rw [mkN_ch, if_neg (by omega), hc] at h1
        cases h1
    · intro e
      rw [e]
      exact ⟨1, mem_pre.mpr (Or.inl rfl)⟩
  rw [GS_at, hn]
  constructor
  · exact fun h => h.1
  · intro e
    refine ⟨e, fun ⟨d, hd⟩ => ?_⟩
    rcases mem_pre.mp hd with e2 | ⟨c', h1, _⟩
    · have := congrArg Prod.fst e2
      have : x = mk t := this
      omega
    · rw [mkN_ch, if_pos rfl] at h1
      cases h1
/-- a leaf: a step without parts -/
def leaf (t : TV) (n : Nat) : Prop := n < mk t ∧ kd t n ≠ -1 ∧ ch t n = []
theorem LR_k (w : WF t) (hm : mk t < 600) (h : leaf t n) (j : Nat) : kd (LR t n v) j = if j = n then -1 else if j = mk t then 0 else kd t j := by
  unfold LR
  rw [RP_k, mkN_k]
  by_cases z : j = n
  · rw [if_pos z, if_pos ((GS_leaf w hm h.1 h.2.1 h.2.2 j).mpr z)]
  · rw [if_neg z, if_neg (fun q => z ((GS_leaf w hm h.1 h.2.1 h.2.2 j).mp q))]
theorem LR_n (w : WF t) (hm : mk t < 600) (h : leaf t n) (j : Nat) : nm (LR t n v) j = if j = n then 0 else if j = mk t then v else nm t j := by
  unfold LR
  rw [RP_n, mkN_n]
  by_cases z : j = n
  · rw [if_pos z, if_pos ((GS_leaf w hm h.1 h.2.1 h.2.2 j).mpr z)]
  · rw [if_neg z, if_neg (fun q => z ((GS_leaf w hm h.1 h.2.1 h.2.2 j).mp q))]
theorem LR_u (w : WF t) (hm : mk t < 600) (h : leaf t n) (j : Nat) : up (LR t n v) j = if j = n then -4 else if j = mk t then up t n else up t j := by
  have hn := h.1
  unfold LR
  rw [RP_u, mkN_u, mkN_u, if_neg (show ¬ n = mk t by omega)]
  by_cases z : j = n
  · rw [if_pos z, if_pos ((GS_leaf w hm h.1 h.2.1 h.2.2 j).mpr z)]
  · rw [if_neg z, if_neg (fun q => z ((GS_leaf w hm h.1 h.2.1 h.2.2 j).mp q))]
    by_cases z2 : j = mk t
    · rw [if_pos z2, if_pos z2]
    · rw [if_neg z2, if_neg z2, if_neg z2]
theorem LR_2 (w : WF t) (hm : mk t < 600) (h : leaf t n) (j : Nat) : (LR t n v).1 2 j = if j / 3 = n ∨ j / 3 = mk t then -4 else if t.1 2 j = (n : Int) then (mk t : Int) else t.1 2 j := by
  unfold LR
  rw [RP_2, mkN_2]
  by_cases z : j / 3 = n
  · rw [if_pos (Or.inl z), if_pos ((GS_leaf w hm h.1 h.2.1 h.2.2 _).mpr z)]
  · rw [if_neg (fun q => z ((GS_leaf w hm h.1 h.2.1 h.2.2 _).mp q))]
    by_cases z2 : j / 3 = mk t
    · rw [if_pos z2, if_neg (by omega), if_pos (Or.inr z2)]
    · rw [if_neg z2, if_neg (show ¬ (j / 3 = n ∨ j / 3 = mk t) from fun q => q.elim z z2)]
theorem LR_p (w : WF t) (hm : mk t < 600) (h : leaf t n) {x k : Nat} (hk : k < 3) : pt (LR t n v) x k = if x = n ∨ x = mk t then -4 else if pt t x k = (n : Int) then (mk t : Int) else pt t x k := by
  show (LR t n v).1 2 (3 * x + k) = _
  rw [LR_2 w hm h, show (3 * x + k) / 3 = x by omega]
theorem LR_b (r : Nat) : bd (LR t n v) r = if bd t r = (n : Int) then (mk t : Int) else bd t r := by
  unfold LR
  rw [RP_b, mkN_b]
theorem LR_mk : mk (LR t n v) = mk t + 1 := rfl
/-- what stands where a step stood -/
def th (t : TV) (n z : Nat) : Nat := if z = n then mk t else z
/-- trees behind a leaf's change -/
theorem LR_tree (w : WF t) (hm : mk t < 600) (h : leaf t n) {z : Nat} (hz : z < mk t) (hzk : kd t z ≠ -1) (x : Nat) : inT (LR t n v) (th t n z) x ↔ (x = mk t ∧ inT t z n) ∨ (x ≠ n ∧ x ≠ mk t ∧ inT t z x) := by
  have w' := wf_LR (v := v) w hm h.1 h.2.1
  have hn := h.1
  have z' : th t n z < mk (LR t n v) ∧ kd (LR t n v) (th t n z) ≠ -1 := by
    unfold th
    rw [LR_k w hm h]
    by_cases q : z = n
    · rw [if_pos q]
      exact ⟨by rw [LR_mk]; omega, by rw [if_neg (by omega), if_pos rfl]; decide⟩
    · rw [if_neg q]
      exact ⟨by rw [LR_mk]; omega, by rw [if_neg q, if_neg (by omega)]; exact hzk⟩
  have kid : ∀ {a y : Nat}, a ≠ n → a < mk t → y ∈ ch t a → (th t n y) ∈ ch (LR t n v) a := by
    intro a y ha hal hy
    obtain ⟨k, hk, h0, rfl⟩ := mem_ch.mp hy
    refine mem_ch.mpr ⟨k, hk, ?_⟩
    rw [LR_p w hm h hk, if_neg (fun q => q.elim ha (fun q => by omega))]
    unfold th
    by_cases q : pt t a k = (n : Int)
    · rw [if_pos q, if_pos (by omega)]
      exact ⟨by omega, by omega⟩
    · rw [if_neg q, if_neg (by omega)]
      exact ⟨h0, rfl⟩
  constructor
  · rintro ⟨d, hd⟩
    have := pre_sub (T := LR t n v) (C := fun x => (x = mk t ∧ inT t z n) ∨ (x ≠ n ∧ x ≠ mk t ∧ inT t z x)) (fun a ha y hy => ?_) 40 1 (th t n z) ?_ (x, d) hd
    · exact this
    · obtain ⟨k, hk, h0, rfl⟩ := mem_ch.mp hy
      rw [LR_p w hm h hk] at h0 ⊢
      rcases ha with ⟨e, _⟩ | ⟨e1, e2, e3⟩
      · rw [if_pos (Or.inr e)] at h0
        exact absurd h0 (by decide)
      · rw [if_neg (fun q => q.elim e1 e2)] at h0 ⊢
        by_cases q : pt t a k = (n : Int)
        · rw [if_pos q, Int.toNat_natCast]
          have hc : n ∈ ch t a := mem_ch.mpr ⟨k, hk, by omega, by omega⟩
          exact Or.inl ⟨rfl, inT_ch w hz hzk e3 hc⟩
        · rw [if_neg q] at h0 ⊢
          have hc : (pt t a k).toNat ∈ ch t a := mem_ch.mpr ⟨k, hk, h0, rfl⟩
          have hi := inT_ch w hz hzk e3 hc
          have hia := inT_al w hz hzk hi
          exact Or.inr ⟨by omega, by omega, hi⟩
    · unfold th
      by_cases q : z = n
      · rw [if_pos q]
        exact Or.inl ⟨rfl, by rw [q]; exact ⟨1, mem_pre.mpr (Or.inl rfl)⟩⟩
      · rw [if_neg q]
        exact Or.inr ⟨q, by omega, inT_s w⟩
  · have key : ∀ (d y : Nat), (y, d) ∈ pre t 40 1 z → inT (LR t n v) (th t n z) (th t n y) := by
      intro d
      induction d with
      | zero =>
        intro y hy
        have := (pre_in hy (w.tr' hz hzk)).1
        omega
      | succ d ih =>
        intro y hy
        rcases pclos hy (w.tr' hz hzk) with ⟨e, _⟩ | ⟨a, e1, _, e3⟩
        · rw [e]
          exact ⟨1, mem_pre.mpr (Or.inl rfl)⟩
        · have hya := tr_at (pre_in hy (w.tr' hz hzk)).2.2
          have haa := tr_at (pre_in e3 (w.tr' hz hzk)).2.2
          have hyc : y ∈ ch t a := by
            rcases up_al w (al_n.mpr hya) with q | ⟨_, q2⟩
            · rw [upI_at hya.1] at q
              omega
            · rw [upI_at hya.1, e1] at q2
              simpa using q2
          have han : a ≠ n := fun e => by
            rw [e, h.2.2] at hyc
            cases hyc
          have h1 := ih a (by simpa using e3)
          have ea : th t n a = a := by unfold th; rw [if_neg han]
          rw [ea] at h1
          exact inT_ch w' z'.1 z'.2 h1 (kid han haa.1 hyc)
    rintro (⟨e, d, hd⟩ | ⟨e1, e2, d, hd⟩)
    · have := key d n hd
      have en : th t n n = mk t := by unfold th; rw [if_pos rfl]
      rw [en] at this
      rw [e]
      exact this
    · have := key d x hd
      have en : th t n x = x := by unfold th; rw [if_neg e1]
      rw [en] at this
      exact this
/-- a BOTH whose second part has the leaf -/
def bo2 (t : TV) (s n : Nat) : Prop := s < mk t ∧ kd t s = 5 ∧ inT t (yN t s) n
theorem both_p (w : WF t) (hs : s < mk t) (hk : kd t s = 5) : (pt t s 0 = (xN t s : Int) ∧ xN t s ∈ ch t s ∧ xN t s < mk t ∧ kd t (xN t s) ≠ -1) ∧ (pt t s 1 = (yN t s : Int) ∧ yN t s ∈ ch t s ∧ yN t s < mk t ∧ kd t (yN t s) ≠ -1) ∧ xN t s ≠ yN t s ∧ pt t s 2 = -4 := by
  have hks : kd t s ≠ -1 := by rw [hk]; decide
  have har := ar_2 (t := t) (s := s) (Or.inr (Or.inl hk))
  have a := prt w hs hks (j := 0) (by rw [har]; decide) (by decide)
  have b := prt w hs hks (j := 1) (by rw [har]; decide) (by decide)
  have c := ((w.2.2.2.2.2.1 s hs hks).2.2.2 2 (by decide)).2 (by rw [har]; exact Nat.le_refl 2)
  refine ⟨a, b, fun e => ?_, c⟩
  rcases w.lk hs hks 0 (by decide) with q | ⟨_, _, q⟩
  · omega
  · have := q 1 (by decide) (by decide)
    have e : (pt t s 0).toNat = (pt t s 1).toNat := e
    omega
theorem bo2_no (w : WF t) (h : bo2 t s n) (hl : leaf t n) : n ≠ s ∧ pt t s 0 ≠ (n : Int) ∧ inT t s n ∧ (∀ a : Nat, up t n = (a : Int) → a ≠ s → inT t (yN t s) a) ∧ ¬ inT t (yN t s) s := by
  obtain ⟨h1, h2, h3⟩ := h
  have hks : kd t s ≠ -1 := by rw [h2]; decide
  obtain ⟨⟨x1, x2, x3, x4⟩, ⟨y1, y2, y3, y4⟩, hne, _⟩ := both_p w h1 h2
  have hsy : ¬ inT t (yN t s) s := fun ⟨d, hd⟩ => nin 40 s (w.tr' h1 hks) (yN t s) y2 40 1 d (w.tr' y3 y4) hd
  have hup : ∀ a : Nat, up t n = (a : Int) → a ≠ s → inT t (yN t s) a := fun a ha has => by
    rcases inT_up w y3 y4 h3 with e | ⟨b, e1, e2⟩
    · have := tr_up (w.tr' h1 hks) y2
      rw [← e, ha] at this
      omega
    · have : b = a := by omega
      rw [← this]
      exact e2
  refine ⟨fun e => hsy (by have h9 := h3; rw [e] at h9; exact h9), fun e => ?_, ?_, hup, hsy⟩
  · have hc : n ∈ ch t s := mem_ch.mpr ⟨0, by decide, by omega, by omega⟩
    have hu := tr_up (w.tr' h1 hks) hc
    rcases inT_up w y3 y4 h3 with e2 | ⟨b, e3, e4⟩
    · omega
    · have : b = s := by omega
      rw [this] at e4
      exact hsy e4
  · obtain ⟨d, hd⟩ := h3
    have h5 := pre_sub (T := t) (C := inT t s) (fun x hx y hy => inT_ch w h1 hks hx hy) 40 1 (yN t s) (inT_ch w h1 hks (inT_s w) y2) (n, d) hd
    exact h5
theorem LR_y (w : WF t) (hm : mk t < 600) (hl : leaf t n) (h : bo2 t s n) : yN (LR t n v) s = th t n (yN t s) ∧ pt (LR t n v) s 0 = pt t s 0 ∧ kd (LR t n v) s = 5 := by
  obtain ⟨b1, b2, b3, b4, b5⟩ := bo2_no w h hl
  obtain ⟨h1, h2, h3⟩ := h
  obtain ⟨⟨x1, x2, x3, x4⟩, ⟨y1, y2, y3, y4⟩, hne, _⟩ := both_p w h1 h2
  refine ⟨?_, ?_, ?_⟩
  · show (pt (LR t n v) s 1).toNat = _
    rw [LR_p w hm hl (by decide), if_neg (fun q => q.elim (fun e => b1 e.symm) (fun e => by omega))]
    unfold th
    by_cases q : pt t s 1 = (n : Int)
    · rw [if_pos q, if_pos (by omega), Int.toNat_natCast]
    · rw [if_neg q, if_neg (by omega)]
  · rw [LR_p w hm hl (by decide), if_neg (fun q => q.elim (fun e => b1 e.symm) (fun e => by omega)), if_neg b2]
  · rw [LR_k w hm hl, if_neg (fun e => b1 e.symm), if_neg (by omega)]
    exact h2
/-- a leaf's change and the BOTH's: one state in either order -/
theorem LR_RP (w : WF t) (hm : mk t < 600) (hl : leaf t n) (h : bo2 t s n) : TE (LR (RP t s (yN t s) (GS t s (yN t s))) n v) (RP (LR t n v) s (yN (LR t n v) s) (GS (LR t n v) s (yN (LR t n v) s))) := by
  have w1 := wf_LR (v := v) w hm hl.1 hl.2.1
  obtain ⟨b1, b2, b3, b4, b5⟩ := bo2_no w h hl
  have hy := (LR_y (v := v) w hm hl h).1
  obtain ⟨h1, h2, h3⟩ := h
  have hks : kd t s ≠ -1 := by rw [h2]; decide
  obtain ⟨⟨x1, x2, x3, x4⟩, ⟨y1, y2, y3, y4⟩, hne, _⟩ := both_p w h1 h2
  have tp : TP t s (yN t s) := ⟨⟨h1, hks⟩, ⟨y3, y4⟩, Or.inl y2⟩
  have pc := tp.pc w
  have wu := wf_RP w pc
  have hn := hl.1
  -- the same are gone
  have hG : ∀ j, GS (LR t n v) s (yN (LR t n v) s) j = true ↔ GS t s (yN t s) j = true := fun j => by
    rw [GS_at, GS_at, hy]
    have es : th t n s = s := by unfold th; rw [if_neg (fun e => b1 e.symm)]
    have t1 := LR_tree (v := v) w hm hl h1 hks j
    rw [es] at t1
    rw [t1, LR_tree w hm hl y3 y4]
    constructor
    · rintro ⟨e1 | ⟨e1, e2, e3⟩, e4⟩
      · exact absurd (Or.inl ⟨e1.1, h3⟩) e4
      · exact ⟨e3, fun q => e4 (Or.inr ⟨e1, e2, q⟩)⟩
    · rintro ⟨e1, e2⟩
      have hja := inT_al w h1 hks e1
      have hjn : j ≠ n := fun e => e2 (by rw [e]; exact h3)
      exact ⟨Or.inr ⟨hjn, by omega, e1⟩, fun q => q.elim (fun q => by omega) (fun q => e2 q.2.2)⟩
  generalize GS (LR t n v) s (yN (LR t n v) s) = G' at hG ⊢
  have hGn : GS t s (yN t s) n ≠ true := fun q => (GS_at.mp q).2 h3
  have hGm : GS t s (yN t s) (mk t) ≠ true := fun q => by
    have := inT_al w h1 hks (GS_at.mp q).1
    omega
  have hlu : leaf (RP t s (yN t s) (GS t s (yN t s))) n := by
    refine ⟨hn, by rw [RP_k, if_neg hGn]; exact hl.2.1, ?_⟩
    have hf : ∀ k, k < 3 → pf (RP t s (yN t s) (GS t s (yN t s))) n k = [] := fun k hk => by
      unfold pf
      rw [RP_p _ hk, if_neg hGn]
      have h0 : ¬ 0 ≤ pt t n k := fun q => by
        have : (pt t n k).toNat ∈ ch t n := mem_ch.mpr ⟨k, hk, q, rfl⟩
        rw [hl.2.2] at this
        cases this
      rw [if_neg (show ¬ pt t n k = (s : Int) by omega), if_neg h0]
    rw [ch_eq, hf 0 (by decide), hf 1 (by decide), hf 2 (by decide)]
    rfl
  have em : mk (RP t s (yN t s) (GS t s (yN t s))) = mk t := rfl
  have hmu : mk (RP t s (yN t s) (GS t s (yN t s))) < 600 := hm
  have ey : yN (LR t n v) s = if yN t s = n then mk t else yN t s := hy
  refine ⟨rfl, rfl, fun j hj => ⟨?_, ?_, ?_⟩, fun j hj => ?_, fun r hr => ⟨?_, ?_⟩⟩
  · rw [RP_k, LR_k wu hmu hlu, LR_k w hm hl, RP_k, em]
    by_cases g : GS t s (yN t s) j = true
    · rw [if_pos ((hG j).mpr g), if_pos g, if_neg (fun e => hGn (by rw [← e]; exact g)), if_neg (fun e => hGm (by rw [← e]; exact g))]
    · rw [if_neg (fun q => g ((hG j).mp q)), if_neg g]
  · rw [RP_n, LR_n wu hmu hlu, LR_n w hm hl, RP_n, em]
    by_cases g : GS t s (yN t s) j = true
    · rw [if_pos ((hG j).mpr g), if_pos g, if_neg (fun e => hGn (by rw [← e]; exact g)), if_neg (fun e => hGm (by rw [← e]; exact g))]
    · rw [if_neg (fun q => g ((hG j).mp q)), if_neg g]
  · rw [RP_u, LR_u wu hmu hlu, LR_u w hm hl, LR_u w hm hl, RP_u, RP_u, em, if_neg hGn, if_neg (show ¬ s = n from fun e => b1 e.symm), if_neg (show ¬ s = mk t by omega), ey]
    by_cases g : GS t s (yN t s) j = true
    · rw [if_pos ((hG j).mpr g), if_pos g, if_neg (fun e => hGn (by rw [← e]; exact g)), if_neg (fun e => hGm (by rw [← e]; exact g))]
    · rw [if_neg (fun q => g ((hG j).mp q)), if_neg g]
      by_cases q1 : j = n
      · rw [if_pos q1, if_pos q1]
        by_cases q2 : yN t s = n
        · rw [if_pos q2, if_neg (by omega)]
        · rw [if_neg q2, if_neg (by omega)]
      · rw [if_neg q1, if_neg q1]
        by_cases q3 : j = mk t
        · rw [if_pos q3, if_pos q3]
          by_cases q2 : yN t s = n
          · rw [if_pos q2, if_pos q3, if_pos q2.symm]
          · rw [if_neg q2, if_neg (by omega), if_neg (fun e => q2 e.symm)]
        · rw [if_neg q3, if_neg q3]
          by_cases q2 : yN t s = n
          · rw [if_pos q2, if_neg q3, if_neg (by omega)]
          · rw [if_neg q2]
  · rw [RP_2, LR_2 wu hmu hlu, LR_2 w hm hl, RP_2, em, ey]
    by_cases g : GS t s (yN t s) (j / 3) = true
    · rw [if_pos ((hG _).mpr g), if_pos g, if_neg (fun e => e.elim (fun e => hGn (by rw [← e]; exact g)) (fun e => hGm (by rw [← e]; exact g))), if_neg (by omega)]
    · rw [if_neg (fun q => g ((hG _).mp q)), if_neg g]
      by_cases q1 : j / 3 = n ∨ j / 3 = mk t
      · rw [if_pos q1, if_pos q1, if_neg (by omega)]
      · rw [if_neg q1, if_neg q1]
        by_cases q2 : t.1 2 j = (s : Int)
        · rw [if_pos q2, if_neg (show ¬ t.1 2 j = (n : Int) by omega), if_pos q2]
          by_cases q3 : yN t s = n
          · rw [if_pos q3, if_pos (by omega)]
          · rw [if_neg q3, if_neg (by omega)]
        · rw [if_neg q2]
          by_cases q3 : t.1 2 j = (n : Int)
          · rw [if_pos q3, if_neg (by omega)]
          · rw [if_neg q3, if_neg q2]
  · rfl
  · rw [RP_b, LR_b, LR_b, RP_b, em, ey]
    have hbn : bd t r ≠ (n : Int) := fun e => by
      obtain ⟨_, _, h4⟩ := w.2.2.1 r hr
      rw [e] at h4
      rcases h4 with h4 | h4
      · omega
      · have h5 := h4.2
        rw [Int.toNat_natCast] at h5
        rcases inT_up w y3 y4 h3 with e2 | ⟨b, e3, _⟩
        · have := tr_up (w.tr' h1 hks) y2
          rw [← e2] at this
          omega
        · omega
    rw [if_neg hbn]
    by_cases q : bd t r = (s : Int)
    · rw [if_pos q, if_pos q]
      by_cases q3 : yN t s = n
      · rw [if_pos q3, if_pos (by omega)]
      · rw [if_neg q3, if_neg (by omega)]
    · rw [if_neg q, if_neg q, if_neg hbn]
end LF
