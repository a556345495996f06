/-! AHEAD: a step's place is taken, what is left of it goes -/
section RPL
variable {t : TV} {s p : Nat}
def RP (t : TV) (s p : Nat) (G : Nat → Bool) : TV := (fun r j =>
  if r = 0 then (if G j = true then -1 else t.1 0 j)
  else if r = 1 then (if G j = true then 0 else t.1 1 j)
  else if r = 3 then (if G j = true then -4 else if j = p then t.1 3 s else t.1 3 j)
  else if r = 2 then (if G (j / 3) = true then -4 else if t.1 2 j = (s : Int) then (p : Int) else t.1 2 j)
  else if r = 5 then (if t.1 5 j = (s : Int) then (p : Int) else t.1 5 j)
  else t.1 r j, t.2)
theorem RP_k (G : Nat → Bool) (j : Nat) : kd (RP t s p G) j = if G j = true then -1 else kd t j := rfl
theorem RP_n (G : Nat → Bool) (j : Nat) : nm (RP t s p G) j = if G j = true then 0 else nm t j := rfl
theorem RP_u (G : Nat → Bool) (j : Nat) : up (RP t s p G) j = if G j = true then -4 else if j = p then up t s else up t j := rfl
theorem RP_2 (G : Nat → Bool) (j : Nat) : (RP t s p G).1 2 j = if G (j / 3) = true then -4 else if t.1 2 j = (s : Int) then (p : Int) else t.1 2 j := rfl
theorem RP_p (G : Nat → Bool) {x k : Nat} (hk : k < 3) : pt (RP t s p G) x k = if G x = true then -4 else if pt t x k = (s : Int) then (p : Int) else pt t x k := by
  show (RP t s p G).1 2 (3 * x + k) = _
  rw [RP_2, show (3 * x + k) / 3 = x by omega]
theorem RP_b (G : Nat → Bool) (r : Nat) : bd (RP t s p G) r = if bd t r = (s : Int) then (p : Int) else bd t r := rfl
def PC (t : TV) (s p : Nat) (G : Nat → Bool) : Prop :=
  (s < mk t ∧ kd t s ≠ -1) ∧ (p < mk t ∧ kd t p ≠ -1) ∧ G s = true ∧ G p ≠ true ∧ (∀ x, G x = true → x < mk t ∧ kd t x ≠ -1) ∧
  (∀ x, x < mk t → kd t x ≠ -1 → G x ≠ true → ∀ y ∈ ch t x, y ≠ s → G y ≠ true) ∧
  (∀ x, x < mk t → kd t x ≠ -1 → G x ≠ true → x ≠ p → ∀ a : Nat, up t x = (a : Int) → G a ≠ true) ∧
  rk t p ≤ rk t s ∧ (∀ r, r < rt t → ∀ z : Nat, bd t r = (z : Int) → z ≠ s → G z ≠ true) ∧
  (∀ x, x < mk t → kd t x ≠ -1 → p ∈ ch t x → G x = true) ∧ (∀ r, r < rt t → bd t r ≠ (p : Int)) ∧ ∀ a : Nat, up t s = (a : Int) → G a ≠ true
theorem wf_RP (w : WF t) {G : Nat → Bool} (h : PC t s p G) : WF (RP t s p G) := by
  obtain ⟨⟨s1, s2⟩, ⟨p1, p2⟩, gs, gp, g1, g2, g3, g4, g5, g6, g7, g8⟩ := h
  have hps : p ≠ s := fun e => gp (by rw [e]; exact gs)
  have em : mk (RP t s p G) = mk t := rfl
  have al' : ∀ x, kd (RP t s p G) x ≠ -1 → G x ≠ true ∧ kd t x ≠ -1 := fun x hx => by
    rw [RP_k] at hx
    by_cases q : G x = true
    · rw [if_pos q] at hx
      exact absurd rfl hx
    · rw [if_neg q] at hx
      exact ⟨q, hx⟩
  have al2 : ∀ x, x < mk t → G x ≠ true → kd t x ≠ -1 → al (RP t s p G) (x : Int) := fun x h1 h2 h3 => al_n.mpr ⟨h1, by rw [RP_k, if_neg h2]; exact h3⟩
  refine ⟨w.1, w.2.1, fun r hr => ?_, fun r q hr hq hne hb => ?_, fun x hx => ?_, fun x hx hk => ?_, ?_, fun x hx hk hu => ?_⟩
  · obtain ⟨a1, a2, a3⟩ := w.2.2.1 r hr
    refine ⟨a1, a2, ?_⟩
    rw [RP_b]
    by_cases z : bd t r = (s : Int)
    · rw [if_pos z]
      refine Or.inr ⟨al2 p p1 gp p2, ?_⟩
      rw [Int.toNat_natCast, RP_u, if_neg gp, if_pos rfl]
      rw [z] at a3
      rcases a3 with a3 | a3
      · omega
      · simpa using a3.2
    · rw [if_neg z]
      rcases a3 with a3 | ⟨b1, b2⟩
      · exact Or.inl a3
      · obtain ⟨y, hy⟩ := Int.eq_ofNat_of_zero_le b1.1
        have h7 := g7 r hr
        rw [hy] at b1 b2 z h7 ⊢
        rw [Int.toNat_natCast] at b2 ⊢
        obtain ⟨c1, c2⟩ := al_n.mp b1
        have hG := g5 r hr y hy (fun e => z (by rw [e]))
        refine Or.inr ⟨al2 y c1 hG c2, ?_⟩
        rw [RP_u, if_neg hG, if_neg (fun e => h7 (by rw [e]))]
        exact b2
  · have hr : r < rt t := hr
    have hq : q < rt t := hq
    rw [RP_b] at hb
    rw [RP_b, RP_b]
    have l1 := g7 r hr
    have l2 := g7 q hq
    by_cases z1 : bd t r = (s : Int)
    · have z2 : bd t q ≠ (s : Int) := fun e => w.2.2.2.1 r q hr hq hne (by omega) (by omega)
      rw [if_pos z1, if_neg z2]
      exact fun e => l2 e.symm
    · rw [if_neg z1] at hb ⊢
      by_cases z2 : bd t q = (s : Int)
      · rw [if_pos z2]
        exact l1
      · rw [if_neg z2]
        exact w.2.2.2.1 r q hr hq hne hb
  · obtain ⟨a1, a2, a3⟩ := w.2.2.2.2.1 x hx
    rw [RP_k, RP_n, RP_u]
    by_cases q : G x = true
    · rw [if_pos q, if_pos q, if_pos q]
      exact ⟨by decide, by decide, fun _ => ⟨rfl, rfl, fun k hk => by rw [RP_p _ hk, if_pos q]⟩⟩
    · rw [if_neg q, if_neg q, if_neg q]
      refine ⟨a1, a2, fun e => ?_⟩
      obtain ⟨b1, b2, b3⟩ := a3 e
      have hxp : x ≠ p := fun e2 => p2 (by rw [← e2]; exact e)
      refine ⟨b1, by rw [if_neg hxp]; exact b2, fun k hk => ?_⟩
      rw [RP_p _ hk, if_neg q, b3 k hk, if_neg (by omega)]
  · obtain ⟨q, hk2⟩ := al' x hk
    obtain ⟨a1, a2, a3, a4⟩ := w.2.2.2.2.2.1 x hx hk2
    have ek : kd (RP t s p G) x = kd t x := by rw [RP_k, if_neg q]
    have en : nm (RP t s p G) x = nm t x := by rw [RP_n, if_neg q]
    have ea : ar (RP t s p G) x = ar t x := by
      unfold ar
      rw [ek, en]
      rfl
    rw [ek, en, ea]
    refine ⟨a1, a2, a3, fun k hk3 => ?_⟩
    rw [RP_p _ hk3, if_neg q]
    obtain ⟨b1, b2⟩ := a4 k hk3
    refine ⟨fun z => ?_, fun z => ?_⟩
    · split
      · omega
      · exact b1 z
    · rw [b2 z, if_neg (by omega)]
  · refine fun x hx hk => tr_rank (ρ := rk t) (fun x hx hk => ?_) 40 x hx hk (rk_pos w hx (al' x hk).2).2
    obtain ⟨q, hk2⟩ := al' x hk
    have hrx := rk_pos w hx hk2
    have lkt := w.lk hx hk2
    have kid : ∀ k, k < 3 → 0 ≤ pt t x k → (pt t x k).toNat ∈ ch t x := fun k hk3 h0 => mem_ch.mpr ⟨k, hk3, h0, rfl⟩
    have nop : ∀ k, k < 3 → pt t x k ≠ (p : Int) := fun k hk3 e => q (g6 x hx hk2 (by have := kid k hk3 (by omega); rwa [e, Int.toNat_natCast] at this))
    refine ⟨fun k hk3 => ?_, hrx.1, fun y hy => ?_⟩
    · rw [RP_p _ hk3, if_neg q]
      by_cases z : pt t x k = (s : Int)
      · rw [if_pos z]
        have hs := kid k hk3 (by omega)
        rw [z, Int.toNat_natCast] at hs
        refine Or.inr ⟨by show (p : Int) < (mk t : Int); omega, ?_, fun j hj hne => ?_⟩
        · rw [Int.toNat_natCast, RP_u, if_neg gp, if_pos rfl]
          exact tr_up (w.tr' hx hk2) hs
        · rw [RP_p _ hj, if_neg q]
          rcases lkt k hk3 with r1 | ⟨_, _, r3⟩
          · omega
          · rw [if_neg (by have := r3 j hj hne; omega)]
            exact nop j hj
      · rw [if_neg z]
        rcases lkt k hk3 with r1 | ⟨r1, r2, r3⟩
        · exact Or.inl r1
        · by_cases h0 : pt t x k < 0
          · exact Or.inl h0
          · have hy := kid k hk3 (by omega)
            have hG := g2 x hx hk2 q _ hy (by omega)
            refine Or.inr ⟨r1, ?_, fun j hj hne => ?_⟩
            · rw [RP_u, if_neg hG, if_neg (by have := nop k hk3; omega)]
              exact r2
            · rw [RP_p _ hj, if_neg q]
              have := r3 j hj hne
              have := nop k hk3
              split <;> omega
    · obtain ⟨k, hk3, h0, rfl⟩ := mem_ch.mp hy
      rw [RP_p _ hk3, if_neg q] at h0 ⊢
      by_cases z : pt t x k = (s : Int)
      · rw [if_pos z, Int.toNat_natCast]
        have hs := kid k hk3 (by omega)
        rw [z, Int.toNat_natCast] at hs
        have := rk_ch w hx hk2 hs
        exact ⟨p1, by rw [RP_k, if_neg gp]; exact p2, by omega⟩
      · rw [if_neg z] at h0 ⊢
        have hy := kid k hk3 h0
        have hG := g2 x hx hk2 q _ hy (by omega)
        have hya := ch_al w hx hk2 hy
        exact ⟨hya.1, by rw [RP_k, if_neg hG]; exact hya.2, rk_ch w hx hk2 hy⟩
  · obtain ⟨q, hk2⟩ := al' x hk
    rw [RP_u, if_neg q] at hu ⊢
    by_cases z : x = p
    · rw [if_pos z] at hu ⊢
      obtain ⟨b1, k, hk3, b3⟩ := w.2.2.2.2.2.2.2 s s1 s2 hu
      obtain ⟨a, ha⟩ := Int.eq_ofNat_of_zero_le b1.1
      have hG := g8 a ha
      rw [ha] at b1 b3 ⊢
      rw [Int.toNat_natCast] at b3 ⊢
      obtain ⟨c1, c2⟩ := al_n.mp b1
      refine ⟨al2 a c1 hG c2, k, hk3, ?_⟩
      rw [RP_p _ hk3, if_neg hG, if_pos b3, z]
    · rw [if_neg z] at hu ⊢
      obtain ⟨b1, k, hk3, b3⟩ := w.2.2.2.2.2.2.2 x hx hk2 hu
      obtain ⟨a, ha⟩ := Int.eq_ofNat_of_zero_le b1.1
      have hG := g3 x hx hk2 q z a ha
      rw [ha] at b1 b3 ⊢
      rw [Int.toNat_natCast] at b3 ⊢
      obtain ⟨c1, c2⟩ := al_n.mp b1
      have hxs : x ≠ s := fun e => q (by rw [e]; exact gs)
      refine ⟨al2 a c1 hG c2, k, hk3, ?_⟩
      rw [RP_p _ hk3, if_neg hG, b3, if_neg (by omega)]
/-! steps of one tree -/
def inT (t : TV) (s x : Nat) : Prop := ∃ d, (x, d) ∈ pre t 40 1 s
theorem inT_s (w : WF t) : inT t s s := ⟨1, mem_pre.mpr (Or.inl rfl)⟩
theorem inT_al (w : WF t) (hs : s < mk t) (hk : kd t s ≠ -1) {x : Nat} (h : inT t s x) : x < mk t ∧ kd t x ≠ -1 := by
  obtain ⟨d, hd⟩ := h
  exact tr_at (pre_in hd (w.tr' hs hk)).2.2
theorem inT_ch (w : WF t) (hs : s < mk t) (hk : kd t s ≠ -1) {x y : Nat} (h : inT t s x) (hy : y ∈ ch t x) : inT t s y := by
  obtain ⟨d, hd⟩ := h
  exact ⟨d + 1, pre_ch hd (w.tr' hs hk) hy⟩
theorem inT_up (w : WF t) (hs : s < mk t) (hk : kd t s ≠ -1) {x : Nat} (h : inT t s x) : x = s ∨ ∃ a : Nat, up t x = (a : Int) ∧ inT t s a := by
  obtain ⟨d, hd⟩ := h
  rcases pclos hd (w.tr' hs hk) with ⟨e, _⟩ | ⟨y, h1, _, h3⟩
  · exact Or.inl e
  · exact Or.inr ⟨y, h1, _, h3⟩
/-- a tree's first step is no part in it -/
theorem inT_no (w : WF t) (hs : s < mk t) (hk : kd t s ≠ -1) {x : Nat} (h : inT t s x) : s ∉ ch t x := fun hc => by
  obtain ⟨d, hd⟩ := h
  have h2 := pre_ch hd (w.tr' hs hk) hc
  have h3 := congrArg Prod.snd (pw_mem (pre_nodup (w.tr' hs hk)) h2 (mem_pre.mpr (Or.inl rfl)) rfl)
  have h3 : d + 1 = 1 := h3
  have := (pre_in hd (w.tr' hs hk)).1
  omega
noncomputable def GS (t : TV) (s p : Nat) : Nat → Bool := fun x => dC (inT t s x ∧ ¬ inT t p x)
theorem GS_at {x : Nat} : GS t s p x = true ↔ inT t s x ∧ ¬ inT t p x := dC_iff
/-- what may take a place: a part, or a loose step without parts -/
def TP (t : TV) (s p : Nat) : Prop := (s < mk t ∧ kd t s ≠ -1) ∧ (p < mk t ∧ kd t p ≠ -1) ∧ (p ∈ ch t s ∨ (lo t (p : Int) ∧ ch t p = [] ∧ p ≠ s))
theorem TP.ps (w : WF t) (h : TP t s p) : ¬ inT t p s ∧ p ≠ s := by
  obtain ⟨⟨s1, s2⟩, ⟨p1, p2⟩, h⟩ := h
  rcases h with h | ⟨h1, h2, h3⟩
  · refine ⟨fun ⟨d, hd⟩ => nin 40 s (w.tr' s1 s2) p h 40 1 d (w.tr' p1 p2) hd, fun e => ?_⟩
    have := rk_ch w s1 s2 h
    rw [e] at this
    omega
  · refine ⟨fun ⟨d, hd⟩ => ?_, h3⟩
    rcases mem_pre.mp hd with e | ⟨c', hc, _⟩
    · exact h3 (congrArg Prod.fst e).symm
    · rw [h2] at hc
      cases hc
theorem TP.pc (w : WF t) (h : TP t s p) : PC t s p (GS t s p) := by
  have hps := h.ps w
  obtain ⟨⟨s1, s2⟩, ⟨p1, p2⟩, hc⟩ := h
  have upx : ∀ {x y : Nat}, x < mk t → kd t x ≠ -1 → y ∈ ch t x → up t y = (x : Int) := fun h1 h2 h3 => tr_up (w.tr' h1 h2) h3
  have upc : ∀ {x a : Nat}, x < mk t → kd t x ≠ -1 → up t x = (a : Int) → a < mk t ∧ kd t a ≠ -1 ∧ x ∈ ch t a := fun {x a} h1 h2 h3 => by
    rcases up_al w (al_n.mpr ⟨h1, h2⟩) with q | ⟨q1, q2⟩
    · rw [upI_at h1] at q
      omega
    · rw [upI_at h1, h3] at q1 q2
      obtain ⟨c1, c2⟩ := al_n.mp q1
      exact ⟨c1, c2, by simpa using q2⟩
  have pnb : ∀ r, r < rt t → bd t r ≠ (p : Int) := fun r hr e => by
    rcases hc with q | ⟨q, _⟩
    · have hu := upx s1 s2 q
      obtain ⟨_, _, h4⟩ := w.2.2.1 r hr
      rw [e] at h4
      rcases h4 with h4 | h4
      · omega
      · have := h4.2
        rw [Int.toNat_natCast] at this
        omega
    · exact owF_none q.2.2 r (Nat.zero_le _) (by omega) e
  refine ⟨⟨s1, s2⟩, ⟨p1, p2⟩, GS_at.mpr ⟨inT_s w, hps.1⟩, fun e => (GS_at.mp e).2 (inT_s w), fun x hx => inT_al w s1 s2 (GS_at.mp hx).1, fun x h1 h2 h3 y hy hys e => ?_, fun x h1 h2 h3 hxp a ha e => ?_, ?_, fun r hr z hz hzs e => ?_, fun x h1 h2 hpx => ?_, pnb, fun a ha e => ?_⟩
  · obtain ⟨e1, e2⟩ := GS_at.mp e
    rcases inT_up w s1 s2 e1 with q | ⟨a, q1, q2⟩
    · exact hys q
    · have hxa : a = x := by
        have := upx h1 h2 hy
        omega
      subst hxa
      exact h3 (GS_at.mpr ⟨q2, fun z => e2 (inT_ch w p1 p2 z hy)⟩)
  · obtain ⟨e1, e2⟩ := GS_at.mp e
    obtain ⟨_, _, hxa⟩ := upc h1 h2 ha
    have h5 : inT t p x := Classical.byContradiction fun z => h3 (GS_at.mpr ⟨inT_ch w s1 s2 e1 hxa, z⟩)
    rcases inT_up w p1 p2 h5 with q | ⟨b, q1, q2⟩
    · exact hxp q
    · have : b = a := by omega
      rw [this] at q2
      exact e2 q2
  · rcases hc with q | ⟨q1, q2, _⟩
    · exact Nat.le_of_lt (rk_ch w s1 s2 q)
    · have h1 := rk_le w p1 p2 (m := 0) (fun c hc => by rw [q2] at hc; cases hc)
      have h2 := rk_pos w s1 s2
      omega
  · obtain ⟨e1, _⟩ := GS_at.mp e
    rcases inT_up w s1 s2 e1 with q | ⟨a, q1, q2⟩
    · exact hzs q
    · obtain ⟨_, _, h4⟩ := w.2.2.1 r hr
      rw [hz] at h4
      rcases h4 with h4 | h4
      · omega
      · have := h4.2
        rw [Int.toNat_natCast] at this
        omega
  · have hu := upx h1 h2 hpx
    rcases hc with q | ⟨q, _⟩
    · have := upx s1 s2 q
      have : x = s := by omega
      rw [this]
      exact GS_at.mpr ⟨inT_s w, hps.1⟩
    · have := q.2.1
      rw [upI_at p1] at this
      omega
  · obtain ⟨e1, _⟩ := GS_at.mp e
    obtain ⟨_, _, hsa⟩ := upc s1 s2 ha
    exact inT_no w s1 s2 e1 hsa
/-- the place is taken, nothing is gone yet -/
def TT (t : TV) (s p : Nat) : TV := (fun r j => if r = 5 then (if t.1 5 j = (s : Int) then (p : Int) else t.1 5 j) else if r = 3 then (if j = p then t.1 3 s else if j = s then -4 else t.1 3 j) else if r = 2 then (if j / 3 = s ∧ t.1 2 j = (p : Int) then -4 else if up t s ≠ -4 ∧ j / 3 = (up t s).toNat ∧ t.1 2 j = (s : Int) then (p : Int) else t.1 2 j) else t.1 r j, t.2)
theorem TT_2 (j : Nat) : (TT t s p).1 2 j = if j / 3 = s ∧ t.1 2 j = (p : Int) then -4 else if up t s ≠ -4 ∧ j / 3 = (up t s).toNat ∧ t.1 2 j = (s : Int) then (p : Int) else t.1 2 j := rfl
theorem TT_u (j : Nat) : up (TT t s p) j = if j = p then up t s else if j = s then -4 else up t j := rfl
theorem TT_p {x k : Nat} (hk : k < 3) : pt (TT t s p) x k = if x = s ∧ pt t x k = (p : Int) then -4 else if up t s ≠ -4 ∧ x = (up t s).toNat ∧ pt t x k = (s : Int) then (p : Int) else pt t x k := by
  show (TT t s p).1 2 (3 * x + k) = _
  rw [TT_2, show (3 * x + k) / 3 = x by omega]
theorem eT_c (D : List (Nat × Nat)) (q : Nat × Nat) (t : TV) : eT t (q :: D) = eT (clr t q.1 (-1) 0) D := rfl
theorem eT_at : ∀ (D : List (Nat × Nat)) (t : TV), (∀ j, (eT t D).1 0 j = if dC (∃ d, (j, d) ∈ D) = true then -1 else t.1 0 j) ∧ (∀ j, (eT t D).1 1 j = if dC (∃ d, (j, d) ∈ D) = true then 0 else t.1 1 j) ∧ (∀ j, (eT t D).1 3 j = if dC (∃ d, (j, d) ∈ D) = true then -4 else t.1 3 j) ∧ (∀ j, (eT t D).1 2 j = if dC (∃ d, (j / 3, d) ∈ D) = true then -4 else t.1 2 j) ∧ ∀ r j, 4 ≤ r → (eT t D).1 r j = t.1 r j
  | [], t => by
    have e : ∀ j : Nat, dC (∃ d, (j, d) ∈ ([] : List (Nat × Nat))) ≠ true := fun j q => by
      obtain ⟨d, hd⟩ := dC_iff.mp q
      cases hd
    exact ⟨fun j => by rw [if_neg (e j)]; rfl, fun j => by rw [if_neg (e j)]; rfl, fun j => by rw [if_neg (e j)]; rfl, fun j => by rw [if_neg (e (j / 3))]; rfl, fun _ _ _ => rfl⟩
  | q :: D, t => by
    obtain ⟨h0, h1, h3, h2, h4⟩ := eT_at D (clr t q.1 (-1) 0)
    have e : ∀ j : Nat, dC (∃ d, (j, d) ∈ q :: D) = true ↔ j = q.1 ∨ dC (∃ d, (j, d) ∈ D) = true := fun j => by
      rw [dC_iff, dC_iff]
      constructor
      · rintro ⟨d, hd⟩
        rcases List.mem_cons.mp hd with z | z
        · exact Or.inl (congrArg Prod.fst z)
        · exact Or.inr ⟨d, z⟩
      · rintro (z | ⟨d, hd⟩)
        · exact ⟨q.2, by rw [z]; exact List.mem_cons_self⟩
        · exact ⟨d, List.mem_cons_of_mem _ hd⟩
    refine ⟨fun j => ?_, fun j => ?_, fun j => ?_, fun j => ?_, fun r j hr => ?_⟩
    · rw [eT_c, h0, clr_at]
      by_cases z : dC (∃ d, (j, d) ∈ D) = true
      · rw [if_pos z, if_pos ((e j).mpr (Or.inr z))]
      · rw [if_neg z]
        by_cases z2 : j = q.1
        · rw [if_pos ⟨rfl, z2⟩, if_pos ((e j).mpr (Or.inl z2))]
        · rw [if_neg (fun y => z2 y.2), if_neg (by omega), if_neg (by omega), if_neg (by omega), if_neg (fun y => ((e j).mp y).elim z2 z)]
    · rw [eT_c, h1, clr_at]
      by_cases z : dC (∃ d, (j, d) ∈ D) = true
      · rw [if_pos z, if_pos ((e j).mpr (Or.inr z))]
      · rw [if_neg z, if_neg (by omega)]
        by_cases z2 : j = q.1
        · rw [if_pos ⟨rfl, z2⟩, if_pos ((e j).mpr (Or.inl z2))]
        · rw [if_neg (fun y => z2 y.2), if_neg (by omega), if_neg (by omega), if_neg (fun y => ((e j).mp y).elim z2 z)]
    · rw [eT_c, h3, clr_at]
      by_cases z : dC (∃ d, (j, d) ∈ D) = true
      · rw [if_pos z, if_pos ((e j).mpr (Or.inr z))]
      · rw [if_neg z, if_neg (by omega), if_neg (by omega)]
        by_cases z2 : j = q.1
        · rw [if_pos ⟨rfl, z2⟩, if_pos ((e j).mpr (Or.inl z2))]
        · rw [if_neg (fun y => z2 y.2), if_neg (by omega), if_neg (fun y => ((e j).mp y).elim z2 z)]
    · rw [eT_c, h2, clr_at]
      by_cases z : dC (∃ d, (j / 3, d) ∈ D) = true
      · rw [if_pos z, if_pos ((e (j / 3)).mpr (Or.inr z))]
      · rw [if_neg z, if_neg (by omega), if_neg (by omega), if_neg (by omega)]
        by_cases z2 : j / 3 = q.1
        · rw [if_pos ⟨rfl, z2⟩, if_pos ((e (j / 3)).mpr (Or.inl z2))]
        · rw [if_neg (fun y => z2 y.2), if_neg (fun y => ((e (j / 3)).mp y).elim z2 z)]
    · rw [eT_c, h4 r j hr, clr_at, if_neg (by omega), if_neg (by omega), if_neg (by omega), if_neg (by omega)]
/-- what is left of it gone, it is the state with the place taken -/
theorem te_RP (w : WF t) (h : TP t s p) {D : List (Nat × Nat)} (hD : ∀ x, (∃ d, (x, d) ∈ D) ↔ GS t s p x = true) : TE (eT (TT t s p) D) (RP t s p (GS t s p)) := by
  obtain ⟨⟨s1, s2⟩, ⟨p1, p2⟩, gs, gp, g1, g2, g3, g4, g5, g6, g7, g8⟩ := h.pc w
  have hps : p ≠ s := (h.ps w).2
  obtain ⟨e0, e1, e3, e2, e4⟩ := eT_at D (TT t s p)
  have hg : ∀ x, (dC (∃ d, (x, d) ∈ D) = true) = (GS t s p x = true) := fun x => propext (dC_iff.trans (hD x))
  have em : (eT (TT t s p) D).2 = t.2 := eT_2 D _
  refine ⟨by show (t.2).1 = (eT (TT t s p) D).2.1; rw [em], by show (t.2).2 = (eT (TT t s p) D).2.2; rw [em], fun x hx => ⟨?_, ?_, ?_⟩, fun j hj => ?_, fun r hr => ⟨?_, ?_⟩⟩
  · show kd (RP t s p (GS t s p)) x = (eT (TT t s p) D).1 0 x
    rw [RP_k, e0]
    simp only [hg]
    rfl
  · show nm (RP t s p (GS t s p)) x = (eT (TT t s p) D).1 1 x
    rw [RP_n, e1]
    simp only [hg]
    rfl
  · show up (RP t s p (GS t s p)) x = (eT (TT t s p) D).1 3 x
    rw [RP_u, e3]
    simp only [hg]
    by_cases q : GS t s p x = true
    · rw [if_pos q, if_pos q]
    · rw [if_neg q, if_neg q]
      show _ = up (TT t s p) x
      rw [TT_u]
      by_cases z : x = p
      · rw [if_pos z, if_pos z]
      · rw [if_neg z, if_neg z, if_neg (fun e => q (by rw [e]; exact gs))]
  · rw [RP_2, e2]
    simp only [hg]
    have hj3 : j / 3 < mk t := by
      have hj : j < 3 * (eT (TT t s p) D).2.1 := hj
      rw [em] at hj
      have : (t.2).1 = mk t := rfl
      omega
    by_cases q : GS t s p (j / 3) = true
    · rw [if_pos q, if_pos q]
    · rw [if_neg q, if_neg q, TT_2, if_neg (show ¬ (j / 3 = s ∧ t.1 2 j = (p : Int)) from fun z => q (by rw [z.1]; exact gs))]
      by_cases z : t.1 2 j = (s : Int)
      · have e3' : t.1 2 j = pt t (j / 3) (j % 3) := by
          show _ = t.1 2 (3 * (j / 3) + j % 3)
          rw [show 3 * (j / 3) + j % 3 = j by omega]
        have hk1 : kd t (j / 3) ≠ -1 := fun e => by
          have := ((w.2.2.2.2.1 (j / 3) hj3).2.2 e).2.2 (j % 3) (by omega)
          omega
        have hu : up t s = ((j / 3 : Nat) : Int) := by
          rcases w.lk hj3 hk1 (j % 3) (by omega) with q | ⟨_, q, _⟩
          · omega
          · rw [← e3', z, Int.toNat_natCast] at q
            exact q
        rw [if_pos z, if_pos ⟨by omega, by omega, z⟩]
      · rw [if_neg z, if_neg (fun y => z y.2.2)]
  · show pr t r = (eT (TT t s p) D).1 4 r
    rw [e4 4 r (by decide)]
    rfl
  · show bd (RP t s p (GS t s p)) r = (eT (TT t s p) D).1 5 r
    rw [e4 5 r (by decide)]
    rfl
end RPL
