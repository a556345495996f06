theorem sX9_in_0 {v low high : Int} {h : Hp} {Post : Int → Hp → Prop}
    (K : (((b_lcmp v low) < 0) → Post 0 h) ∧ ((¬ (b_lcmp v low) < 0) → ((0 < (b_lcmp v high)) → Post 0 h) ∧ ((¬ 0 < (b_lcmp v high)) → Post 1 h))) :
    Cl shM mX9_in [pL v, pL low, pL high] h Post := by
  show Ok shM 0 0 mX9_in 0 [some (pL v), none, some (pL low), none, some (pL high), none] [] h Post
  refine Ok.lload_n (pc' := 1) rfl dX9_in_0 rfl ?_
  refine Ok.lload_n (pc' := 2) rfl dX9_in_1 rfl ?_
  refine Ok.lcmp (pc' := 3) dX9_in_2 rfl ?_
  refine Ok.if_lt (tgt := 17) dX9_in_3 rfl rfl (fun c1 => ?_) (fun c1 => ?_)
  · replace K := K.1 c1
    refine Ok.iconst (pc' := 18) in_0 dX9_in_17 rfl ?_
    exact Ok.zret dX9_in_18 rfl (by decide) (Or.inl rfl) K
  · replace K := K.2 c1
    refine Ok.lload_n (pc' := 7) rfl dX9_in_6 rfl ?_
    refine Ok.lload (pc' := 9) rfl dX9_in_7 rfl ?_
    refine Ok.lcmp (pc' := 10) dX9_in_9 rfl ?_
    refine Ok.if_gt (tgt := 17) dX9_in_10 rfl rfl (fun c2 => ?_) (fun c2 => ?_)
    · replace K := K.1 c2
      refine Ok.iconst (pc' := 18) in_0 dX9_in_17 rfl ?_
      exact Ok.zret dX9_in_18 rfl (by decide) (Or.inl rfl) K
    · replace K := K.2 c2
      refine Ok.iconst (pc' := 14) in_1 dX9_in_13 rfl ?_
      refine Ok.goto (tgt := 18) dX9_in_14 rfl ?_
      exact Ok.zret dX9_in_18 rfl (by decide) (Or.inr rfl) K
theorem sX9_partsOf_0 {step : Int} {h : Hp} {Post : Int → Hp → Prop}
    (K : ∃ k1 : Nat, step = (k1 : Int) ∧ k1 < 600 ∧ (((h.1 1 k1 = (-1) ∨ h.1 1 k1 = 0 ∨ h.1 1 k1 = 1) → Post 0 h) ∧ ((h.1 1 k1 = 3) → Post 3 h) ∧ ((h.1 1 k1 = 4 ∨ h.1 1 k1 = 7 ∨ h.1 1 k1 = 9 ∨ h.1 1 k1 = 11) → Post 1 h) ∧ ((h.1 1 k1 = 6) → ∃ k3 : Nat, h.1 2 k1 = (k3 : Int) ∧ k3 < 10 ∧ (Post (h.1 6 k3) h)) ∧ ((h.1 1 k1 < (-1) ∨ 11 < h.1 1 k1 ∨ h.1 1 k1 = 2 ∨ h.1 1 k1 = 5 ∨ h.1 1 k1 = 8 ∨ h.1 1 k1 = 10) → Post 2 h))) :
    Cl shM mX9_partsOf [pR 0, pI step] h Post := by
  show Ok shM 0 0 mX9_partsOf 0 [some (pR 0), some (pI step)] [] h Post
  refine Ok.aload_n (pc' := 1) rfl dX9_partsOf_0 rfl ?_
  refine Ok.getR (pc' := 4) (k := 1) dX9_partsOf_1 rfl (shM_0 _) rfl inX9 (by decide) rfl wd_982 rfl ?_
  refine Ok.iload_n (pc' := 5) rfl dX9_partsOf_4 rfl ?_
  obtain ⟨k1, e1, q1, K⟩ := K
  refine Ok.iald (pc' := 6) (z := h.1 1 k1) dX9_partsOf_5 rfl (shM_1 _) (by decide) e1 q1 rfl ?_
  obtain ⟨Kc2_0, Kc2_1, Kc2_2, Kc2_3, Kc2_4⟩ := K
  refine Ok.tsw dX9_partsOf_6 rfl ⟨by decide, by decide⟩ (fun tgt ht => ?_)
  have hx : (h.1 1 k1 = (-1) ∨ h.1 1 k1 = 0 ∨ h.1 1 k1 = 1) ∨ (h.1 1 k1 = 3) ∨ (h.1 1 k1 = 4 ∨ h.1 1 k1 = 7 ∨ h.1 1 k1 = 9 ∨ h.1 1 k1 = 11) ∨ (h.1 1 k1 = 6) ∨ (h.1 1 k1 < (-1) ∨ 11 < h.1 1 k1 ∨ h.1 1 k1 = 2 ∨ h.1 1 k1 = 5 ∨ h.1 1 k1 = 8 ∨ h.1 1 k1 = 10) := by omega
  rcases hx with c2 | c2 | c2 | c2 | c2
  · obtain rfl : 72 = tgt := by rcases c2 with q | q | q <;> (rw [q] at ht; exact Int.ofNat.inj ht)
    have K := Kc2_0 c2
    refine Ok.iconst (pc' := 73) in_0 dX9_partsOf_72 rfl ?_
    exact Ok.iret dX9_partsOf_73 rfl (by decide) K
  · obtain rfl : 76 = tgt := by rw [c2] at ht; exact Int.ofNat.inj ht
    have K := Kc2_1 c2
    refine Ok.iconst (pc' := 77) in_3 dX9_partsOf_76 rfl ?_
    exact Ok.iret dX9_partsOf_77 rfl (by decide) K
  · obtain rfl : 74 = tgt := by rcases c2 with q | q | q | q <;> (rw [q] at ht; exact Int.ofNat.inj ht)
    have K := Kc2_2 c2
    refine Ok.iconst (pc' := 75) in_1 dX9_partsOf_74 rfl ?_
    exact Ok.iret dX9_partsOf_75 rfl (by decide) K
  · obtain rfl : 78 = tgt := by rw [c2] at ht; exact Int.ofNat.inj ht
    have K := Kc2_3 c2
    refine Ok.aload_n (pc' := 79) rfl dX9_partsOf_78 rfl ?_
    refine Ok.getR (pc' := 82) (k := 7) dX9_partsOf_79 rfl (shM_0 _) rfl inX9 (by decide) rfl wd_988 rfl ?_
    refine Ok.aload_n (pc' := 83) rfl dX9_partsOf_82 rfl ?_
    refine Ok.getR (pc' := 86) (k := 2) dX9_partsOf_83 rfl (shM_0 _) rfl inX9 (by decide) rfl wd_983 rfl ?_
    refine Ok.iload_n (pc' := 87) rfl dX9_partsOf_86 rfl ?_
    refine Ok.iald (pc' := 88) (z := h.1 2 k1) dX9_partsOf_87 rfl (shM_2 _) (by decide) e1 q1 rfl ?_
    obtain ⟨k3, e3, q3, K⟩ := K
    refine Ok.iald (pc' := 89) (z := h.1 6 k3) dX9_partsOf_88 rfl (shM_6 _) (by decide) e3 q3 rfl ?_
    exact Ok.iret dX9_partsOf_89 rfl (by decide) K
  · obtain rfl : 90 = tgt := by
      rcases c2 with q | q | q | q | q | q
      · rw [swT_out (Or.inl q)] at ht; exact Int.ofNat.inj ht
      · rw [swT_out (Or.inr q)] at ht; exact Int.ofNat.inj ht
      · rw [q] at ht; exact Int.ofNat.inj ht
      · rw [q] at ht; exact Int.ofNat.inj ht
      · rw [q] at ht; exact Int.ofNat.inj ht
      · rw [q] at ht; exact Int.ofNat.inj ht
    have K := Kc2_4 c2
    refine Ok.iconst (pc' := 91) in_2 dX9_partsOf_90 rfl ?_
    exact Ok.iret dX9_partsOf_91 rfl (by decide) K
theorem sX9_goes_0 {root : Int} {h : Hp} {Post : Int → Hp → Prop}
    (K : ∃ k1 : Nat, root = (k1 : Int) ∧ k1 < 600 ∧ (Ok shM 0 0 mX9_goes 18 [some (pR 0), none, some (pI 0), some (pI 1), none, none] [] (hA (hA h 11 0 root) 10 k1 1) Post)) :
    Cl shM mX9_goes [pR 0, pI root] h Post := by
  show Ok shM 0 0 mX9_goes 0 [some (pR 0), some (pI root), none, none, none, none] [] h Post
  refine Ok.iconst (pc' := 1) in_0 dX9_goes_0 rfl ?_
  refine Ok.istore_n (pc' := 2) (ls' := [some (pR 0), some (pI root), some (pI 0), none, none, none]) dX9_goes_1 rfl (by decide) rfl rfl ?_
  refine Ok.iconst (pc' := 3) in_1 dX9_goes_2 rfl ?_
  refine Ok.istore_n (pc' := 4) (ls' := [some (pR 0), some (pI root), some (pI 0), some (pI 1), none, none]) dX9_goes_3 rfl (by decide) rfl rfl ?_
  refine Ok.aload_n (pc' := 5) rfl dX9_goes_4 rfl ?_
  refine Ok.getR (pc' := 8) (k := 12) dX9_goes_5 rfl (shM_0 _) rfl inX9 (by decide) rfl wd_993 rfl ?_
  refine Ok.iconst (pc' := 9) in_0 dX9_goes_8 rfl ?_
  refine Ok.iload_n (pc' := 10) rfl dX9_goes_9 rfl ?_
  refine Ok.iast (pc' := 11) dX9_goes_10 rfl (shM_11 _) (by decide) rfl (by decide) ?_
  refine Ok.aload_n (pc' := 12) rfl dX9_goes_11 rfl ?_
  refine Ok.getR (pc' := 15) (k := 11) dX9_goes_12 rfl (shM_0 _) rfl inX9 (by decide) rfl wd_992 rfl ?_
  refine Ok.iload_n (pc' := 16) rfl dX9_goes_15 rfl ?_
  refine Ok.iconst (pc' := 17) in_1 dX9_goes_16 rfl ?_
  obtain ⟨k1, e1, q1, K⟩ := K
  refine Ok.iast (pc' := 18) dX9_goes_17 rfl (shM_10 _) (by decide) e1 q1 ?_
  exact Ok.fl (ls' := [some (pR 0), none, some (pI 0), some (pI 1), none, none]) K ⟨rfl, rfl, rfl, trivial⟩
theorem sX9_goes_18 {v2 v3 : Int} {h : Hp} {Post : Int → Hp → Prop}
    (K : ((v3 ≤ 0) → Post v2 h) ∧ ((¬ v3 ≤ 0) → inR ((v3 + (-1))) ∧ (∃ k3 : Nat, (v3 + (-1)) = (k3 : Int) ∧ k3 < 1300 ∧ (∃ k4 : Nat, v2 = (k4 : Int) ∧ k4 < 600 ∧ (inR ((v2 + 1)) ∧ (Cl shM mX9_partsOf [pR 0, pI (h.1 11 k3)] (hA h 9 k4 (h.1 11 k3)) (fun r1 h1 => inR ((r1 - 1)) ∧ (Ok shM 0 0 mX9_goes 54 [some (pR 0), none, some (pI (v2 + 1)), some (pI (v3 + (-1))), some (pI (h.1 11 k3)), some (pI (r1 - 1))] [] h1 Post)))))))) :
    Ok shM 0 0 mX9_goes 18 [some (pR 0), none, some (pI v2), some (pI v3), none, none] [] h Post := by
  show Ok shM 0 0 mX9_goes 18 [some (pR 0), none, some (pI v2), some (pI v3), none, none] [] h Post
  refine Ok.iload_n (pc' := 19) rfl dX9_goes_18 rfl ?_
  refine Ok.if_le (tgt := 109) dX9_goes_19 rfl rfl (fun c1 => ?_) (fun c1 => ?_)
  · replace K := K.1 c1
    refine Ok.iload_n (pc' := 110) rfl dX9_goes_109 rfl ?_
    exact Ok.iret dX9_goes_110 rfl (by decide) K
  · replace K := K.2 c1
    obtain ⟨q2, K⟩ := K
    refine Ok.iinc (pc' := 25) (ls' := [some (pR 0), none, some (pI v2), some (pI (v3 + (-1))), none, none]) dX9_goes_22 rfl rfl (by decide) rfl rfl q2 ?_
    refine Ok.aload_n (pc' := 26) rfl dX9_goes_25 rfl ?_
    refine Ok.getR (pc' := 29) (k := 12) dX9_goes_26 rfl (shM_0 _) rfl inX9 (by decide) rfl wd_993 rfl ?_
    refine Ok.iload_n (pc' := 30) rfl dX9_goes_29 rfl ?_
    obtain ⟨k3, e3, q3, K⟩ := K
    refine Ok.iald (pc' := 31) (z := h.1 11 k3) dX9_goes_30 rfl (shM_11 _) (by decide) e3 q3 rfl ?_
    refine Ok.istore (pc' := 33) (ls' := [some (pR 0), none, some (pI v2), some (pI (v3 + (-1))), some (pI (h.1 11 k3)), none]) dX9_goes_31 rfl (by decide) rfl rfl ?_
    refine Ok.aload_n (pc' := 34) rfl dX9_goes_33 rfl ?_
    refine Ok.getR (pc' := 37) (k := 10) dX9_goes_34 rfl (shM_0 _) rfl inX9 (by decide) rfl wd_991 rfl ?_
    refine Ok.iload_n (pc' := 38) rfl dX9_goes_37 rfl ?_
    refine Ok.iload (pc' := 40) rfl dX9_goes_38 rfl ?_
    obtain ⟨k4, e4, q4, K⟩ := K
    refine Ok.iast (pc' := 41) dX9_goes_40 rfl (shM_9 _) (by decide) e4 q4 ?_
    obtain ⟨q5, K⟩ := K
    refine Ok.iinc (pc' := 44) (ls' := [some (pR 0), none, some (pI (v2 + 1)), some (pI (v3 + (-1))), some (pI (h.1 11 k3)), none]) dX9_goes_41 rfl rfl (by decide) rfl rfl q5 ?_
    refine Ok.aload_n (pc' := 45) rfl dX9_goes_44 rfl ?_
    refine Ok.iload (pc' := 47) rfl dX9_goes_45 rfl ?_
    refine Ok.callV (pc' := 50) (av := [pI (h.1 11 k3)]) (rest := []) dX9_goes_47 rfl (by decide) cvX9_goes_96 (shM_0 _) rfl rfl rfl (leb rfl) (leb rfl) K (fun r1 h1 K => ?_)
    show Ok shM 0 0 mX9_goes 50 [some (pR 0), none, some (pI (v2 + 1)), some (pI (v3 + (-1))), some (pI (h.1 11 k3)), none] [pI r1] h1 Post
    refine Ok.iconst (pc' := 51) in_1 dX9_goes_50 rfl ?_
    obtain ⟨q6, K⟩ := K
    refine Ok.isub (pc' := 52) dX9_goes_51 rfl q6 ?_
    refine Ok.istore (pc' := 54) (ls' := [some (pR 0), none, some (pI (v2 + 1)), some (pI (v3 + (-1))), some (pI (h.1 11 k3)), some (pI (r1 - 1))]) dX9_goes_52 rfl (by decide) rfl rfl ?_
    exact K
theorem sX9_goes_54 {v2 v3 v4 v5 : Int} {h : Hp} {Post : Int → Hp → Prop}
    (K : ((v5 < 0) → Ok shM 0 0 mX9_goes 18 [some (pR 0), none, some (pI v2), some (pI v3), none, none] [] h Post) ∧ ((¬ v5 < 0) → inR ((3 * v4)) ∧ (inR (((3 * v4) + v5)) ∧ (∃ k4 : Nat, ((3 * v4) + v5) = (k4 : Int) ∧ k4 < 1800 ∧ (∃ k5 : Nat, v3 = (k5 : Int) ∧ k5 < 1300 ∧ (∃ k6 : Nat, v4 = (k6 : Int) ∧ k6 < 600 ∧ (inR ((h.1 10 k6 + 1)) ∧ (∃ k8 : Nat, (hA h 11 k5 (h.1 3 k4)).1 11 k5 = (k8 : Int) ∧ k8 < 600 ∧ (inR ((v3 + 1)) ∧ (inR ((v5 + (-1))) ∧ (Ok shM 0 0 mX9_goes 54 [some (pR 0), none, some (pI v2), some (pI (v3 + 1)), some (pI v4), some (pI (v5 + (-1)))] [] (hA (hA h 11 k5 (h.1 3 k4)) 10 k8 (h.1 10 k6 + 1)) Post))))))))))) :
    Ok shM 0 0 mX9_goes 54 [some (pR 0), none, some (pI v2), some (pI v3), some (pI v4), some (pI v5)] [] h Post := by
  show Ok shM 0 0 mX9_goes 54 [some (pR 0), none, some (pI v2), some (pI v3), some (pI v4), some (pI v5)] [] h Post
  refine Ok.iload (pc' := 56) rfl dX9_goes_54 rfl ?_
  refine Ok.if_lt (tgt := 106) dX9_goes_56 rfl rfl (fun c1 => ?_) (fun c1 => ?_)
  · replace K := K.1 c1
    refine Ok.goto (tgt := 18) dX9_goes_106 rfl ?_
    exact Ok.fl (ls' := [some (pR 0), none, some (pI v2), some (pI v3), none, none]) K ⟨rfl, rfl, rfl, trivial⟩
  · replace K := K.2 c1
    refine Ok.aload_n (pc' := 60) rfl dX9_goes_59 rfl ?_
    refine Ok.getR (pc' := 63) (k := 12) dX9_goes_60 rfl (shM_0 _) rfl inX9 (by decide) rfl wd_993 rfl ?_
    refine Ok.iload_n (pc' := 64) rfl dX9_goes_63 rfl ?_
    refine Ok.aload_n (pc' := 65) rfl dX9_goes_64 rfl ?_
    refine Ok.getR (pc' := 68) (k := 3) dX9_goes_65 rfl (shM_0 _) rfl inX9 (by decide) rfl wd_984 rfl ?_
    refine Ok.iconst (pc' := 69) in_3 dX9_goes_68 rfl ?_
    refine Ok.iload (pc' := 71) rfl dX9_goes_69 rfl ?_
    obtain ⟨q2, K⟩ := K
    refine Ok.imul (pc' := 72) dX9_goes_71 rfl q2 ?_
    refine Ok.iload (pc' := 74) rfl dX9_goes_72 rfl ?_
    obtain ⟨q3, K⟩ := K
    refine Ok.iadd (pc' := 75) dX9_goes_74 rfl q3 ?_
    obtain ⟨k4, e4, q4, K⟩ := K
    refine Ok.iald (pc' := 76) (z := h.1 3 k4) dX9_goes_75 rfl (shM_3 _) (by decide) e4 q4 rfl ?_
    obtain ⟨k5, e5, q5, K⟩ := K
    refine Ok.iast (pc' := 77) dX9_goes_76 rfl (shM_11 _) (by decide) e5 q5 ?_
    refine Ok.aload_n (pc' := 78) rfl dX9_goes_77 rfl ?_
    refine Ok.getR (pc' := 81) (k := 11) dX9_goes_78 rfl (shM_0 _) rfl inX9 (by decide) rfl wd_992 rfl ?_
    refine Ok.aload_n (pc' := 82) rfl dX9_goes_81 rfl ?_
    refine Ok.getR (pc' := 85) (k := 12) dX9_goes_82 rfl (shM_0 _) rfl inX9 (by decide) rfl wd_993 rfl ?_
    refine Ok.iload_n (pc' := 86) rfl dX9_goes_85 rfl ?_
    refine Ok.iald (pc' := 87) (z := (hA h 11 k5 (h.1 3 k4)).1 11 k5) dX9_goes_86 rfl (shM_11 _) (by decide) e5 q5 rfl ?_
    refine Ok.aload_n (pc' := 88) rfl dX9_goes_87 rfl ?_
    refine Ok.getR (pc' := 91) (k := 11) dX9_goes_88 rfl (shM_0 _) rfl inX9 (by decide) rfl wd_992 rfl ?_
    refine Ok.iload (pc' := 93) rfl dX9_goes_91 rfl ?_
    obtain ⟨k6, e6, q6, K⟩ := K
    refine Ok.iald (pc' := 94) (z := h.1 10 k6) dX9_goes_93 rfl (shM_10 _) (by decide) e6 q6 rfl ?_
    refine Ok.iconst (pc' := 95) in_1 dX9_goes_94 rfl ?_
    obtain ⟨q7, K⟩ := K
    refine Ok.iadd (pc' := 96) dX9_goes_95 rfl q7 ?_
    obtain ⟨k8, e8, q8, K⟩ := K
    refine Ok.iast (pc' := 97) dX9_goes_96 rfl (shM_10 _) (by decide) e8 q8 ?_
    obtain ⟨q9, K⟩ := K
    refine Ok.iinc (pc' := 100) (ls' := [some (pR 0), none, some (pI v2), some (pI (v3 + 1)), some (pI v4), some (pI v5)]) dX9_goes_97 rfl rfl (by decide) rfl rfl q9 ?_
    obtain ⟨q10, K⟩ := K
    refine Ok.iinc (pc' := 103) (ls' := [some (pR 0), none, some (pI v2), some (pI (v3 + 1)), some (pI v4), some (pI (v5 + (-1)))]) dX9_goes_100 rfl rfl (by decide) rfl rfl q10 ?_
    refine Ok.goto (tgt := 54) dX9_goes_103 rfl ?_
    exact K
theorem sX9_high_0 {root : Int} {h : Hp} {Post : Int → Hp → Prop}
    (K : Cl shM mX9_goes [pR 0, pI root] h (fun r1 h1 => Ok shM 0 0 mX9_high 11 [some (pR 0), none, some (pI r1), some (pI 0), some (pI 0)] [] h1 Post)) :
    Cl shM mX9_high [pR 0, pI root] h Post := by
  show Ok shM 0 0 mX9_high 0 [some (pR 0), some (pI root), none, none, none] [] h Post
  refine Ok.aload_n (pc' := 1) rfl dX9_high_0 rfl ?_
  refine Ok.iload_n (pc' := 2) rfl dX9_high_1 rfl ?_
  refine Ok.callV (pc' := 5) (av := [pI root]) (rest := []) dX9_high_2 rfl (by decide) cvX9_high_100 (shM_0 _) rfl rfl rfl (leb rfl) (leb rfl) K (fun r1 h1 K => ?_)
  show Ok shM 0 0 mX9_high 5 [some (pR 0), some (pI root), none, none, none] [pI r1] h1 Post
  refine Ok.istore_n (pc' := 6) (ls' := [some (pR 0), some (pI root), some (pI r1), none, none]) dX9_high_5 rfl (by decide) rfl rfl ?_
  refine Ok.iconst (pc' := 7) in_0 dX9_high_6 rfl ?_
  refine Ok.istore_n (pc' := 8) (ls' := [some (pR 0), some (pI root), some (pI r1), some (pI 0), none]) dX9_high_7 rfl (by decide) rfl rfl ?_
  refine Ok.iconst (pc' := 9) in_0 dX9_high_8 rfl ?_
  refine Ok.istore (pc' := 11) (ls' := [some (pR 0), some (pI root), some (pI r1), some (pI 0), some (pI 0)]) dX9_high_9 rfl (by decide) rfl rfl ?_
  exact Ok.fl (ls' := [some (pR 0), none, some (pI r1), some (pI 0), some (pI 0)]) K ⟨rfl, rfl, rfl, rfl, trivial⟩
theorem sX9_high_11 {v2 v3 v4 : Int} {h : Hp} {Post : Int → Hp → Prop}
    (K : ((v2 ≤ v4) → Post v3 h) ∧ ((¬ v2 ≤ v4) → ∃ k2 : Nat, v4 = (k2 : Int) ∧ k2 < 600 ∧ (∃ k3 : Nat, h.1 9 k2 = (k3 : Int) ∧ k3 < 600 ∧ (((h.1 10 k3 ≤ v3) → inR ((v4 + 1)) ∧ (Ok shM 0 0 mX9_high 11 [some (pR 0), none, some (pI v2), some (pI v3), some (pI (v4 + 1))] [] h Post)) ∧ ((¬ h.1 10 k3 ≤ v3) → inR ((v4 + 1)) ∧ (Ok shM 0 0 mX9_high 11 [some (pR 0), none, some (pI v2), some (pI (h.1 10 k3)), some (pI (v4 + 1))] [] h Post)))))) :
    Ok shM 0 0 mX9_high 11 [some (pR 0), none, some (pI v2), some (pI v3), some (pI v4)] [] h Post := by
  show Ok shM 0 0 mX9_high 11 [some (pR 0), none, some (pI v2), some (pI v3), some (pI v4)] [] h Post
  refine Ok.iload (pc' := 13) rfl dX9_high_11 rfl ?_
  refine Ok.iload_n (pc' := 14) rfl dX9_high_13 rfl ?_
  refine Ok.icmp_ge (tgt := 56) dX9_high_14 rfl rfl (fun c1 => ?_) (fun c1 => ?_)
  · replace K := K.1 c1
    refine Ok.iload_n (pc' := 57) rfl dX9_high_56 rfl ?_
    exact Ok.iret dX9_high_57 rfl (by decide) K
  · replace K := K.2 c1
    refine Ok.aload_n (pc' := 18) rfl dX9_high_17 rfl ?_
    refine Ok.getR (pc' := 21) (k := 11) dX9_high_18 rfl (shM_0 _) rfl inX9 (by decide) rfl wd_992 rfl ?_
    refine Ok.aload_n (pc' := 22) rfl dX9_high_21 rfl ?_
    refine Ok.getR (pc' := 25) (k := 10) dX9_high_22 rfl (shM_0 _) rfl inX9 (by decide) rfl wd_991 rfl ?_
    refine Ok.iload (pc' := 27) rfl dX9_high_25 rfl ?_
    obtain ⟨k2, e2, q2, K⟩ := K
    refine Ok.iald (pc' := 28) (z := h.1 9 k2) dX9_high_27 rfl (shM_9 _) (by decide) e2 q2 rfl ?_
    obtain ⟨k3, e3, q3, K⟩ := K
    refine Ok.iald (pc' := 29) (z := h.1 10 k3) dX9_high_28 rfl (shM_10 _) (by decide) e3 q3 rfl ?_
    refine Ok.iload_n (pc' := 30) rfl dX9_high_29 rfl ?_
    refine Ok.icmp_le (tgt := 48) dX9_high_30 rfl rfl (fun c4 => ?_) (fun c4 => ?_)
    · replace K := K.1 c4
      refine Ok.iload_n (pc' := 49) rfl dX9_high_48 rfl ?_
      refine Ok.istore_n (pc' := 50) (ls' := [some (pR 0), none, some (pI v2), some (pI v3), some (pI v4)]) dX9_high_49 rfl (by decide) rfl rfl ?_
      obtain ⟨q5, K⟩ := K
      refine Ok.iinc (pc' := 53) (ls' := [some (pR 0), none, some (pI v2), some (pI v3), some (pI (v4 + 1))]) dX9_high_50 rfl rfl (by decide) rfl rfl q5 ?_
      refine Ok.goto (tgt := 11) dX9_high_53 rfl ?_
      exact K
    · replace K := K.2 c4
      refine Ok.aload_n (pc' := 34) rfl dX9_high_33 rfl ?_
      refine Ok.getR (pc' := 37) (k := 11) dX9_high_34 rfl (shM_0 _) rfl inX9 (by decide) rfl wd_992 rfl ?_
      refine Ok.aload_n (pc' := 38) rfl dX9_high_37 rfl ?_
      refine Ok.getR (pc' := 41) (k := 10) dX9_high_38 rfl (shM_0 _) rfl inX9 (by decide) rfl wd_991 rfl ?_
      refine Ok.iload (pc' := 43) rfl dX9_high_41 rfl ?_
      refine Ok.iald (pc' := 44) (z := h.1 9 k2) dX9_high_43 rfl (shM_9 _) (by decide) e2 q2 rfl ?_
      refine Ok.iald (pc' := 45) (z := h.1 10 k3) dX9_high_44 rfl (shM_10 _) (by decide) e3 q3 rfl ?_
      refine Ok.goto (tgt := 49) dX9_high_45 rfl ?_
      refine Ok.istore_n (pc' := 50) (ls' := [some (pR 0), none, some (pI v2), some (pI (h.1 10 k3)), some (pI v4)]) dX9_high_49 rfl (by decide) rfl rfl ?_
      obtain ⟨q5, K⟩ := K
      refine Ok.iinc (pc' := 53) (ls' := [some (pR 0), none, some (pI v2), some (pI (h.1 10 k3)), some (pI (v4 + 1))]) dX9_high_50 rfl rfl (by decide) rfl rfl q5 ?_
      refine Ok.goto (tgt := 11) dX9_high_53 rfl ?_
      exact K
theorem sX9_isStep_0 {s0 : Int} {h : Hp} {Post : Int → Hp → Prop}
    (K : inR ((h.2.1 0 0 - 1)) ∧ (Cl shM mX9_in [pL s0, pL 0, pL (h.2.1 0 0 - 1)] h (fun r1 h1 => ((r1 = 0) → Post 0 h1) ∧ ((¬ r1 = 0) → ∃ k3 : Nat, s0 = (k3 : Int) ∧ k3 < 600 ∧ (((h1.1 1 k3 = (-1)) → Post 0 h1) ∧ ((¬ h1.1 1 k3 = (-1)) → Post 1 h1)))))) :
    Cl shM mX9_isStep [pR 0, pI s0] h Post := by
  show Ok shM 0 0 mX9_isStep 0 [some (pR 0), some (pI s0)] [] h Post
  refine Ok.iload_n (pc' := 1) rfl dX9_isStep_0 rfl ?_
  refine Ok.i2l (pc' := 2) dX9_isStep_1 rfl ?_
  refine Ok.lconst (n := 0) (pc' := 3) ⟨by decide, by decide⟩ rfl dX9_isStep_2 rfl ?_
  refine Ok.aload_n (pc' := 4) rfl dX9_isStep_3 rfl ?_
  refine Ok.getI (pc' := 7) (z := h.2.1 0 0) (k := 0) dX9_isStep_4 rfl (shM_0 _) rfl inX9 (by decide) rfl rfl wd_981 rfl ?_
  refine Ok.iconst (pc' := 8) in_1 dX9_isStep_7 rfl ?_
  obtain ⟨q1, K⟩ := K
  refine Ok.isub (pc' := 9) dX9_isStep_8 rfl q1 ?_
  refine Ok.i2l (pc' := 10) dX9_isStep_9 rfl ?_
  refine Ok.callS (pc' := 13) (av := [pL s0, pL 0, pL (h.2.1 0 0 - 1)]) (rest := []) dX9_isStep_10 rfl (by decide) cvX9_isStep_103 rfl rfl (leb rfl) (leb rfl) K (fun r1 h1 K => ?_)
  show Ok shM 0 0 mX9_isStep 13 [some (pR 0), some (pI s0)] [pI r1] h1 Post
  refine Ok.if_eq (tgt := 30) dX9_isStep_13 rfl rfl (fun c2 => ?_) (fun c2 => ?_)
  · replace K := K.1 c2
    refine Ok.iconst (pc' := 31) in_0 dX9_isStep_30 rfl ?_
    exact Ok.zret dX9_isStep_31 rfl (by decide) (Or.inl rfl) K
  · replace K := K.2 c2
    refine Ok.aload_n (pc' := 17) rfl dX9_isStep_16 rfl ?_
    refine Ok.getR (pc' := 20) (k := 1) dX9_isStep_17 rfl (shM_0 _) rfl inX9 (by decide) rfl wd_982 rfl ?_
    refine Ok.iload_n (pc' := 21) rfl dX9_isStep_20 rfl ?_
    obtain ⟨k3, e3, q3, K⟩ := K
    refine Ok.iald (pc' := 22) (z := h1.1 1 k3) dX9_isStep_21 rfl (shM_1 _) (by decide) e3 q3 rfl ?_
    refine Ok.iconst (pc' := 23) in_m1 dX9_isStep_22 rfl ?_
    refine Ok.icmp_eq (tgt := 30) dX9_isStep_23 rfl rfl (fun c4 => ?_) (fun c4 => ?_)
    · replace K := K.1 c4
      refine Ok.iconst (pc' := 31) in_0 dX9_isStep_30 rfl ?_
      exact Ok.zret dX9_isStep_31 rfl (by decide) (Or.inl rfl) K
    · replace K := K.2 c4
      refine Ok.iconst (pc' := 27) in_1 dX9_isStep_26 rfl ?_
      refine Ok.goto (tgt := 31) dX9_isStep_27 rfl ?_
      exact Ok.zret dX9_isStep_31 rfl (by decide) (Or.inr rfl) K
theorem sX9_bodyOf_0 {s0 : Int} {h : Hp} {Post : Int → Hp → Prop}
    (K : Ok shM 0 0 mX9_bodyOf 5 [some (pR 0), some (pI s0), some (pI (-4)), some (pI 0)] [] h Post) :
    Cl shM mX9_bodyOf [pR 0, pI s0] h Post := by
  show Ok shM 0 0 mX9_bodyOf 0 [some (pR 0), some (pI s0), none, none] [] h Post
  refine Ok.bipush (pc' := 2) ⟨by decide, by decide⟩ dX9_bodyOf_0 rfl ?_
  refine Ok.istore_n (pc' := 3) (ls' := [some (pR 0), some (pI s0), some (pI (-4)), none]) dX9_bodyOf_2 rfl (by decide) rfl rfl ?_
  refine Ok.iconst (pc' := 4) in_0 dX9_bodyOf_3 rfl ?_
  refine Ok.istore_n (pc' := 5) (ls' := [some (pR 0), some (pI s0), some (pI (-4)), some (pI 0)]) dX9_bodyOf_4 rfl (by decide) rfl rfl ?_
  exact K
theorem sX9_bodyOf_5 {s0 v2 v3 : Int} {h : Hp} {Post : Int → Hp → Prop}
    (K : ((h.2.1 0 6 ≤ v3) → Post v2 h) ∧ ((¬ h.2.1 0 6 ≤ v3) → ∃ k2 : Nat, v3 = (k2 : Int) ∧ k2 < 10 ∧ (((¬ h.1 7 k2 = s0) → inR ((v3 + 1)) ∧ (Ok shM 0 0 mX9_bodyOf 5 [some (pR 0), some (pI s0), some (pI v2), some (pI (v3 + 1))] [] h Post)) ∧ ((h.1 7 k2 = s0) → inR ((v3 + 1)) ∧ (Ok shM 0 0 mX9_bodyOf 5 [some (pR 0), some (pI s0), some (pI v3), some (pI (v3 + 1))] [] h Post))))) :
    Ok shM 0 0 mX9_bodyOf 5 [some (pR 0), some (pI s0), some (pI v2), some (pI v3)] [] h Post := by
  show Ok shM 0 0 mX9_bodyOf 5 [some (pR 0), some (pI s0), some (pI v2), some (pI v3)] [] h Post
  refine Ok.iload_n (pc' := 6) rfl dX9_bodyOf_5 rfl ?_
  refine Ok.aload_n (pc' := 7) rfl dX9_bodyOf_6 rfl ?_
  refine Ok.getI (pc' := 10) (z := h.2.1 0 6) (k := 6) dX9_bodyOf_7 rfl (shM_0 _) rfl inX9 (by decide) rfl rfl wd_987 rfl ?_
  refine Ok.icmp_ge (tgt := 35) dX9_bodyOf_10 rfl rfl (fun c1 => ?_) (fun c1 => ?_)
  · replace K := K.1 c1
    refine Ok.iload_n (pc' := 36) rfl dX9_bodyOf_35 rfl ?_
    exact Ok.iret dX9_bodyOf_36 rfl (by decide) K
  · replace K := K.2 c1
    refine Ok.aload_n (pc' := 14) rfl dX9_bodyOf_13 rfl ?_
    refine Ok.getR (pc' := 17) (k := 8) dX9_bodyOf_14 rfl (shM_0 _) rfl inX9 (by decide) rfl wd_989 rfl ?_
    refine Ok.iload_n (pc' := 18) rfl dX9_bodyOf_17 rfl ?_
    obtain ⟨k2, e2, q2, K⟩ := K
    refine Ok.iald (pc' := 19) (z := h.1 7 k2) dX9_bodyOf_18 rfl (shM_7 _) (by decide) e2 q2 rfl ?_
    refine Ok.iload_n (pc' := 20) rfl dX9_bodyOf_19 rfl ?_
    refine Ok.icmp_ne (tgt := 27) dX9_bodyOf_20 rfl rfl (fun c3 => ?_) (fun c3 => ?_)
    · replace K := K.1 c3
      refine Ok.iload_n (pc' := 28) rfl dX9_bodyOf_27 rfl ?_
      refine Ok.istore_n (pc' := 29) (ls' := [some (pR 0), some (pI s0), some (pI v2), some (pI v3)]) dX9_bodyOf_28 rfl (by decide) rfl rfl ?_
      obtain ⟨q4, K⟩ := K
      refine Ok.iinc (pc' := 32) (ls' := [some (pR 0), some (pI s0), some (pI v2), some (pI (v3 + 1))]) dX9_bodyOf_29 rfl rfl (by decide) rfl rfl q4 ?_
      refine Ok.goto (tgt := 5) dX9_bodyOf_32 rfl ?_
      exact K
    · replace K := K.2 c3
      refine Ok.iload_n (pc' := 24) rfl dX9_bodyOf_23 rfl ?_
      refine Ok.goto (tgt := 28) dX9_bodyOf_24 rfl ?_
      refine Ok.istore_n (pc' := 29) (ls' := [some (pR 0), some (pI s0), some (pI v3), some (pI v3)]) dX9_bodyOf_28 rfl (by decide) rfl rfl ?_
      obtain ⟨q4, K⟩ := K
      refine Ok.iinc (pc' := 32) (ls' := [some (pR 0), some (pI s0), some (pI v3), some (pI (v3 + 1))]) dX9_bodyOf_29 rfl rfl (by decide) rfl rfl q4 ?_
      refine Ok.goto (tgt := 5) dX9_bodyOf_32 rfl ?_
      exact K
theorem sX9_isLoose_0 {s0 : Int} {h : Hp} {Post : Int → Hp → Prop}
    (K : Cl shM mX9_isStep [pR 0, pI s0] h (fun r1 h1 => ((r1 = 0) → Post 0 h1) ∧ ((¬ r1 = 0) → ∃ k2 : Nat, s0 = (k2 : Int) ∧ k2 < 600 ∧ (((¬ h1.1 4 k2 = (-4)) → Post 0 h1) ∧ ((h1.1 4 k2 = (-4)) → Cl shM mX9_bodyOf [pR 0, pI s0] h1 (fun r2 h2 => ((¬ r2 = (-4)) → Post 0 h2) ∧ ((r2 = (-4)) → Post 1 h2))))))) :
    Cl shM mX9_isLoose [pR 0, pI s0] h Post := by
  show Ok shM 0 0 mX9_isLoose 0 [some (pR 0), some (pI s0)] [] h Post
  refine Ok.aload_n (pc' := 1) rfl dX9_isLoose_0 rfl ?_
  refine Ok.iload_n (pc' := 2) rfl dX9_isLoose_1 rfl ?_
  refine Ok.callV (pc' := 5) (av := [pI s0]) (rest := []) dX9_isLoose_2 rfl (by decide) cvX9_isLoose_110 (shM_0 _) rfl rfl rfl (leb rfl) (leb rfl) K (fun r1 h1 K => ?_)
  show Ok shM 0 0 mX9_isLoose 5 [some (pR 0), some (pI s0)] [pI r1] h1 Post
  refine Ok.if_eq (tgt := 33) dX9_isLoose_5 rfl rfl (fun c1 => ?_) (fun c1 => ?_)
  · replace K := K.1 c1
    refine Ok.iconst (pc' := 34) in_0 dX9_isLoose_33 rfl ?_
    exact Ok.zret dX9_isLoose_34 rfl (by decide) (Or.inl rfl) K
  · replace K := K.2 c1
    refine Ok.aload_n (pc' := 9) rfl dX9_isLoose_8 rfl ?_
    refine Ok.getR (pc' := 12) (k := 4) dX9_isLoose_9 rfl (shM_0 _) rfl inX9 (by decide) rfl wd_985 rfl ?_
    refine Ok.iload_n (pc' := 13) rfl dX9_isLoose_12 rfl ?_
    obtain ⟨k2, e2, q2, K⟩ := K
    refine Ok.iald (pc' := 14) (z := h1.1 4 k2) dX9_isLoose_13 rfl (shM_4 _) (by decide) e2 q2 rfl ?_
    refine Ok.bipush (pc' := 16) ⟨by decide, by decide⟩ dX9_isLoose_14 rfl ?_
    refine Ok.icmp_ne (tgt := 33) dX9_isLoose_16 rfl rfl (fun c3 => ?_) (fun c3 => ?_)
    · replace K := K.1 c3
      refine Ok.iconst (pc' := 34) in_0 dX9_isLoose_33 rfl ?_
      exact Ok.zret dX9_isLoose_34 rfl (by decide) (Or.inl rfl) K
    · replace K := K.2 c3
      refine Ok.aload_n (pc' := 20) rfl dX9_isLoose_19 rfl ?_
      refine Ok.iload_n (pc' := 21) rfl dX9_isLoose_20 rfl ?_
      refine Ok.callV (pc' := 24) (av := [pI s0]) (rest := []) dX9_isLoose_21 rfl (by decide) cvX9_isLoose_114 (shM_0 _) rfl rfl rfl (leb rfl) (leb rfl) K (fun r2 h2 K => ?_)
      show Ok shM 0 0 mX9_isLoose 24 [some (pR 0), some (pI s0)] [pI r2] h2 Post
      refine Ok.bipush (pc' := 26) ⟨by decide, by decide⟩ dX9_isLoose_24 rfl ?_
      refine Ok.icmp_ne (tgt := 33) dX9_isLoose_26 rfl rfl (fun c4 => ?_) (fun c4 => ?_)
      · replace K := K.1 c4
        refine Ok.iconst (pc' := 34) in_0 dX9_isLoose_33 rfl ?_
        exact Ok.zret dX9_isLoose_34 rfl (by decide) (Or.inl rfl) K
      · replace K := K.2 c4
        refine Ok.iconst (pc' := 30) in_1 dX9_isLoose_29 rfl ?_
        refine Ok.goto (tgt := 34) dX9_isLoose_30 rfl ?_
        exact Ok.zret dX9_isLoose_34 rfl (by decide) (Or.inr rfl) K
theorem sX9_homeOf_0 {s0 : Int} {h : Hp} {Post : Int → Hp → Prop}
    (K : Ok shM 0 0 mX9_homeOf 2 [some (pR 0), none, some (pI s0)] [] h Post) :
    Cl shM mX9_homeOf [pR 0, pI s0] h Post := by
  show Ok shM 0 0 mX9_homeOf 0 [some (pR 0), some (pI s0), none] [] h Post
  refine Ok.iload_n (pc' := 1) rfl dX9_homeOf_0 rfl ?_
  refine Ok.istore_n (pc' := 2) (ls' := [some (pR 0), some (pI s0), some (pI s0)]) dX9_homeOf_1 rfl (by decide) rfl rfl ?_
  exact Ok.fl (ls' := [some (pR 0), none, some (pI s0)]) K ⟨rfl, rfl, trivial⟩
theorem sX9_homeOf_2 {v2 : Int} {h : Hp} {Post : Int → Hp → Prop}
    (K : ∃ k1 : Nat, v2 = (k1 : Int) ∧ k1 < 600 ∧ (((h.1 4 k1 = (-4)) → Cl shM mX9_bodyOf [pR 0, pI v2] h (fun r1 h1 => Post r1 h1)) ∧ ((¬ h.1 4 k1 = (-4)) → Ok shM 0 0 mX9_homeOf 2 [some (pR 0), none, some (pI (h.1 4 k1))] [] h Post))) :
    Ok shM 0 0 mX9_homeOf 2 [some (pR 0), none, some (pI v2)] [] h Post := by
  show Ok shM 0 0 mX9_homeOf 2 [some (pR 0), none, some (pI v2)] [] h Post
  refine Ok.aload_n (pc' := 3) rfl dX9_homeOf_2 rfl ?_
  refine Ok.getR (pc' := 6) (k := 4) dX9_homeOf_3 rfl (shM_0 _) rfl inX9 (by decide) rfl wd_985 rfl ?_
  refine Ok.iload_n (pc' := 7) rfl dX9_homeOf_6 rfl ?_
  obtain ⟨k1, e1, q1, K⟩ := K
  refine Ok.iald (pc' := 8) (z := h.1 4 k1) dX9_homeOf_7 rfl (shM_4 _) (by decide) e1 q1 rfl ?_
  refine Ok.bipush (pc' := 10) ⟨by decide, by decide⟩ dX9_homeOf_8 rfl ?_
  refine Ok.icmp_eq (tgt := 23) dX9_homeOf_10 rfl rfl (fun c2 => ?_) (fun c2 => ?_)
  · replace K := K.1 c2
    refine Ok.aload_n (pc' := 24) rfl dX9_homeOf_23 rfl ?_
    refine Ok.iload_n (pc' := 25) rfl dX9_homeOf_24 rfl ?_
    refine Ok.callV (pc' := 28) (av := [pI v2]) (rest := []) dX9_homeOf_25 rfl (by decide) cvX9_homeOf_114 (shM_0 _) rfl rfl rfl (leb rfl) (leb rfl) K (fun r1 h1 K => ?_)
    show Ok shM 0 0 mX9_homeOf 28 [some (pR 0), none, some (pI v2)] [pI r1] h1 Post
    exact Ok.iret dX9_homeOf_28 rfl (by decide) K
  · replace K := K.2 c2
    refine Ok.aload_n (pc' := 14) rfl dX9_homeOf_13 rfl ?_
    refine Ok.getR (pc' := 17) (k := 4) dX9_homeOf_14 rfl (shM_0 _) rfl inX9 (by decide) rfl wd_985 rfl ?_
    refine Ok.iload_n (pc' := 18) rfl dX9_homeOf_17 rfl ?_
    refine Ok.iald (pc' := 19) (z := h.1 4 k1) dX9_homeOf_18 rfl (shM_4 _) (by decide) e1 q1 rfl ?_
    refine Ok.istore_n (pc' := 20) (ls' := [some (pR 0), none, some (pI (h.1 4 k1))]) dX9_homeOf_19 rfl (by decide) rfl rfl ?_
    refine Ok.goto (tgt := 2) dX9_homeOf_20 rfl ?_
    exact K
theorem sX9_isRoutine_0 {r : Int} {h : Hp} {Post : Int → Hp → Prop}
    (K : inR ((h.2.1 0 6 - 1)) ∧ (Cl shM mX9_in [pL r, pL 0, pL (h.2.1 0 6 - 1)] h (fun r1 h1 => (r1 = 0 ∨ r1 = 1) ∧ Post r1 h1))) :
    Cl shM mX9_isRoutine [pR 0, pI r] h Post := by
  show Ok shM 0 0 mX9_isRoutine 0 [some (pR 0), some (pI r)] [] h Post
  refine Ok.iload_n (pc' := 1) rfl dX9_isRoutine_0 rfl ?_
  refine Ok.i2l (pc' := 2) dX9_isRoutine_1 rfl ?_
  refine Ok.lconst (n := 0) (pc' := 3) ⟨by decide, by decide⟩ rfl dX9_isRoutine_2 rfl ?_
  refine Ok.aload_n (pc' := 4) rfl dX9_isRoutine_3 rfl ?_
  refine Ok.getI (pc' := 7) (z := h.2.1 0 6) (k := 6) dX9_isRoutine_4 rfl (shM_0 _) rfl inX9 (by decide) rfl rfl wd_987 rfl ?_
  refine Ok.iconst (pc' := 8) in_1 dX9_isRoutine_7 rfl ?_
  obtain ⟨q1, K⟩ := K
  refine Ok.isub (pc' := 9) dX9_isRoutine_8 rfl q1 ?_
  refine Ok.i2l (pc' := 10) dX9_isRoutine_9 rfl ?_
  refine Ok.callS (pc' := 13) (av := [pL r, pL 0, pL (h.2.1 0 6 - 1)]) (rest := []) dX9_isRoutine_10 rfl (by decide) cvX9_isRoutine_103 rfl rfl (leb rfl) (leb rfl) K (fun r1 h1 K => ?_)
  show Ok shM 0 0 mX9_isRoutine 13 [some (pR 0), some (pI r)] [pI r1] h1 Post
  exact Ok.zret dX9_isRoutine_13 rfl (by decide) K.1 K.2
theorem sX9_uses_0 {r : Int} {h : Hp} {Post : Int → Hp → Prop}
    (K : ∃ k1 : Nat, r = (k1 : Int) ∧ k1 < 10 ∧ (((h.1 7 k1 = (-4)) → Post (h.1 6 k1) h) ∧ ((¬ h.1 7 k1 = (-4)) → Cl shM mX9_goes [pR 0, pI (h.1 7 k1)] h (fun r1 h1 => Ok shM 0 0 mX9_uses 32 [some (pR 0), none, some (pI (h.1 6 k1)), some (pI r1), some (pI 0), none, none] [] h1 Post)))) :
    Cl shM mX9_uses [pR 0, pI r] h Post := by
  show Ok shM 0 0 mX9_uses 0 [some (pR 0), some (pI r), none, none, none, none, none] [] h Post
  refine Ok.aload_n (pc' := 1) rfl dX9_uses_0 rfl ?_
  refine Ok.getR (pc' := 4) (k := 7) dX9_uses_1 rfl (shM_0 _) rfl inX9 (by decide) rfl wd_988 rfl ?_
  refine Ok.iload_n (pc' := 5) rfl dX9_uses_4 rfl ?_
  obtain ⟨k1, e1, q1, K⟩ := K
  refine Ok.iald (pc' := 6) (z := h.1 6 k1) dX9_uses_5 rfl (shM_6 _) (by decide) e1 q1 rfl ?_
  refine Ok.istore_n (pc' := 7) (ls' := [some (pR 0), some (pI r), some (pI (h.1 6 k1)), none, none, none, none]) dX9_uses_6 rfl (by decide) rfl rfl ?_
  refine Ok.aload_n (pc' := 8) rfl dX9_uses_7 rfl ?_
  refine Ok.getR (pc' := 11) (k := 8) dX9_uses_8 rfl (shM_0 _) rfl inX9 (by decide) rfl wd_989 rfl ?_
  refine Ok.iload_n (pc' := 12) rfl dX9_uses_11 rfl ?_
  refine Ok.iald (pc' := 13) (z := h.1 7 k1) dX9_uses_12 rfl (shM_7 _) (by decide) e1 q1 rfl ?_
  refine Ok.bipush (pc' := 15) ⟨by decide, by decide⟩ dX9_uses_13 rfl ?_
  refine Ok.icmp_eq (tgt := 114) dX9_uses_15 rfl rfl (fun c2 => ?_) (fun c2 => ?_)
  · replace K := K.1 c2
    refine Ok.iload_n (pc' := 115) rfl dX9_uses_114 rfl ?_
    exact Ok.iret dX9_uses_115 rfl (by decide) K
  · replace K := K.2 c2
    refine Ok.aload_n (pc' := 19) rfl dX9_uses_18 rfl ?_
    refine Ok.aload_n (pc' := 20) rfl dX9_uses_19 rfl ?_
    refine Ok.getR (pc' := 23) (k := 8) dX9_uses_20 rfl (shM_0 _) rfl inX9 (by decide) rfl wd_989 rfl ?_
    refine Ok.iload_n (pc' := 24) rfl dX9_uses_23 rfl ?_
    refine Ok.iald (pc' := 25) (z := h.1 7 k1) dX9_uses_24 rfl (shM_7 _) (by decide) e1 q1 rfl ?_
    refine Ok.callV (pc' := 28) (av := [pI (h.1 7 k1)]) (rest := []) dX9_uses_25 rfl (by decide) cvX9_uses_100 (shM_0 _) rfl rfl rfl (leb rfl) (leb rfl) K (fun r1 h1 K => ?_)
    show Ok shM 0 0 mX9_uses 28 [some (pR 0), some (pI r), some (pI (h.1 6 k1)), none, none, none, none] [pI r1] h1 Post
    refine Ok.istore_n (pc' := 29) (ls' := [some (pR 0), some (pI r), some (pI (h.1 6 k1)), some (pI r1), none, none, none]) dX9_uses_28 rfl (by decide) rfl rfl ?_
    refine Ok.iconst (pc' := 30) in_0 dX9_uses_29 rfl ?_
    refine Ok.istore (pc' := 32) (ls' := [some (pR 0), some (pI r), some (pI (h.1 6 k1)), some (pI r1), some (pI 0), none, none]) dX9_uses_30 rfl (by decide) rfl rfl ?_
    exact Ok.fl (ls' := [some (pR 0), none, some (pI (h.1 6 k1)), some (pI r1), some (pI 0), none, none]) K ⟨rfl, rfl, rfl, rfl, trivial⟩
theorem sX9_uses_32 {v2 v3 v4 : Int} {h : Hp} {Post : Int → Hp → Prop}
    (K : ((v3 ≤ v4) → Post v2 h) ∧ ((¬ v3 ≤ v4) → ∃ k2 : Nat, v4 = (k2 : Int) ∧ k2 < 600 ∧ (∃ k3 : Nat, h.1 9 k2 = (k3 : Int) ∧ k3 < 600 ∧ (((h.1 1 k3 = 1) → inR ((h.1 2 k3 + 1)) ∧ ((((h.1 2 k3 + 1) ≤ v2) → inR ((v4 + 1)) ∧ (Ok shM 0 0 mX9_uses 32 [some (pR 0), none, some (pI v2), some (pI v3), some (pI (v4 + 1)), none, none] [] h Post)) ∧ ((¬ (h.1 2 k3 + 1) ≤ v2) → inR ((v4 + 1)) ∧ (Ok shM 0 0 mX9_uses 32 [some (pR 0), none, some (pI (h.1 2 k3 + 1)), some (pI v3), some (pI (v4 + 1)), none, none] [] h Post)))) ∧ ((¬ h.1 1 k3 = 1) → ((¬ h.1 1 k3 = 4) → inR ((v4 + 1)) ∧ (Ok shM 0 0 mX9_uses 32 [some (pR 0), none, some (pI v2), some (pI v3), some (pI (v4 + 1)), none, none] [] h Post)) ∧ ((h.1 1 k3 = 4) → inR ((h.1 2 k3 + 1)) ∧ ((((h.1 2 k3 + 1) ≤ v2) → inR ((v4 + 1)) ∧ (Ok shM 0 0 mX9_uses 32 [some (pR 0), none, some (pI v2), some (pI v3), some (pI (v4 + 1)), none, none] [] h Post)) ∧ ((¬ (h.1 2 k3 + 1) ≤ v2) → inR ((v4 + 1)) ∧ (Ok shM 0 0 mX9_uses 32 [some (pR 0), none, some (pI (h.1 2 k3 + 1)), some (pI v3), some (pI (v4 + 1)), none, none] [] h Post))))))))) :
    Ok shM 0 0 mX9_uses 32 [some (pR 0), none, some (pI v2), some (pI v3), some (pI v4), none, none] [] h Post := by
  show Ok shM 0 0 mX9_uses 32 [some (pR 0), none, some (pI v2), some (pI v3), some (pI v4), none, none] [] h Post
  refine Ok.iload (pc' := 34) rfl dX9_uses_32 rfl ?_
  refine Ok.iload_n (pc' := 35) rfl dX9_uses_34 rfl ?_
  refine Ok.icmp_ge (tgt := 114) dX9_uses_35 rfl rfl (fun c1 => ?_) (fun c1 => ?_)
  · replace K := K.1 c1
    refine Ok.iload_n (pc' := 115) rfl dX9_uses_114 rfl ?_
    exact Ok.iret dX9_uses_115 rfl (by decide) K
  · replace K := K.2 c1
    refine Ok.aload_n (pc' := 39) rfl dX9_uses_38 rfl ?_
    refine Ok.getR (pc' := 42) (k := 10) dX9_uses_39 rfl (shM_0 _) rfl inX9 (by decide) rfl wd_991 rfl ?_
    refine Ok.iload (pc' := 44) rfl dX9_uses_42 rfl ?_
    obtain ⟨k2, e2, q2, K⟩ := K
    refine Ok.iald (pc' := 45) (z := h.1 9 k2) dX9_uses_44 rfl (shM_9 _) (by decide) e2 q2 rfl ?_
    refine Ok.istore (pc' := 47) (ls' := [some (pR 0), none, some (pI v2), some (pI v3), some (pI v4), some (pI (h.1 9 k2)), none]) dX9_uses_45 rfl (by decide) rfl rfl ?_
    refine Ok.aload_n (pc' := 48) rfl dX9_uses_47 rfl ?_
    refine Ok.getR (pc' := 51) (k := 1) dX9_uses_48 rfl (shM_0 _) rfl inX9 (by decide) rfl wd_982 rfl ?_
    refine Ok.iload (pc' := 53) rfl dX9_uses_51 rfl ?_
    obtain ⟨k3, e3, q3, K⟩ := K
    refine Ok.iald (pc' := 54) (z := h.1 1 k3) dX9_uses_53 rfl (shM_1 _) (by decide) e3 q3 rfl ?_
    refine Ok.iconst (pc' := 55) in_1 dX9_uses_54 rfl ?_
    refine Ok.icmp_eq (tgt := 69) dX9_uses_55 rfl rfl (fun c4 => ?_) (fun c4 => ?_)
    · replace K := K.1 c4
      refine Ok.iconst (pc' := 70) in_1 dX9_uses_69 rfl ?_
      refine Ok.goto (tgt := 74) dX9_uses_70 rfl ?_
      refine Ok.istore (pc' := 76) (ls' := [some (pR 0), none, some (pI v2), some (pI v3), some (pI v4), some (pI (h.1 9 k2)), some (pI 1)]) dX9_uses_74 rfl (by decide) rfl rfl ?_
      refine Ok.iload (pc' := 78) rfl dX9_uses_76 rfl ?_
      refine Ok.if_eq (tgt := 106) dX9_uses_78 rfl rfl (fun z => absurd z (by decide)) (fun _ => ?_)
      refine Ok.aload_n (pc' := 82) rfl dX9_uses_81 rfl ?_
      refine Ok.getR (pc' := 85) (k := 2) dX9_uses_82 rfl (shM_0 _) rfl inX9 (by decide) rfl wd_983 rfl ?_
      refine Ok.iload (pc' := 87) rfl dX9_uses_85 rfl ?_
      refine Ok.iald (pc' := 88) (z := h.1 2 k3) dX9_uses_87 rfl (shM_2 _) (by decide) e3 q3 rfl ?_
      refine Ok.iconst (pc' := 89) in_1 dX9_uses_88 rfl ?_
      obtain ⟨q5, K⟩ := K
      refine Ok.iadd (pc' := 90) dX9_uses_89 rfl q5 ?_
      refine Ok.iload_n (pc' := 91) rfl dX9_uses_90 rfl ?_
      refine Ok.icmp_le (tgt := 106) dX9_uses_91 rfl rfl (fun c6 => ?_) (fun c6 => ?_)
      · replace K := K.1 c6
        refine Ok.iload_n (pc' := 107) rfl dX9_uses_106 rfl ?_
        refine Ok.istore_n (pc' := 108) (ls' := [some (pR 0), none, some (pI v2), some (pI v3), some (pI v4), some (pI (h.1 9 k2)), some (pI 1)]) dX9_uses_107 rfl (by decide) rfl rfl ?_
        obtain ⟨q7, K⟩ := K
        refine Ok.iinc (pc' := 111) (ls' := [some (pR 0), none, some (pI v2), some (pI v3), some (pI (v4 + 1)), some (pI (h.1 9 k2)), some (pI 1)]) dX9_uses_108 rfl rfl (by decide) rfl rfl q7 ?_
        refine Ok.goto (tgt := 32) dX9_uses_111 rfl ?_
        exact Ok.fl (ls' := [some (pR 0), none, some (pI v2), some (pI v3), some (pI (v4 + 1)), none, none]) K ⟨rfl, rfl, rfl, rfl, trivial⟩
      · replace K := K.2 c6
        refine Ok.aload_n (pc' := 95) rfl dX9_uses_94 rfl ?_
        refine Ok.getR (pc' := 98) (k := 2) dX9_uses_95 rfl (shM_0 _) rfl inX9 (by decide) rfl wd_983 rfl ?_
        refine Ok.iload (pc' := 100) rfl dX9_uses_98 rfl ?_
        refine Ok.iald (pc' := 101) (z := h.1 2 k3) dX9_uses_100 rfl (shM_2 _) (by decide) e3 q3 rfl ?_
        refine Ok.iconst (pc' := 102) in_1 dX9_uses_101 rfl ?_
        refine Ok.iadd (pc' := 103) dX9_uses_102 rfl q5 ?_
        refine Ok.goto (tgt := 107) dX9_uses_103 rfl ?_
        refine Ok.istore_n (pc' := 108) (ls' := [some (pR 0), none, some (pI (h.1 2 k3 + 1)), some (pI v3), some (pI v4), some (pI (h.1 9 k2)), some (pI 1)]) dX9_uses_107 rfl (by decide) rfl rfl ?_
        obtain ⟨q7, K⟩ := K
        refine Ok.iinc (pc' := 111) (ls' := [some (pR 0), none, some (pI (h.1 2 k3 + 1)), some (pI v3), some (pI (v4 + 1)), some (pI (h.1 9 k2)), some (pI 1)]) dX9_uses_108 rfl rfl (by decide) rfl rfl q7 ?_
        refine Ok.goto (tgt := 32) dX9_uses_111 rfl ?_
        exact Ok.fl (ls' := [some (pR 0), none, some (pI (h.1 2 k3 + 1)), some (pI v3), some (pI (v4 + 1)), none, none]) K ⟨rfl, rfl, rfl, rfl, trivial⟩
    · replace K := K.2 c4
      refine Ok.aload_n (pc' := 59) rfl dX9_uses_58 rfl ?_
      refine Ok.getR (pc' := 62) (k := 1) dX9_uses_59 rfl (shM_0 _) rfl inX9 (by decide) rfl wd_982 rfl ?_
      refine Ok.iload (pc' := 64) rfl dX9_uses_62 rfl ?_
      refine Ok.iald (pc' := 65) (z := h.1 1 k3) dX9_uses_64 rfl (shM_1 _) (by decide) e3 q3 rfl ?_
      refine Ok.iconst (pc' := 66) in_4 dX9_uses_65 rfl ?_
      refine Ok.icmp_ne (tgt := 73) dX9_uses_66 rfl rfl (fun c5 => ?_) (fun c5 => ?_)
      · replace K := K.1 c5
        refine Ok.iconst (pc' := 74) in_0 dX9_uses_73 rfl ?_
        refine Ok.istore (pc' := 76) (ls' := [some (pR 0), none, some (pI v2), some (pI v3), some (pI v4), some (pI (h.1 9 k2)), some (pI 0)]) dX9_uses_74 rfl (by decide) rfl rfl ?_
        refine Ok.iload (pc' := 78) rfl dX9_uses_76 rfl ?_
        refine Ok.if_eq (tgt := 106) dX9_uses_78 rfl rfl (fun _ => ?_) (fun z => absurd (by decide) z)
        refine Ok.iload_n (pc' := 107) rfl dX9_uses_106 rfl ?_
        refine Ok.istore_n (pc' := 108) (ls' := [some (pR 0), none, some (pI v2), some (pI v3), some (pI v4), some (pI (h.1 9 k2)), some (pI 0)]) dX9_uses_107 rfl (by decide) rfl rfl ?_
        obtain ⟨q6, K⟩ := K
        refine Ok.iinc (pc' := 111) (ls' := [some (pR 0), none, some (pI v2), some (pI v3), some (pI (v4 + 1)), some (pI (h.1 9 k2)), some (pI 0)]) dX9_uses_108 rfl rfl (by decide) rfl rfl q6 ?_
        refine Ok.goto (tgt := 32) dX9_uses_111 rfl ?_
        exact Ok.fl (ls' := [some (pR 0), none, some (pI v2), some (pI v3), some (pI (v4 + 1)), none, none]) K ⟨rfl, rfl, rfl, rfl, trivial⟩
      · replace K := K.2 c5
        refine Ok.iconst (pc' := 70) in_1 dX9_uses_69 rfl ?_
        refine Ok.goto (tgt := 74) dX9_uses_70 rfl ?_
        refine Ok.istore (pc' := 76) (ls' := [some (pR 0), none, some (pI v2), some (pI v3), some (pI v4), some (pI (h.1 9 k2)), some (pI 1)]) dX9_uses_74 rfl (by decide) rfl rfl ?_
        refine Ok.iload (pc' := 78) rfl dX9_uses_76 rfl ?_
        refine Ok.if_eq (tgt := 106) dX9_uses_78 rfl rfl (fun z => absurd z (by decide)) (fun _ => ?_)
        refine Ok.aload_n (pc' := 82) rfl dX9_uses_81 rfl ?_
        refine Ok.getR (pc' := 85) (k := 2) dX9_uses_82 rfl (shM_0 _) rfl inX9 (by decide) rfl wd_983 rfl ?_
        refine Ok.iload (pc' := 87) rfl dX9_uses_85 rfl ?_
        refine Ok.iald (pc' := 88) (z := h.1 2 k3) dX9_uses_87 rfl (shM_2 _) (by decide) e3 q3 rfl ?_
        refine Ok.iconst (pc' := 89) in_1 dX9_uses_88 rfl ?_
        obtain ⟨q6, K⟩ := K
        refine Ok.iadd (pc' := 90) dX9_uses_89 rfl q6 ?_
        refine Ok.iload_n (pc' := 91) rfl dX9_uses_90 rfl ?_
        refine Ok.icmp_le (tgt := 106) dX9_uses_91 rfl rfl (fun c7 => ?_) (fun c7 => ?_)
        · replace K := K.1 c7
          refine Ok.iload_n (pc' := 107) rfl dX9_uses_106 rfl ?_
          refine Ok.istore_n (pc' := 108) (ls' := [some (pR 0), none, some (pI v2), some (pI v3), some (pI v4), some (pI (h.1 9 k2)), some (pI 1)]) dX9_uses_107 rfl (by decide) rfl rfl ?_
          obtain ⟨q8, K⟩ := K
          refine Ok.iinc (pc' := 111) (ls' := [some (pR 0), none, some (pI v2), some (pI v3), some (pI (v4 + 1)), some (pI (h.1 9 k2)), some (pI 1)]) dX9_uses_108 rfl rfl (by decide) rfl rfl q8 ?_
          refine Ok.goto (tgt := 32) dX9_uses_111 rfl ?_
          exact Ok.fl (ls' := [some (pR 0), none, some (pI v2), some (pI v3), some (pI (v4 + 1)), none, none]) K ⟨rfl, rfl, rfl, rfl, trivial⟩
        · replace K := K.2 c7
          refine Ok.aload_n (pc' := 95) rfl dX9_uses_94 rfl ?_
          refine Ok.getR (pc' := 98) (k := 2) dX9_uses_95 rfl (shM_0 _) rfl inX9 (by decide) rfl wd_983 rfl ?_
          refine Ok.iload (pc' := 100) rfl dX9_uses_98 rfl ?_
          refine Ok.iald (pc' := 101) (z := h.1 2 k3) dX9_uses_100 rfl (shM_2 _) (by decide) e3 q3 rfl ?_
          refine Ok.iconst (pc' := 102) in_1 dX9_uses_101 rfl ?_
          refine Ok.iadd (pc' := 103) dX9_uses_102 rfl q6 ?_
          refine Ok.goto (tgt := 107) dX9_uses_103 rfl ?_
          refine Ok.istore_n (pc' := 108) (ls' := [some (pR 0), none, some (pI (h.1 2 k3 + 1)), some (pI v3), some (pI v4), some (pI (h.1 9 k2)), some (pI 1)]) dX9_uses_107 rfl (by decide) rfl rfl ?_
          obtain ⟨q8, K⟩ := K
          refine Ok.iinc (pc' := 111) (ls' := [some (pR 0), none, some (pI (h.1 2 k3 + 1)), some (pI v3), some (pI (v4 + 1)), some (pI (h.1 9 k2)), some (pI 1)]) dX9_uses_108 rfl rfl (by decide) rfl rfl q8 ?_
          refine Ok.goto (tgt := 32) dX9_uses_111 rfl ?_
          exact Ok.fl (ls' := [some (pR 0), none, some (pI (h.1 2 k3 + 1)), some (pI v3), some (pI (v4 + 1)), none, none]) K ⟨rfl, rfl, rfl, rfl, trivial⟩
theorem sX9_make_0 {k0 v : Int} {h : Hp} {Post : Int → Hp → Prop}
    (K : ∃ k1 : Nat, h.2.1 0 0 = (k1 : Int) ∧ k1 < 600 ∧ (Ok shM 0 0 mX9_make 37 [some (pR 0), none, none, some (pI (h.2.1 0 0)), some (pI 0)] [] (hA (hA (hA (hA h 1 k1 k0) 2 k1 v) 4 k1 (-4)) 5 k1 0) Post)) :
    Cl shM mX9_make [pR 0, pI k0, pI v] h Post := by
  show Ok shM 0 0 mX9_make 0 [some (pR 0), some (pI k0), some (pI v), none, none] [] h Post
  refine Ok.aload_n (pc' := 1) rfl dX9_make_0 rfl ?_
  refine Ok.getI (pc' := 4) (z := h.2.1 0 0) (k := 0) dX9_make_1 rfl (shM_0 _) rfl inX9 (by decide) rfl rfl wd_981 rfl ?_
  refine Ok.istore_n (pc' := 5) (ls' := [some (pR 0), some (pI k0), some (pI v), some (pI (h.2.1 0 0)), none]) dX9_make_4 rfl (by decide) rfl rfl ?_
  refine Ok.aload_n (pc' := 6) rfl dX9_make_5 rfl ?_
  refine Ok.getR (pc' := 9) (k := 1) dX9_make_6 rfl (shM_0 _) rfl inX9 (by decide) rfl wd_982 rfl ?_
  refine Ok.iload_n (pc' := 10) rfl dX9_make_9 rfl ?_
  refine Ok.iload_n (pc' := 11) rfl dX9_make_10 rfl ?_
  obtain ⟨k1, e1, q1, K⟩ := K
  refine Ok.iast (pc' := 12) dX9_make_11 rfl (shM_1 _) (by decide) e1 q1 ?_
  refine Ok.aload_n (pc' := 13) rfl dX9_make_12 rfl ?_
  refine Ok.getR (pc' := 16) (k := 2) dX9_make_13 rfl (shM_0 _) rfl inX9 (by decide) rfl wd_983 rfl ?_
  refine Ok.iload_n (pc' := 17) rfl dX9_make_16 rfl ?_
  refine Ok.iload_n (pc' := 18) rfl dX9_make_17 rfl ?_
  refine Ok.iast (pc' := 19) dX9_make_18 rfl (shM_2 _) (by decide) e1 q1 ?_
  refine Ok.aload_n (pc' := 20) rfl dX9_make_19 rfl ?_
  refine Ok.getR (pc' := 23) (k := 4) dX9_make_20 rfl (shM_0 _) rfl inX9 (by decide) rfl wd_985 rfl ?_
  refine Ok.iload_n (pc' := 24) rfl dX9_make_23 rfl ?_
  refine Ok.bipush (pc' := 26) ⟨by decide, by decide⟩ dX9_make_24 rfl ?_
  refine Ok.iast (pc' := 27) dX9_make_26 rfl (shM_4 _) (by decide) e1 q1 ?_
  refine Ok.aload_n (pc' := 28) rfl dX9_make_27 rfl ?_
  refine Ok.getR (pc' := 31) (k := 5) dX9_make_28 rfl (shM_0 _) rfl inX9 (by decide) rfl wd_986 rfl ?_
  refine Ok.iload_n (pc' := 32) rfl dX9_make_31 rfl ?_
  refine Ok.iconst (pc' := 33) in_0 dX9_make_32 rfl ?_
  refine Ok.iast (pc' := 34) dX9_make_33 rfl (shM_5 _) (by decide) e1 q1 ?_
  refine Ok.iconst (pc' := 35) in_0 dX9_make_34 rfl ?_
  refine Ok.istore (pc' := 37) (ls' := [some (pR 0), some (pI k0), some (pI v), some (pI (h.2.1 0 0)), some (pI 0)]) dX9_make_35 rfl (by decide) rfl rfl ?_
  exact Ok.fl (ls' := [some (pR 0), none, none, some (pI (h.2.1 0 0)), some (pI 0)]) K ⟨rfl, rfl, rfl, trivial⟩
theorem sX9_make_37 {v3 v4 : Int} {h : Hp} {Post : Int → Hp → Prop}
    (K : ((3 ≤ v4) → inR ((h.2.1 0 0 + 1)) ∧ (Post v3 (hI h 0 0 (h.2.1 0 0 + 1)))) ∧ ((¬ 3 ≤ v4) → inR ((3 * v3)) ∧ (inR (((3 * v3) + v4)) ∧ (∃ k4 : Nat, ((3 * v3) + v4) = (k4 : Int) ∧ k4 < 1800 ∧ (inR ((v4 + 1)) ∧ (Ok shM 0 0 mX9_make 37 [some (pR 0), none, none, some (pI v3), some (pI (v4 + 1))] [] (hA h 3 k4 (-4)) Post)))))) :
    Ok shM 0 0 mX9_make 37 [some (pR 0), none, none, some (pI v3), some (pI v4)] [] h Post := by
  show Ok shM 0 0 mX9_make 37 [some (pR 0), none, none, some (pI v3), some (pI v4)] [] h Post
  refine Ok.iload (pc' := 39) rfl dX9_make_37 rfl ?_
  refine Ok.iconst (pc' := 40) in_3 dX9_make_39 rfl ?_
  refine Ok.icmp_ge (tgt := 62) dX9_make_40 rfl rfl (fun c1 => ?_) (fun c1 => ?_)
  · replace K := K.1 c1
    refine Ok.aload_n (pc' := 63) rfl dX9_make_62 rfl ?_
    refine Ok.dup (pc' := 64) dX9_make_63 rfl rfl ?_
    refine Ok.getI (pc' := 67) (z := h.2.1 0 0) (k := 0) dX9_make_64 rfl (shM_0 _) rfl inX9 (by decide) rfl rfl wd_981 rfl ?_
    refine Ok.iconst (pc' := 68) in_1 dX9_make_67 rfl ?_
    obtain ⟨q2, K⟩ := K
    refine Ok.iadd (pc' := 69) dX9_make_68 rfl q2 ?_
    refine Ok.putI (pc' := 72) (k := 0) dX9_make_69 rfl (shM_0 _) rfl inX9 tyX9 tyX9_ok nmX9 (by decide) rfl wd_981 rfl rfl (Or.inl rfl) ?_
    refine Ok.iload_n (pc' := 73) rfl dX9_make_72 rfl ?_
    exact Ok.iret dX9_make_73 rfl (by decide) K
  · replace K := K.2 c1
    refine Ok.aload_n (pc' := 44) rfl dX9_make_43 rfl ?_
    refine Ok.getR (pc' := 47) (k := 3) dX9_make_44 rfl (shM_0 _) rfl inX9 (by decide) rfl wd_984 rfl ?_
    refine Ok.iconst (pc' := 48) in_3 dX9_make_47 rfl ?_
    refine Ok.iload_n (pc' := 49) rfl dX9_make_48 rfl ?_
    obtain ⟨q2, K⟩ := K
    refine Ok.imul (pc' := 50) dX9_make_49 rfl q2 ?_
    refine Ok.iload (pc' := 52) rfl dX9_make_50 rfl ?_
    obtain ⟨q3, K⟩ := K
    refine Ok.iadd (pc' := 53) dX9_make_52 rfl q3 ?_
    refine Ok.bipush (pc' := 55) ⟨by decide, by decide⟩ dX9_make_53 rfl ?_
    obtain ⟨k4, e4, q4, K⟩ := K
    refine Ok.iast (pc' := 56) dX9_make_55 rfl (shM_3 _) (by decide) e4 q4 ?_
    obtain ⟨q5, K⟩ := K
    refine Ok.iinc (pc' := 59) (ls' := [some (pR 0), none, none, some (pI v3), some (pI (v4 + 1))]) dX9_make_56 rfl rfl (by decide) rfl rfl q5 ?_
    refine Ok.goto (tgt := 37) dX9_make_59 rfl ?_
    exact K
theorem sX9_setPart_0 {s0 k0 p : Int} {h : Hp} {Post : Int → Hp → Prop}
    (K : inR ((3 * s0)) ∧ (inR (((3 * s0) + k0)) ∧ (∃ k3 : Nat, ((3 * s0) + k0) = (k3 : Int) ∧ k3 < 1800 ∧ (∃ k4 : Nat, p = (k4 : Int) ∧ k4 < 600 ∧ (Post 0 (hA (hA h 3 k3 p) 4 k4 s0)))))) :
    Cl shM mX9_setPart [pR 0, pI s0, pI k0, pI p] h Post := by
  show Ok shM 0 0 mX9_setPart 0 [some (pR 0), some (pI s0), some (pI k0), some (pI p)] [] h Post
  refine Ok.aload_n (pc' := 1) rfl dX9_setPart_0 rfl ?_
  refine Ok.getR (pc' := 4) (k := 3) dX9_setPart_1 rfl (shM_0 _) rfl inX9 (by decide) rfl wd_984 rfl ?_
  refine Ok.iconst (pc' := 5) in_3 dX9_setPart_4 rfl ?_
  refine Ok.iload_n (pc' := 6) rfl dX9_setPart_5 rfl ?_
  obtain ⟨q1, K⟩ := K
  refine Ok.imul (pc' := 7) dX9_setPart_6 rfl q1 ?_
  refine Ok.iload_n (pc' := 8) rfl dX9_setPart_7 rfl ?_
  obtain ⟨q2, K⟩ := K
  refine Ok.iadd (pc' := 9) dX9_setPart_8 rfl q2 ?_
  refine Ok.iload_n (pc' := 10) rfl dX9_setPart_9 rfl ?_
  obtain ⟨k3, e3, q3, K⟩ := K
  refine Ok.iast (pc' := 11) dX9_setPart_10 rfl (shM_3 _) (by decide) e3 q3 ?_
  refine Ok.aload_n (pc' := 12) rfl dX9_setPart_11 rfl ?_
  refine Ok.getR (pc' := 15) (k := 4) dX9_setPart_12 rfl (shM_0 _) rfl inX9 (by decide) rfl wd_985 rfl ?_
  refine Ok.iload_n (pc' := 16) rfl dX9_setPart_15 rfl ?_
  refine Ok.iload_n (pc' := 17) rfl dX9_setPart_16 rfl ?_
  obtain ⟨k4, e4, q4, K⟩ := K
  refine Ok.iast (pc' := 18) dX9_setPart_17 rfl (shM_4 _) (by decide) e4 q4 ?_
  exact Ok.vret dX9_setPart_18 rfl (by decide) K
theorem sX9_comesUp_0 {k0 v n : Int} {h : Hp} {Post : Int → Hp → Prop}
    (K : Ok shM 0 0 mX9_comesUp 6 [some (pR 0), some (pI k0), some (pI v), some (pI n), some (pI 0), some (pI 0), none] [] h Post) :
    Cl shM mX9_comesUp [pR 0, pI k0, pI v, pI n] h Post := by
  show Ok shM 0 0 mX9_comesUp 0 [some (pR 0), some (pI k0), some (pI v), some (pI n), none, none, none] [] h Post
  refine Ok.iconst (pc' := 1) in_0 dX9_comesUp_0 rfl ?_
  refine Ok.istore (pc' := 3) (ls' := [some (pR 0), some (pI k0), some (pI v), some (pI n), some (pI 0), none, none]) dX9_comesUp_1 rfl (by decide) rfl rfl ?_
  refine Ok.iconst (pc' := 4) in_0 dX9_comesUp_3 rfl ?_
  refine Ok.istore (pc' := 6) (ls' := [some (pR 0), some (pI k0), some (pI v), some (pI n), some (pI 0), some (pI 0), none]) dX9_comesUp_4 rfl (by decide) rfl rfl ?_
  exact K
theorem sX9_comesUp_6 {k0 v n v4 v5 : Int} {h : Hp} {Post : Int → Hp → Prop}
    (K : ((n ≤ v5) → Ok shM 0 0 mX9_comesUp 72 [some (pR 0), some (pI k0), some (pI v), some (pI n), some (pI v4), some (pI 0), none] [] h Post) ∧ ((¬ n ≤ v5) → ∃ k2 : Nat, v5 = (k2 : Int) ∧ k2 < 3 ∧ (Cl shM mX9_isLoose [pR 0, pI (h.1 12 k2)] h (fun r1 h1 => ((¬ r1 = 0) → Ok shM 0 0 mX9_comesUp 31 [some (pR 0), some (pI k0), some (pI v), some (pI n), some (pI v4), some (pI v5), some (pI 0)] [] h1 Post) ∧ ((r1 = 0) → Post (-1) h1))))) :
    Ok shM 0 0 mX9_comesUp 6 [some (pR 0), some (pI k0), some (pI v), some (pI n), some (pI v4), some (pI v5), none] [] h Post := by
  show Ok shM 0 0 mX9_comesUp 6 [some (pR 0), some (pI k0), some (pI v), some (pI n), some (pI v4), some (pI v5), none] [] h Post
  refine Ok.iload (pc' := 8) rfl dX9_comesUp_6 rfl ?_
  refine Ok.iload_n (pc' := 9) rfl dX9_comesUp_8 rfl ?_
  refine Ok.icmp_ge (tgt := 69) dX9_comesUp_9 rfl rfl (fun c1 => ?_) (fun c1 => ?_)
  · replace K := K.1 c1
    refine Ok.iconst (pc' := 70) in_0 dX9_comesUp_69 rfl ?_
    refine Ok.istore (pc' := 72) (ls' := [some (pR 0), some (pI k0), some (pI v), some (pI n), some (pI v4), some (pI 0), none]) dX9_comesUp_70 rfl (by decide) rfl rfl ?_
    exact K
  · replace K := K.2 c1
    refine Ok.aload_n (pc' := 13) rfl dX9_comesUp_12 rfl ?_
    refine Ok.aload_n (pc' := 14) rfl dX9_comesUp_13 rfl ?_
    refine Ok.getR (pc' := 17) (k := 14) dX9_comesUp_14 rfl (shM_0 _) rfl inX9 (by decide) rfl wd_995 rfl ?_
    refine Ok.iload (pc' := 19) rfl dX9_comesUp_17 rfl ?_
    obtain ⟨k2, e2, q2, K⟩ := K
    refine Ok.iald (pc' := 20) (z := h.1 12 k2) dX9_comesUp_19 rfl (shM_12 _) (by decide) e2 q2 rfl ?_
    refine Ok.callV (pc' := 23) (av := [pI (h.1 12 k2)]) (rest := []) dX9_comesUp_20 rfl (by decide) cvX9_comesUp_117 (shM_0 _) rfl rfl rfl (leb rfl) (leb rfl) K (fun r1 h1 K => ?_)
    show Ok shM 0 0 mX9_comesUp 23 [some (pR 0), some (pI k0), some (pI v), some (pI n), some (pI v4), some (pI v5), none] [pI r1] h1 Post
    refine Ok.if_ne (tgt := 28) dX9_comesUp_23 rfl rfl (fun c3 => ?_) (fun c3 => ?_)
    · replace K := K.1 c3
      refine Ok.iconst (pc' := 29) in_0 dX9_comesUp_28 rfl ?_
      refine Ok.istore (pc' := 31) (ls' := [some (pR 0), some (pI k0), some (pI v), some (pI n), some (pI v4), some (pI v5), some (pI 0)]) dX9_comesUp_29 rfl (by decide) rfl rfl ?_
      exact K
    · replace K := K.2 c3
      refine Ok.iconst (pc' := 27) in_m1 dX9_comesUp_26 rfl ?_
      exact Ok.iret dX9_comesUp_27 rfl (by decide) K
theorem sX9_comesUp_31 {k0 v n v4 v5 v6 : Int} {h : Hp} {Post : Int → Hp → Prop}
    (K : ((v5 ≤ v6) → inR ((v5 + 1)) ∧ (Ok shM 0 0 mX9_comesUp 6 [some (pR 0), some (pI k0), some (pI v), some (pI n), some (pI v4), some (pI (v5 + 1)), none] [] h Post)) ∧ ((¬ v5 ≤ v6) → ∃ k2 : Nat, v5 = (k2 : Int) ∧ k2 < 3 ∧ (∃ k3 : Nat, v6 = (k3 : Int) ∧ k3 < 3 ∧ (((¬ h.1 12 k2 = h.1 12 k3) → inR ((v6 + 1)) ∧ (Ok shM 0 0 mX9_comesUp 31 [some (pR 0), some (pI k0), some (pI v), some (pI n), some (pI v4), some (pI v5), some (pI (v6 + 1))] [] h Post)) ∧ ((h.1 12 k2 = h.1 12 k3) → Post (-1) h))))) :
    Ok shM 0 0 mX9_comesUp 31 [some (pR 0), some (pI k0), some (pI v), some (pI n), some (pI v4), some (pI v5), some (pI v6)] [] h Post := by
  show Ok shM 0 0 mX9_comesUp 31 [some (pR 0), some (pI k0), some (pI v), some (pI n), some (pI v4), some (pI v5), some (pI v6)] [] h Post
  refine Ok.iload (pc' := 33) rfl dX9_comesUp_31 rfl ?_
  refine Ok.iload (pc' := 35) rfl dX9_comesUp_33 rfl ?_
  refine Ok.icmp_ge (tgt := 63) dX9_comesUp_35 rfl rfl (fun c1 => ?_) (fun c1 => ?_)
  · replace K := K.1 c1
    obtain ⟨q2, K⟩ := K
    refine Ok.iinc (pc' := 66) (ls' := [some (pR 0), some (pI k0), some (pI v), some (pI n), some (pI v4), some (pI (v5 + 1)), some (pI v6)]) dX9_comesUp_63 rfl rfl (by decide) rfl rfl q2 ?_
    refine Ok.goto (tgt := 6) dX9_comesUp_66 rfl ?_
    exact Ok.fl (ls' := [some (pR 0), some (pI k0), some (pI v), some (pI n), some (pI v4), some (pI (v5 + 1)), none]) K ⟨rfl, rfl, rfl, rfl, rfl, rfl, trivial⟩
  · replace K := K.2 c1
    refine Ok.aload_n (pc' := 39) rfl dX9_comesUp_38 rfl ?_
    refine Ok.getR (pc' := 42) (k := 14) dX9_comesUp_39 rfl (shM_0 _) rfl inX9 (by decide) rfl wd_995 rfl ?_
    refine Ok.iload (pc' := 44) rfl dX9_comesUp_42 rfl ?_
    obtain ⟨k2, e2, q2, K⟩ := K
    refine Ok.iald (pc' := 45) (z := h.1 12 k2) dX9_comesUp_44 rfl (shM_12 _) (by decide) e2 q2 rfl ?_
    refine Ok.aload_n (pc' := 46) rfl dX9_comesUp_45 rfl ?_
    refine Ok.getR (pc' := 49) (k := 14) dX9_comesUp_46 rfl (shM_0 _) rfl inX9 (by decide) rfl wd_995 rfl ?_
    refine Ok.iload (pc' := 51) rfl dX9_comesUp_49 rfl ?_
    obtain ⟨k3, e3, q3, K⟩ := K
    refine Ok.iald (pc' := 52) (z := h.1 12 k3) dX9_comesUp_51 rfl (shM_12 _) (by decide) e3 q3 rfl ?_
    refine Ok.icmp_ne (tgt := 57) dX9_comesUp_52 rfl rfl (fun c4 => ?_) (fun c4 => ?_)
    · replace K := K.1 c4
      obtain ⟨q5, K⟩ := K
      refine Ok.iinc (pc' := 60) (ls' := [some (pR 0), some (pI k0), some (pI v), some (pI n), some (pI v4), some (pI v5), some (pI (v6 + 1))]) dX9_comesUp_57 rfl rfl (by decide) rfl rfl q5 ?_
      refine Ok.goto (tgt := 31) dX9_comesUp_60 rfl ?_
      exact K
    · replace K := K.2 c4
      refine Ok.iconst (pc' := 56) in_m1 dX9_comesUp_55 rfl ?_
      exact Ok.iret dX9_comesUp_56 rfl (by decide) K
theorem sX9_comesUp_72 {k0 v n v4 v5 : Int} {h : Hp} {Post : Int → Hp → Prop}
    (K : ((n ≤ v5) → ((h.2.1 0 0 = 600) → Post (-3) h) ∧ ((¬ h.2.1 0 0 = 600) → ((¬ v4 = 40) → Cl shM mX9_make [pR 0, pI k0, pI v] h (fun r1 h1 => Ok shM 0 0 mX9_comesUp 144 [some (pR 0), none, none, some (pI n), none, some (pI r1), some (pI 0)] [] h1 Post)) ∧ ((v4 = 40) → Post (-3) h))) ∧ ((¬ n ≤ v5) → ∃ k2 : Nat, v5 = (k2 : Int) ∧ k2 < 3 ∧ (Cl shM mX9_high [pR 0, pI (h.1 12 k2)] h (fun r2 h2 => ((r2 ≤ v4) → inR ((v5 + 1)) ∧ (Ok shM 0 0 mX9_comesUp 72 [some (pR 0), some (pI k0), some (pI v), some (pI n), some (pI v4), some (pI (v5 + 1)), none] [] h2 Post)) ∧ ((¬ r2 ≤ v4) → inR ((v5 + 1)) ∧ (Ok shM 0 0 mX9_comesUp 72 [some (pR 0), some (pI k0), some (pI v), some (pI n), some (pI r2), some (pI (v5 + 1)), none] [] h2 Post)))))) :
    Ok shM 0 0 mX9_comesUp 72 [some (pR 0), some (pI k0), some (pI v), some (pI n), some (pI v4), some (pI v5), none] [] h Post := by
  show Ok shM 0 0 mX9_comesUp 72 [some (pR 0), some (pI k0), some (pI v), some (pI n), some (pI v4), some (pI v5), none] [] h Post
  refine Ok.iload (pc' := 74) rfl dX9_comesUp_72 rfl ?_
  refine Ok.iload_n (pc' := 75) rfl dX9_comesUp_74 rfl ?_
  refine Ok.icmp_ge (tgt := 113) dX9_comesUp_75 rfl rfl (fun c1 => ?_) (fun c1 => ?_)
  · replace K := K.1 c1
    refine Ok.aload_n (pc' := 114) rfl dX9_comesUp_113 rfl ?_
    refine Ok.getI (pc' := 117) (z := h.2.1 0 0) (k := 0) dX9_comesUp_114 rfl (shM_0 _) rfl inX9 (by decide) rfl rfl wd_981 rfl ?_
    refine Ok.sipush (pc' := 120) ⟨by decide, by decide⟩ dX9_comesUp_117 rfl ?_
    refine Ok.icmp_eq (tgt := 130) dX9_comesUp_120 rfl rfl (fun c2 => ?_) (fun c2 => ?_)
    · replace K := K.1 c2
      refine Ok.bipush (pc' := 132) ⟨by decide, by decide⟩ dX9_comesUp_130 rfl ?_
      exact Ok.iret dX9_comesUp_132 rfl (by decide) K
    · replace K := K.2 c2
      refine Ok.iload (pc' := 125) rfl dX9_comesUp_123 rfl ?_
      refine Ok.bipush (pc' := 127) ⟨by decide, by decide⟩ dX9_comesUp_125 rfl ?_
      refine Ok.icmp_ne (tgt := 133) dX9_comesUp_127 rfl rfl (fun c3 => ?_) (fun c3 => ?_)
      · replace K := K.1 c3
        refine Ok.aload_n (pc' := 134) rfl dX9_comesUp_133 rfl ?_
        refine Ok.iload_n (pc' := 135) rfl dX9_comesUp_134 rfl ?_
        refine Ok.iload_n (pc' := 136) rfl dX9_comesUp_135 rfl ?_
        refine Ok.callV (pc' := 139) (av := [pI k0, pI v]) (rest := []) dX9_comesUp_136 rfl (by decide) cvX9_comesUp_123 (shM_0 _) rfl rfl rfl (leb rfl) (leb rfl) K (fun r1 h1 K => ?_)
        show Ok shM 0 0 mX9_comesUp 139 [some (pR 0), some (pI k0), some (pI v), some (pI n), some (pI v4), some (pI v5), none] [pI r1] h1 Post
        refine Ok.istore (pc' := 141) (ls' := [some (pR 0), some (pI k0), some (pI v), some (pI n), some (pI v4), some (pI r1), none]) dX9_comesUp_139 rfl (by decide) rfl rfl ?_
        refine Ok.iconst (pc' := 142) in_0 dX9_comesUp_141 rfl ?_
        refine Ok.istore (pc' := 144) (ls' := [some (pR 0), some (pI k0), some (pI v), some (pI n), some (pI v4), some (pI r1), some (pI 0)]) dX9_comesUp_142 rfl (by decide) rfl rfl ?_
        exact Ok.fl (ls' := [some (pR 0), none, none, some (pI n), none, some (pI r1), some (pI 0)]) K ⟨rfl, rfl, rfl, rfl, trivial⟩
      · replace K := K.2 c3
        refine Ok.bipush (pc' := 132) ⟨by decide, by decide⟩ dX9_comesUp_130 rfl ?_
        exact Ok.iret dX9_comesUp_132 rfl (by decide) K
  · replace K := K.2 c1
    refine Ok.aload_n (pc' := 79) rfl dX9_comesUp_78 rfl ?_
    refine Ok.aload_n (pc' := 80) rfl dX9_comesUp_79 rfl ?_
    refine Ok.getR (pc' := 83) (k := 14) dX9_comesUp_80 rfl (shM_0 _) rfl inX9 (by decide) rfl wd_995 rfl ?_
    refine Ok.iload (pc' := 85) rfl dX9_comesUp_83 rfl ?_
    obtain ⟨k2, e2, q2, K⟩ := K
    refine Ok.iald (pc' := 86) (z := h.1 12 k2) dX9_comesUp_85 rfl (shM_12 _) (by decide) e2 q2 rfl ?_
    refine Ok.callV (pc' := 89) (av := [pI (h.1 12 k2)]) (rest := []) dX9_comesUp_86 rfl (by decide) cvX9_comesUp_120 (shM_0 _) rfl rfl rfl (leb rfl) (leb rfl) K (fun r2 h2 K => ?_)
    show Ok shM 0 0 mX9_comesUp 89 [some (pR 0), some (pI k0), some (pI v), some (pI n), some (pI v4), some (pI v5), none] [pI r2] h2 Post
    refine Ok.istore (pc' := 91) (ls' := [some (pR 0), some (pI k0), some (pI v), some (pI n), some (pI v4), some (pI v5), some (pI r2)]) dX9_comesUp_89 rfl (by decide) rfl rfl ?_
    refine Ok.iload (pc' := 93) rfl dX9_comesUp_91 rfl ?_
    refine Ok.iload (pc' := 95) rfl dX9_comesUp_93 rfl ?_
    refine Ok.icmp_le (tgt := 103) dX9_comesUp_95 rfl rfl (fun c3 => ?_) (fun c3 => ?_)
    · replace K := K.1 c3
      refine Ok.iload (pc' := 105) rfl dX9_comesUp_103 rfl ?_
      refine Ok.istore (pc' := 107) (ls' := [some (pR 0), some (pI k0), some (pI v), some (pI n), some (pI v4), some (pI v5), some (pI r2)]) dX9_comesUp_105 rfl (by decide) rfl rfl ?_
      obtain ⟨q4, K⟩ := K
      refine Ok.iinc (pc' := 110) (ls' := [some (pR 0), some (pI k0), some (pI v), some (pI n), some (pI v4), some (pI (v5 + 1)), some (pI r2)]) dX9_comesUp_107 rfl rfl (by decide) rfl rfl q4 ?_
      refine Ok.goto (tgt := 72) dX9_comesUp_110 rfl ?_
      exact Ok.fl (ls' := [some (pR 0), some (pI k0), some (pI v), some (pI n), some (pI v4), some (pI (v5 + 1)), none]) K ⟨rfl, rfl, rfl, rfl, rfl, rfl, trivial⟩
    · replace K := K.2 c3
      refine Ok.iload (pc' := 100) rfl dX9_comesUp_98 rfl ?_
      refine Ok.goto (tgt := 105) dX9_comesUp_100 rfl ?_
      refine Ok.istore (pc' := 107) (ls' := [some (pR 0), some (pI k0), some (pI v), some (pI n), some (pI r2), some (pI v5), some (pI r2)]) dX9_comesUp_105 rfl (by decide) rfl rfl ?_
      obtain ⟨q4, K⟩ := K
      refine Ok.iinc (pc' := 110) (ls' := [some (pR 0), some (pI k0), some (pI v), some (pI n), some (pI r2), some (pI (v5 + 1)), some (pI r2)]) dX9_comesUp_107 rfl rfl (by decide) rfl rfl q4 ?_
      refine Ok.goto (tgt := 72) dX9_comesUp_110 rfl ?_
      exact Ok.fl (ls' := [some (pR 0), some (pI k0), some (pI v), some (pI n), some (pI r2), some (pI (v5 + 1)), none]) K ⟨rfl, rfl, rfl, rfl, rfl, rfl, trivial⟩
theorem sX9_comesUp_144 {n v5 v6 : Int} {h : Hp} {Post : Int → Hp → Prop}
    (K : ((n ≤ v6) → Post v5 (hI h 0 13 0)) ∧ ((¬ n ≤ v6) → ∃ k2 : Nat, v6 = (k2 : Int) ∧ k2 < 3 ∧ (Cl shM mX9_setPart [pR 0, pI v5, pI v6, pI (h.1 12 k2)] h (fun _ h1 => inR ((v6 + 1)) ∧ (Ok shM 0 0 mX9_comesUp 144 [some (pR 0), none, none, some (pI n), none, some (pI v5), some (pI (v6 + 1))] [] h1 Post))))) :
    Ok shM 0 0 mX9_comesUp 144 [some (pR 0), none, none, some (pI n), none, some (pI v5), some (pI v6)] [] h Post := by
  show Ok shM 0 0 mX9_comesUp 144 [some (pR 0), none, none, some (pI n), none, some (pI v5), some (pI v6)] [] h Post
  refine Ok.iload (pc' := 146) rfl dX9_comesUp_144 rfl ?_
  refine Ok.iload_n (pc' := 147) rfl dX9_comesUp_146 rfl ?_
  refine Ok.icmp_ge (tgt := 171) dX9_comesUp_147 rfl rfl (fun c1 => ?_) (fun c1 => ?_)
  · replace K := K.1 c1
    refine Ok.aload_n (pc' := 172) rfl dX9_comesUp_171 rfl ?_
    refine Ok.iconst (pc' := 173) in_0 dX9_comesUp_172 rfl ?_
    refine Ok.putI (pc' := 176) (k := 13) dX9_comesUp_173 rfl (shM_0 _) rfl inX9 tyX9 tyX9_ok nmX9 (by decide) rfl wd_994 rfl rfl (Or.inl rfl) ?_
    refine Ok.iload (pc' := 178) rfl dX9_comesUp_176 rfl ?_
    exact Ok.iret dX9_comesUp_178 rfl (by decide) K
  · replace K := K.2 c1
    refine Ok.aload_n (pc' := 151) rfl dX9_comesUp_150 rfl ?_
    refine Ok.iload (pc' := 153) rfl dX9_comesUp_151 rfl ?_
    refine Ok.iload (pc' := 155) rfl dX9_comesUp_153 rfl ?_
    refine Ok.aload_n (pc' := 156) rfl dX9_comesUp_155 rfl ?_
    refine Ok.getR (pc' := 159) (k := 14) dX9_comesUp_156 rfl (shM_0 _) rfl inX9 (by decide) rfl wd_995 rfl ?_
    refine Ok.iload (pc' := 161) rfl dX9_comesUp_159 rfl ?_
    obtain ⟨k2, e2, q2, K⟩ := K
    refine Ok.iald (pc' := 162) (z := h.1 12 k2) dX9_comesUp_161 rfl (shM_12 _) (by decide) e2 q2 rfl ?_
    refine Ok.callV (pc' := 165) (av := [pI v5, pI v6, pI (h.1 12 k2)]) (rest := []) dX9_comesUp_162 rfl (by decide) cvX9_comesUp_127 (shM_0 _) rfl rfl rfl (leb rfl) (leb rfl) K (fun r_ h1 K => ?_)
    show Ok shM 0 0 mX9_comesUp 165 [some (pR 0), none, none, some (pI n), none, some (pI v5), some (pI v6)] [] h1 Post
    obtain ⟨q3, K⟩ := K
    refine Ok.iinc (pc' := 168) (ls' := [some (pR 0), none, none, some (pI n), none, some (pI v5), some (pI (v6 + 1))]) dX9_comesUp_165 rfl rfl (by decide) rfl rfl q3 ?_
    refine Ok.goto (tgt := 144) dX9_comesUp_168 rfl ?_
    exact K
theorem sX9_give_0 {x y z : Int} {h : Hp} {Post : Int → Hp → Prop}
    (K : Post 0 (hA (hA (hA h 12 0 x) 12 1 y) 12 2 z)) :
    Cl shM mX9_give [pR 0, pI x, pI y, pI z] h Post := by
  show Ok shM 0 0 mX9_give 0 [some (pR 0), some (pI x), some (pI y), some (pI z)] [] h Post
  refine Ok.aload_n (pc' := 1) rfl dX9_give_0 rfl ?_
  refine Ok.getR (pc' := 4) (k := 14) dX9_give_1 rfl (shM_0 _) rfl inX9 (by decide) rfl wd_995 rfl ?_
  refine Ok.iconst (pc' := 5) in_0 dX9_give_4 rfl ?_
  refine Ok.iload_n (pc' := 6) rfl dX9_give_5 rfl ?_
  refine Ok.iast (pc' := 7) dX9_give_6 rfl (shM_12 _) (by decide) rfl (by decide) ?_
  refine Ok.aload_n (pc' := 8) rfl dX9_give_7 rfl ?_
  refine Ok.getR (pc' := 11) (k := 14) dX9_give_8 rfl (shM_0 _) rfl inX9 (by decide) rfl wd_995 rfl ?_
  refine Ok.iconst (pc' := 12) in_1 dX9_give_11 rfl ?_
  refine Ok.iload_n (pc' := 13) rfl dX9_give_12 rfl ?_
  refine Ok.iast (pc' := 14) dX9_give_13 rfl (shM_12 _) (by decide) rfl (by decide) ?_
  refine Ok.aload_n (pc' := 15) rfl dX9_give_14 rfl ?_
  refine Ok.getR (pc' := 18) (k := 14) dX9_give_15 rfl (shM_0 _) rfl inX9 (by decide) rfl wd_995 rfl ?_
  refine Ok.iconst (pc' := 19) in_2 dX9_give_18 rfl ?_
  refine Ok.iload_n (pc' := 20) rfl dX9_give_19 rfl ?_
  refine Ok.iast (pc' := 21) dX9_give_20 rfl (shM_12 _) (by decide) rfl (by decide) ?_
  exact Ok.vret dX9_give_21 rfl (by decide) K
theorem sX9_number_0 {v : Int} {h : Hp} {Post : Int → Hp → Prop}
    (K : Cl shM mX9_comesUp [pR 0, pI 0, pI v, pI 0] h (fun r1 h1 => Post r1 h1)) :
    Cl shM mX9_number [pR 0, pI v] h Post := by
  show Ok shM 0 0 mX9_number 0 [some (pR 0), some (pI v)] [] h Post
  refine Ok.aload_n (pc' := 1) rfl dX9_number_0 rfl ?_
  refine Ok.iconst (pc' := 2) in_0 dX9_number_1 rfl ?_
  refine Ok.iload_n (pc' := 3) rfl dX9_number_2 rfl ?_
  refine Ok.iconst (pc' := 4) in_0 dX9_number_3 rfl ?_
  refine Ok.callV (pc' := 7) (av := [pI 0, pI v, pI 0]) (rest := []) dX9_number_4 rfl (by decide) cvX9_number_134 (shM_0 _) rfl rfl rfl (leb rfl) (leb rfl) K (fun r1 h1 K => ?_)
  show Ok shM 0 0 mX9_number 7 [some (pR 0), some (pI v)] [pI r1] h1 Post
  exact Ok.iret dX9_number_7 rfl (by decide) K
theorem sX9_name_0 {k0 : Int} {h : Hp} {Post : Int → Hp → Prop}
    (K : Cl shM mX9_in [pL k0, pL 0, pL 39] h (fun r1 h1 => ((r1 = 0) → Post (-1) h1) ∧ ((¬ r1 = 0) → Cl shM mX9_comesUp [pR 0, pI 1, pI k0, pI 0] h1 (fun r2 h2 => Post r2 h2)))) :
    Cl shM mX9_name [pR 0, pI k0] h Post := by
  show Ok shM 0 0 mX9_name 0 [some (pR 0), some (pI k0)] [] h Post
  refine Ok.iload_n (pc' := 1) rfl dX9_name_0 rfl ?_
  refine Ok.i2l (pc' := 2) dX9_name_1 rfl ?_
  refine Ok.lconst (n := 0) (pc' := 3) ⟨by decide, by decide⟩ rfl dX9_name_2 rfl ?_
  refine Ok.ldc2 (n := 39) (pc' := 6) ⟨by decide, by decide⟩ wd_1167 dX9_name_3 rfl ?_
  refine Ok.callS (pc' := 9) (av := [pL k0, pL 0, pL 39]) (rest := []) dX9_name_6 rfl (by decide) cvX9_name_103 rfl rfl (leb rfl) (leb rfl) K (fun r1 h1 K => ?_)
  show Ok shM 0 0 mX9_name 9 [some (pR 0), some (pI k0)] [pI r1] h1 Post
  refine Ok.if_eq (tgt := 22) dX9_name_9 rfl rfl (fun c1 => ?_) (fun c1 => ?_)
  · replace K := K.1 c1
    refine Ok.iconst (pc' := 23) in_m1 dX9_name_22 rfl ?_
    exact Ok.iret dX9_name_23 rfl (by decide) K
  · replace K := K.2 c1
    refine Ok.aload_n (pc' := 13) rfl dX9_name_12 rfl ?_
    refine Ok.iconst (pc' := 14) in_1 dX9_name_13 rfl ?_
    refine Ok.iload_n (pc' := 15) rfl dX9_name_14 rfl ?_
    refine Ok.iconst (pc' := 16) in_0 dX9_name_15 rfl ?_
    refine Ok.callV (pc' := 19) (av := [pI 1, pI k0, pI 0]) (rest := []) dX9_name_16 rfl (by decide) cvX9_name_134 (shM_0 _) rfl rfl rfl (leb rfl) (leb rfl) K (fun r2 h2 K => ?_)
    show Ok shM 0 0 mX9_name 19 [some (pR 0), some (pI k0)] [pI r2] h2 Post
    refine Ok.goto (tgt := 23) dX9_name_19 rfl ?_
    exact Ok.iret dX9_name_23 rfl (by decide) K
theorem sX9_act_0 {op x y : Int} {h : Hp} {Post : Int → Hp → Prop}
    (K : Cl shM mX9_give [pR 0, pI x, pI y, pI (-4)] h (fun _ h1 => Cl shM mX9_in [pL op, pL 0, pL 5] h1 (fun r2 h2 => ((r2 = 0) → Post (-1) h2) ∧ ((¬ r2 = 0) → Cl shM mX9_comesUp [pR 0, pI 2, pI op, pI 2] h2 (fun r3 h3 => Post r3 h3))))) :
    Cl shM mX9_act [pR 0, pI op, pI x, pI y] h Post := by
  show Ok shM 0 0 mX9_act 0 [some (pR 0), some (pI op), some (pI x), some (pI y)] [] h Post
  refine Ok.aload_n (pc' := 1) rfl dX9_act_0 rfl ?_
  refine Ok.iload_n (pc' := 2) rfl dX9_act_1 rfl ?_
  refine Ok.iload_n (pc' := 3) rfl dX9_act_2 rfl ?_
  refine Ok.bipush (pc' := 5) ⟨by decide, by decide⟩ dX9_act_3 rfl ?_
  refine Ok.callV (pc' := 8) (av := [pI x, pI y, pI (-4)]) (rest := []) dX9_act_5 rfl (by decide) cvX9_act_140 (shM_0 _) rfl rfl rfl (leb rfl) (leb rfl) K (fun r_ h1 K => ?_)
  show Ok shM 0 0 mX9_act 8 [some (pR 0), some (pI op), some (pI x), some (pI y)] [] h1 Post
  refine Ok.iload_n (pc' := 9) rfl dX9_act_8 rfl ?_
  refine Ok.i2l (pc' := 10) dX9_act_9 rfl ?_
  refine Ok.lconst (n := 0) (pc' := 11) ⟨by decide, by decide⟩ rfl dX9_act_10 rfl ?_
  refine Ok.ldc2 (n := 5) (pc' := 14) ⟨by decide, by decide⟩ wd_1176 dX9_act_11 rfl ?_
  refine Ok.callS (pc' := 17) (av := [pL op, pL 0, pL 5]) (rest := []) dX9_act_14 rfl (by decide) cvX9_act_103 rfl rfl (leb rfl) (leb rfl) K (fun r2 h2 K => ?_)
  show Ok shM 0 0 mX9_act 17 [some (pR 0), some (pI op), some (pI x), some (pI y)] [pI r2] h2 Post
  refine Ok.if_eq (tgt := 30) dX9_act_17 rfl rfl (fun c1 => ?_) (fun c1 => ?_)
  · replace K := K.1 c1
    refine Ok.iconst (pc' := 31) in_m1 dX9_act_30 rfl ?_
    exact Ok.iret dX9_act_31 rfl (by decide) K
  · replace K := K.2 c1
    refine Ok.aload_n (pc' := 21) rfl dX9_act_20 rfl ?_
    refine Ok.iconst (pc' := 22) in_2 dX9_act_21 rfl ?_
    refine Ok.iload_n (pc' := 23) rfl dX9_act_22 rfl ?_
    refine Ok.iconst (pc' := 24) in_2 dX9_act_23 rfl ?_
    refine Ok.callV (pc' := 27) (av := [pI 2, pI op, pI 2]) (rest := []) dX9_act_24 rfl (by decide) cvX9_act_134 (shM_0 _) rfl rfl rfl (leb rfl) (leb rfl) K (fun r3 h3 K => ?_)
    show Ok shM 0 0 mX9_act 27 [some (pR 0), some (pI op), some (pI x), some (pI y)] [pI r3] h3 Post
    refine Ok.goto (tgt := 31) dX9_act_27 rfl ?_
    exact Ok.iret dX9_act_31 rfl (by decide) K
theorem sX9_join_0 {k0 t x y : Int} {h : Hp} {Post : Int → Hp → Prop}
    (K : ((k0 = 3) → Cl shM mX9_give [pR 0, pI t, pI x, pI y] h (fun _ h1 => Cl shM mX9_comesUp [pR 0, pI k0, pI 0, pI 3] h1 (fun r2 h2 => Post r2 h2))) ∧ ((k0 = 5 ∨ k0 = 8 ∨ k0 = 10) → Cl shM mX9_give [pR 0, pI x, pI y, pI (-4)] h (fun _ h3 => Cl shM mX9_comesUp [pR 0, pI k0, pI 0, pI 2] h3 (fun r4 h4 => Post r4 h4))) ∧ ((k0 = 7 ∨ k0 = 9 ∨ k0 = 11) → Cl shM mX9_give [pR 0, pI x, pI (-4), pI (-4)] h (fun _ h5 => ((¬ k0 = 11) → Cl shM mX9_comesUp [pR 0, pI k0, pI 0, pI 1] h5 (fun r6 h6 => Post r6 h6)) ∧ ((k0 = 11) → Post (-1) h5))) ∧ ((k0 < 3 ∨ 11 < k0 ∨ k0 = 4 ∨ k0 = 6) → Post (-1) h)) :
    Cl shM mX9_join [pR 0, pI k0, pI t, pI x, pI y] h Post := by
  show Ok shM 0 0 mX9_join 0 [some (pR 0), some (pI k0), some (pI t), some (pI x), some (pI y)] [] h Post
  refine Ok.iload_n (pc' := 1) rfl dX9_join_0 rfl ?_
  obtain ⟨Kc1_0, Kc1_1, Kc1_2, Kc1_3⟩ := K
  refine Ok.tsw dX9_join_1 rfl ⟨by decide, by decide⟩ (fun tgt ht => ?_)
  have hx : (k0 = 3) ∨ (k0 = 5 ∨ k0 = 8 ∨ k0 = 10) ∨ (k0 = 7 ∨ k0 = 9 ∨ k0 = 11) ∨ (k0 < 3 ∨ 11 < k0 ∨ k0 = 4 ∨ k0 = 6) := by omega
  rcases hx with c1 | c1 | c1 | c1
  · obtain rfl : 52 = tgt := by rw [c1] at ht; exact Int.ofNat.inj ht
    have K := Kc1_0 c1
    refine Ok.aload_n (pc' := 53) rfl dX9_join_52 rfl ?_
    refine Ok.iload_n (pc' := 54) rfl dX9_join_53 rfl ?_
    refine Ok.iload_n (pc' := 55) rfl dX9_join_54 rfl ?_
    refine Ok.iload (pc' := 57) rfl dX9_join_55 rfl ?_
    refine Ok.callV (pc' := 60) (av := [pI t, pI x, pI y]) (rest := []) dX9_join_57 rfl (by decide) cvX9_join_140 (shM_0 _) rfl rfl rfl (leb rfl) (leb rfl) K (fun r_ h1 K => ?_)
    show Ok shM 0 0 mX9_join 60 [some (pR 0), some (pI k0), some (pI t), some (pI x), some (pI y)] [] h1 Post
    refine Ok.aload_n (pc' := 61) rfl dX9_join_60 rfl ?_
    refine Ok.iload_n (pc' := 62) rfl dX9_join_61 rfl ?_
    refine Ok.iconst (pc' := 63) in_0 dX9_join_62 rfl ?_
    refine Ok.iconst (pc' := 64) in_3 dX9_join_63 rfl ?_
    refine Ok.callV (pc' := 67) (av := [pI k0, pI 0, pI 3]) (rest := []) dX9_join_64 rfl (by decide) cvX9_join_134 (shM_0 _) rfl rfl rfl (leb rfl) (leb rfl) K (fun r2 h2 K => ?_)
    show Ok shM 0 0 mX9_join 67 [some (pR 0), some (pI k0), some (pI t), some (pI x), some (pI y)] [pI r2] h2 Post
    exact Ok.iret dX9_join_67 rfl (by decide) K
  · obtain rfl : 68 = tgt := by rcases c1 with q | q | q <;> (rw [q] at ht; exact Int.ofNat.inj ht)
    have K := Kc1_1 c1
    refine Ok.aload_n (pc' := 69) rfl dX9_join_68 rfl ?_
    refine Ok.iload_n (pc' := 70) rfl dX9_join_69 rfl ?_
    refine Ok.iload (pc' := 72) rfl dX9_join_70 rfl ?_
    refine Ok.bipush (pc' := 74) ⟨by decide, by decide⟩ dX9_join_72 rfl ?_
    refine Ok.callV (pc' := 77) (av := [pI x, pI y, pI (-4)]) (rest := []) dX9_join_74 rfl (by decide) cvX9_join_140 (shM_0 _) rfl rfl rfl (leb rfl) (leb rfl) K (fun r_ h3 K => ?_)
    show Ok shM 0 0 mX9_join 77 [some (pR 0), some (pI k0), some (pI t), some (pI x), some (pI y)] [] h3 Post
    refine Ok.aload_n (pc' := 78) rfl dX9_join_77 rfl ?_
    refine Ok.iload_n (pc' := 79) rfl dX9_join_78 rfl ?_
    refine Ok.iconst (pc' := 80) in_0 dX9_join_79 rfl ?_
    refine Ok.iconst (pc' := 81) in_2 dX9_join_80 rfl ?_
    refine Ok.callV (pc' := 84) (av := [pI k0, pI 0, pI 2]) (rest := []) dX9_join_81 rfl (by decide) cvX9_join_134 (shM_0 _) rfl rfl rfl (leb rfl) (leb rfl) K (fun r4 h4 K => ?_)
    show Ok shM 0 0 mX9_join 84 [some (pR 0), some (pI k0), some (pI t), some (pI x), some (pI y)] [pI r4] h4 Post
    exact Ok.iret dX9_join_84 rfl (by decide) K
  · obtain rfl : 85 = tgt := by rcases c1 with q | q | q <;> (rw [q] at ht; exact Int.ofNat.inj ht)
    have K := Kc1_2 c1
    refine Ok.aload_n (pc' := 86) rfl dX9_join_85 rfl ?_
    refine Ok.iload_n (pc' := 87) rfl dX9_join_86 rfl ?_
    refine Ok.bipush (pc' := 89) ⟨by decide, by decide⟩ dX9_join_87 rfl ?_
    refine Ok.bipush (pc' := 91) ⟨by decide, by decide⟩ dX9_join_89 rfl ?_
    refine Ok.callV (pc' := 94) (av := [pI x, pI (-4), pI (-4)]) (rest := []) dX9_join_91 rfl (by decide) cvX9_join_140 (shM_0 _) rfl rfl rfl (leb rfl) (leb rfl) K (fun r_ h5 K => ?_)
    show Ok shM 0 0 mX9_join 94 [some (pR 0), some (pI k0), some (pI t), some (pI x), some (pI y)] [] h5 Post
    refine Ok.iload_n (pc' := 95) rfl dX9_join_94 rfl ?_
    refine Ok.bipush (pc' := 97) ⟨by decide, by decide⟩ dX9_join_95 rfl ?_
    refine Ok.icmp_ne (tgt := 104) dX9_join_97 rfl rfl (fun c2 => ?_) (fun c2 => ?_)
    · replace K := K.1 c2
      refine Ok.aload_n (pc' := 105) rfl dX9_join_104 rfl ?_
      refine Ok.iload_n (pc' := 106) rfl dX9_join_105 rfl ?_
      refine Ok.iconst (pc' := 107) in_0 dX9_join_106 rfl ?_
      refine Ok.iconst (pc' := 108) in_1 dX9_join_107 rfl ?_
      refine Ok.callV (pc' := 111) (av := [pI k0, pI 0, pI 1]) (rest := []) dX9_join_108 rfl (by decide) cvX9_join_134 (shM_0 _) rfl rfl rfl (leb rfl) (leb rfl) K (fun r6 h6 K => ?_)
      show Ok shM 0 0 mX9_join 111 [some (pR 0), some (pI k0), some (pI t), some (pI x), some (pI y)] [pI r6] h6 Post
      exact Ok.iret dX9_join_111 rfl (by decide) K
    · replace K := K.2 c2
      refine Ok.iconst (pc' := 101) in_m1 dX9_join_100 rfl ?_
      refine Ok.goto (tgt := 111) dX9_join_101 rfl ?_
      exact Ok.iret dX9_join_111 rfl (by decide) K
  · obtain rfl : 112 = tgt := by
      rcases c1 with q | q | q | q
      · rw [swT_out (Or.inl q)] at ht; exact Int.ofNat.inj ht
      · rw [swT_out (Or.inr q)] at ht; exact Int.ofNat.inj ht
      · rw [q] at ht; exact Int.ofNat.inj ht
      · rw [q] at ht; exact Int.ofNat.inj ht
    have K := Kc1_3 c1
    refine Ok.iconst (pc' := 113) in_m1 dX9_join_112 rfl ?_
    exact Ok.iret dX9_join_113 rfl (by decide) K
theorem sX9_set_0 {k0 x : Int} {h : Hp} {Post : Int → Hp → Prop}
    (K : Cl shM mX9_give [pR 0, pI x, pI (-4), pI (-4)] h (fun _ h1 => Cl shM mX9_in [pL k0, pL 0, pL 39] h1 (fun r2 h2 => ((r2 = 0) → Post (-1) h2) ∧ ((¬ r2 = 0) → Cl shM mX9_comesUp [pR 0, pI 4, pI k0, pI 1] h2 (fun r3 h3 => Post r3 h3))))) :
    Cl shM mX9_set [pR 0, pI k0, pI x] h Post := by
  show Ok shM 0 0 mX9_set 0 [some (pR 0), some (pI k0), some (pI x)] [] h Post
  refine Ok.aload_n (pc' := 1) rfl dX9_set_0 rfl ?_
  refine Ok.iload_n (pc' := 2) rfl dX9_set_1 rfl ?_
  refine Ok.bipush (pc' := 4) ⟨by decide, by decide⟩ dX9_set_2 rfl ?_
  refine Ok.bipush (pc' := 6) ⟨by decide, by decide⟩ dX9_set_4 rfl ?_
  refine Ok.callV (pc' := 9) (av := [pI x, pI (-4), pI (-4)]) (rest := []) dX9_set_6 rfl (by decide) cvX9_set_140 (shM_0 _) rfl rfl rfl (leb rfl) (leb rfl) K (fun r_ h1 K => ?_)
  show Ok shM 0 0 mX9_set 9 [some (pR 0), some (pI k0), some (pI x)] [] h1 Post
  refine Ok.iload_n (pc' := 10) rfl dX9_set_9 rfl ?_
  refine Ok.i2l (pc' := 11) dX9_set_10 rfl ?_
  refine Ok.lconst (n := 0) (pc' := 12) ⟨by decide, by decide⟩ rfl dX9_set_11 rfl ?_
  refine Ok.ldc2 (n := 39) (pc' := 15) ⟨by decide, by decide⟩ wd_1167 dX9_set_12 rfl ?_
  refine Ok.callS (pc' := 18) (av := [pL k0, pL 0, pL 39]) (rest := []) dX9_set_15 rfl (by decide) cvX9_set_103 rfl rfl (leb rfl) (leb rfl) K (fun r2 h2 K => ?_)
  show Ok shM 0 0 mX9_set 18 [some (pR 0), some (pI k0), some (pI x)] [pI r2] h2 Post
  refine Ok.if_eq (tgt := 31) dX9_set_18 rfl rfl (fun c1 => ?_) (fun c1 => ?_)
  · replace K := K.1 c1
    refine Ok.iconst (pc' := 32) in_m1 dX9_set_31 rfl ?_
    exact Ok.iret dX9_set_32 rfl (by decide) K
  · replace K := K.2 c1
    refine Ok.aload_n (pc' := 22) rfl dX9_set_21 rfl ?_
    refine Ok.iconst (pc' := 23) in_4 dX9_set_22 rfl ?_
    refine Ok.iload_n (pc' := 24) rfl dX9_set_23 rfl ?_
    refine Ok.iconst (pc' := 25) in_1 dX9_set_24 rfl ?_
    refine Ok.callV (pc' := 28) (av := [pI 4, pI k0, pI 1]) (rest := []) dX9_set_25 rfl (by decide) cvX9_set_134 (shM_0 _) rfl rfl rfl (leb rfl) (leb rfl) K (fun r3 h3 K => ?_)
    show Ok shM 0 0 mX9_set 28 [some (pR 0), some (pI k0), some (pI x)] [pI r3] h3 Post
    refine Ok.goto (tgt := 32) dX9_set_28 rfl ?_
    exact Ok.iret dX9_set_32 rfl (by decide) K
theorem sX9_call_0 {r x y z : Int} {h : Hp} {Post : Int → Hp → Prop}
    (K : Cl shM mX9_give [pR 0, pI x, pI y, pI z] h (fun _ h1 => Cl shM mX9_isRoutine [pR 0, pI r] h1 (fun r2 h2 => ((r2 = 0) → Post (-1) h2) ∧ ((¬ r2 = 0) → ∃ k2 : Nat, r = (k2 : Int) ∧ k2 < 10 ∧ (Cl shM mX9_comesUp [pR 0, pI 6, pI r, pI (h2.1 6 k2)] h2 (fun r3 h3 => Post r3 h3)))))) :
    Cl shM mX9_call [pR 0, pI r, pI x, pI y, pI z] h Post := by
  show Ok shM 0 0 mX9_call 0 [some (pR 0), some (pI r), some (pI x), some (pI y), some (pI z)] [] h Post
  refine Ok.aload_n (pc' := 1) rfl dX9_call_0 rfl ?_
  refine Ok.iload_n (pc' := 2) rfl dX9_call_1 rfl ?_
  refine Ok.iload_n (pc' := 3) rfl dX9_call_2 rfl ?_
  refine Ok.iload (pc' := 5) rfl dX9_call_3 rfl ?_
  refine Ok.callV (pc' := 8) (av := [pI x, pI y, pI z]) (rest := []) dX9_call_5 rfl (by decide) cvX9_call_140 (shM_0 _) rfl rfl rfl (leb rfl) (leb rfl) K (fun r_ h1 K => ?_)
  show Ok shM 0 0 mX9_call 8 [some (pR 0), some (pI r), some (pI x), some (pI y), some (pI z)] [] h1 Post
  refine Ok.aload_n (pc' := 9) rfl dX9_call_8 rfl ?_
  refine Ok.iload_n (pc' := 10) rfl dX9_call_9 rfl ?_
  refine Ok.callV (pc' := 13) (av := [pI r]) (rest := []) dX9_call_10 rfl (by decide) cvX9_call_145 (shM_0 _) rfl rfl rfl (leb rfl) (leb rfl) K (fun r2 h2 K => ?_)
  show Ok shM 0 0 mX9_call 13 [some (pR 0), some (pI r), some (pI x), some (pI y), some (pI z)] [pI r2] h2 Post
  refine Ok.if_eq (tgt := 32) dX9_call_13 rfl rfl (fun c1 => ?_) (fun c1 => ?_)
  · replace K := K.1 c1
    refine Ok.iconst (pc' := 33) in_m1 dX9_call_32 rfl ?_
    exact Ok.iret dX9_call_33 rfl (by decide) K
  · replace K := K.2 c1
    refine Ok.aload_n (pc' := 17) rfl dX9_call_16 rfl ?_
    refine Ok.bipush (pc' := 19) ⟨by decide, by decide⟩ dX9_call_17 rfl ?_
    refine Ok.iload_n (pc' := 20) rfl dX9_call_19 rfl ?_
    refine Ok.aload_n (pc' := 21) rfl dX9_call_20 rfl ?_
    refine Ok.getR (pc' := 24) (k := 7) dX9_call_21 rfl (shM_0 _) rfl inX9 (by decide) rfl wd_988 rfl ?_
    refine Ok.iload_n (pc' := 25) rfl dX9_call_24 rfl ?_
    obtain ⟨k2, e2, q2, K⟩ := K
    refine Ok.iald (pc' := 26) (z := h2.1 6 k2) dX9_call_25 rfl (shM_6 _) (by decide) e2 q2 rfl ?_
    refine Ok.callV (pc' := 29) (av := [pI 6, pI r, pI (h2.1 6 k2)]) (rest := []) dX9_call_26 rfl (by decide) cvX9_call_134 (shM_0 _) rfl rfl rfl (leb rfl) (leb rfl) K (fun r3 h3 K => ?_)
    show Ok shM 0 0 mX9_call 29 [some (pR 0), some (pI r), some (pI x), some (pI y), some (pI z)] [pI r3] h3 Post
    refine Ok.goto (tgt := 33) dX9_call_29 rfl ?_
    exact Ok.iret dX9_call_33 rfl (by decide) K
theorem sX9_routine_0 {n : Int} {h : Hp} {Post : Int → Hp → Prop}
    (K : Cl shM mX9_in [pL n, pL 0, pL 3] h (fun r1 h1 => ((¬ r1 = 0) → ((¬ h1.2.1 0 6 = 10) → ∃ k3 : Nat, h1.2.1 0 6 = (k3 : Int) ∧ k3 < 10 ∧ (inR ((h1.2.1 0 6 + 1)) ∧ (inR (((h1.2.1 0 6 + 1) - 1)) ∧ (Post ((h1.2.1 0 6 + 1) - 1) (hI (hI (hA (hA h1 6 k3 n) 7 k3 (-4)) 0 6 (h1.2.1 0 6 + 1)) 0 13 0))))) ∧ ((h1.2.1 0 6 = 10) → Post (-3) h1)) ∧ ((r1 = 0) → Post (-1) h1))) :
    Cl shM mX9_routine [pR 0, pI n] h Post := by
  show Ok shM 0 0 mX9_routine 0 [some (pR 0), some (pI n)] [] h Post
  refine Ok.iload_n (pc' := 1) rfl dX9_routine_0 rfl ?_
  refine Ok.i2l (pc' := 2) dX9_routine_1 rfl ?_
  refine Ok.lconst (n := 0) (pc' := 3) ⟨by decide, by decide⟩ rfl dX9_routine_2 rfl ?_
  refine Ok.ldc2 (n := 3) (pc' := 6) ⟨by decide, by decide⟩ wd_1197 dX9_routine_3 rfl ?_
  refine Ok.callS (pc' := 9) (av := [pL n, pL 0, pL 3]) (rest := []) dX9_routine_6 rfl (by decide) cvX9_routine_103 rfl rfl (leb rfl) (leb rfl) K (fun r1 h1 K => ?_)
  show Ok shM 0 0 mX9_routine 9 [some (pR 0), some (pI n)] [pI r1] h1 Post
  refine Ok.if_ne (tgt := 14) dX9_routine_9 rfl rfl (fun c1 => ?_) (fun c1 => ?_)
  · replace K := K.1 c1
    refine Ok.aload_n (pc' := 15) rfl dX9_routine_14 rfl ?_
    refine Ok.getI (pc' := 18) (z := h1.2.1 0 6) (k := 6) dX9_routine_15 rfl (shM_0 _) rfl inX9 (by decide) rfl rfl wd_987 rfl ?_
    refine Ok.bipush (pc' := 20) ⟨by decide, by decide⟩ dX9_routine_18 rfl ?_
    refine Ok.icmp_ne (tgt := 26) dX9_routine_20 rfl rfl (fun c2 => ?_) (fun c2 => ?_)
    · replace K := K.1 c2
      refine Ok.aload_n (pc' := 27) rfl dX9_routine_26 rfl ?_
      refine Ok.getR (pc' := 30) (k := 7) dX9_routine_27 rfl (shM_0 _) rfl inX9 (by decide) rfl wd_988 rfl ?_
      refine Ok.aload_n (pc' := 31) rfl dX9_routine_30 rfl ?_
      refine Ok.getI (pc' := 34) (z := h1.2.1 0 6) (k := 6) dX9_routine_31 rfl (shM_0 _) rfl inX9 (by decide) rfl rfl wd_987 rfl ?_
      refine Ok.iload_n (pc' := 35) rfl dX9_routine_34 rfl ?_
      obtain ⟨k3, e3, q3, K⟩ := K
      refine Ok.iast (pc' := 36) dX9_routine_35 rfl (shM_6 _) (by decide) e3 q3 ?_
      refine Ok.aload_n (pc' := 37) rfl dX9_routine_36 rfl ?_
      refine Ok.getR (pc' := 40) (k := 8) dX9_routine_37 rfl (shM_0 _) rfl inX9 (by decide) rfl wd_989 rfl ?_
      refine Ok.aload_n (pc' := 41) rfl dX9_routine_40 rfl ?_
      refine Ok.getI (pc' := 44) (z := h1.2.1 0 6) (k := 6) dX9_routine_41 rfl (shM_0 _) rfl inX9 (by decide) rfl rfl wd_987 rfl ?_
      refine Ok.bipush (pc' := 46) ⟨by decide, by decide⟩ dX9_routine_44 rfl ?_
      refine Ok.iast (pc' := 47) dX9_routine_46 rfl (shM_7 _) (by decide) e3 q3 ?_
      refine Ok.aload_n (pc' := 48) rfl dX9_routine_47 rfl ?_
      refine Ok.dup (pc' := 49) dX9_routine_48 rfl rfl ?_
      refine Ok.getI (pc' := 52) (z := h1.2.1 0 6) (k := 6) dX9_routine_49 rfl (shM_0 _) rfl inX9 (by decide) rfl rfl wd_987 rfl ?_
      refine Ok.iconst (pc' := 53) in_1 dX9_routine_52 rfl ?_
      obtain ⟨q4, K⟩ := K
      refine Ok.iadd (pc' := 54) dX9_routine_53 rfl q4 ?_
      refine Ok.putI (pc' := 57) (k := 6) dX9_routine_54 rfl (shM_0 _) rfl inX9 tyX9 tyX9_ok nmX9 (by decide) rfl wd_987 rfl rfl (Or.inl rfl) ?_
      refine Ok.aload_n (pc' := 58) rfl dX9_routine_57 rfl ?_
      refine Ok.iconst (pc' := 59) in_0 dX9_routine_58 rfl ?_
      refine Ok.putI (pc' := 62) (k := 13) dX9_routine_59 rfl (shM_0 _) rfl inX9 tyX9 tyX9_ok nmX9 (by decide) rfl wd_994 rfl rfl (Or.inl rfl) ?_
      refine Ok.aload_n (pc' := 63) rfl dX9_routine_62 rfl ?_
      refine Ok.getI (pc' := 66) (z := (h1.2.1 0 6 + 1)) (k := 6) dX9_routine_63 rfl (shM_0 _) rfl inX9 (by decide) rfl rfl wd_987 rfl ?_
      refine Ok.iconst (pc' := 67) in_1 dX9_routine_66 rfl ?_
      obtain ⟨q5, K⟩ := K
      refine Ok.isub (pc' := 68) dX9_routine_67 rfl q5 ?_
      exact Ok.iret dX9_routine_68 rfl (by decide) K
    · replace K := K.2 c2
      refine Ok.bipush (pc' := 25) ⟨by decide, by decide⟩ dX9_routine_23 rfl ?_
      exact Ok.iret dX9_routine_25 rfl (by decide) K
  · replace K := K.2 c1
    refine Ok.iconst (pc' := 13) in_m1 dX9_routine_12 rfl ?_
    exact Ok.iret dX9_routine_13 rfl (by decide) K
theorem sX9_body_0 {r step : Int} {h : Hp} {Post : Int → Hp → Prop}
    (K : Cl shM mX9_isRoutine [pR 0, pI r] h (fun r1 h1 => ((r1 = 0) → Post (-1) h1) ∧ ((¬ r1 = 0) → ((step = (-1)) → Cl shM mX9_keep [pR 0] h1 (fun _ h2 => ∃ k3 : Nat, r = (k3 : Int) ∧ k3 < 10 ∧ (Cl shM mX9_uses [pR 0, pI r] (hA h2 7 k3 (-4)) (fun r3 h3 => Post r3 h3)))) ∧ ((¬ step = (-1)) → Cl shM mX9_isLoose [pR 0, pI step] h1 (fun r4 h4 => ((¬ r4 = 0) → Cl shM mX9_keep [pR 0] h4 (fun _ h5 => ∃ k4 : Nat, r = (k4 : Int) ∧ k4 < 10 ∧ (Cl shM mX9_uses [pR 0, pI r] (hA h5 7 k4 step) (fun r6 h6 => Post r6 h6)))) ∧ ((r4 = 0) → Post (-1) h4)))))) :
    Cl shM mX9_body [pR 0, pI r, pI step] h Post := by
  show Ok shM 0 0 mX9_body 0 [some (pR 0), some (pI r), some (pI step)] [] h Post
  refine Ok.aload_n (pc' := 1) rfl dX9_body_0 rfl ?_
  refine Ok.iload_n (pc' := 2) rfl dX9_body_1 rfl ?_
  refine Ok.callV (pc' := 5) (av := [pI r]) (rest := []) dX9_body_2 rfl (by decide) cvX9_body_145 (shM_0 _) rfl rfl rfl (leb rfl) (leb rfl) K (fun r1 h1 K => ?_)
  show Ok shM 0 0 mX9_body 5 [some (pR 0), some (pI r), some (pI step)] [pI r1] h1 Post
  refine Ok.if_eq (tgt := 21) dX9_body_5 rfl rfl (fun c1 => ?_) (fun c1 => ?_)
  · replace K := K.1 c1
    refine Ok.iconst (pc' := 22) in_m1 dX9_body_21 rfl ?_
    exact Ok.iret dX9_body_22 rfl (by decide) K
  · replace K := K.2 c1
    refine Ok.iload_n (pc' := 9) rfl dX9_body_8 rfl ?_
    refine Ok.iconst (pc' := 10) in_m1 dX9_body_9 rfl ?_
    refine Ok.icmp_eq (tgt := 23) dX9_body_10 rfl rfl (fun c2 => ?_) (fun c2 => ?_)
    · replace K := K.1 c2
      refine Ok.aload_n (pc' := 24) rfl dX9_body_23 rfl ?_
      refine Ok.callV (pc' := 27) (av := []) (rest := []) dX9_body_24 rfl (by decide) cvX9_body_150 (shM_0 _) rfl rfl rfl (leb rfl) (leb rfl) K (fun r_ h2 K => ?_)
      show Ok shM 0 0 mX9_body 27 [some (pR 0), some (pI r), some (pI step)] [] h2 Post
      refine Ok.aload_n (pc' := 28) rfl dX9_body_27 rfl ?_
      refine Ok.getR (pc' := 31) (k := 8) dX9_body_28 rfl (shM_0 _) rfl inX9 (by decide) rfl wd_989 rfl ?_
      refine Ok.iload_n (pc' := 32) rfl dX9_body_31 rfl ?_
      refine Ok.iload_n (pc' := 33) rfl dX9_body_32 rfl ?_
      refine Ok.iconst (pc' := 34) in_m1 dX9_body_33 rfl ?_
      refine Ok.icmp_ne (tgt := 42) dX9_body_34 rfl rfl (fun z => absurd c2 z) (fun _ => ?_)
      refine Ok.bipush (pc' := 39) ⟨by decide, by decide⟩ dX9_body_37 rfl ?_
      refine Ok.goto (tgt := 43) dX9_body_39 rfl ?_
      obtain ⟨k3, e3, q3, K⟩ := K
      refine Ok.iast (pc' := 44) dX9_body_43 rfl (shM_7 _) (by decide) e3 q3 ?_
      refine Ok.aload_n (pc' := 45) rfl dX9_body_44 rfl ?_
      refine Ok.iload_n (pc' := 46) rfl dX9_body_45 rfl ?_
      refine Ok.callV (pc' := 49) (av := [pI r]) (rest := []) dX9_body_46 rfl (by decide) cvX9_body_153 (shM_0 _) rfl rfl rfl (leb rfl) (leb rfl) K (fun r3 h3 K => ?_)
      show Ok shM 0 0 mX9_body 49 [some (pR 0), some (pI r), some (pI step)] [pI r3] h3 Post
      exact Ok.iret dX9_body_49 rfl (by decide) K
    · replace K := K.2 c2
      refine Ok.aload_n (pc' := 14) rfl dX9_body_13 rfl ?_
      refine Ok.iload_n (pc' := 15) rfl dX9_body_14 rfl ?_
      refine Ok.callV (pc' := 18) (av := [pI step]) (rest := []) dX9_body_15 rfl (by decide) cvX9_body_117 (shM_0 _) rfl rfl rfl (leb rfl) (leb rfl) K (fun r4 h4 K => ?_)
      show Ok shM 0 0 mX9_body 18 [some (pR 0), some (pI r), some (pI step)] [pI r4] h4 Post
      refine Ok.if_ne (tgt := 23) dX9_body_18 rfl rfl (fun c3 => ?_) (fun c3 => ?_)
      · replace K := K.1 c3
        refine Ok.aload_n (pc' := 24) rfl dX9_body_23 rfl ?_
        refine Ok.callV (pc' := 27) (av := []) (rest := []) dX9_body_24 rfl (by decide) cvX9_body_150 (shM_0 _) rfl rfl rfl (leb rfl) (leb rfl) K (fun r_ h5 K => ?_)
        show Ok shM 0 0 mX9_body 27 [some (pR 0), some (pI r), some (pI step)] [] h5 Post
        refine Ok.aload_n (pc' := 28) rfl dX9_body_27 rfl ?_
        refine Ok.getR (pc' := 31) (k := 8) dX9_body_28 rfl (shM_0 _) rfl inX9 (by decide) rfl wd_989 rfl ?_
        refine Ok.iload_n (pc' := 32) rfl dX9_body_31 rfl ?_
        refine Ok.iload_n (pc' := 33) rfl dX9_body_32 rfl ?_
        refine Ok.iconst (pc' := 34) in_m1 dX9_body_33 rfl ?_
        refine Ok.icmp_ne (tgt := 42) dX9_body_34 rfl rfl (fun _ => ?_) (fun z => absurd z c2)
        refine Ok.iload_n (pc' := 43) rfl dX9_body_42 rfl ?_
        obtain ⟨k4, e4, q4, K⟩ := K
        refine Ok.iast (pc' := 44) dX9_body_43 rfl (shM_7 _) (by decide) e4 q4 ?_
        refine Ok.aload_n (pc' := 45) rfl dX9_body_44 rfl ?_
        refine Ok.iload_n (pc' := 46) rfl dX9_body_45 rfl ?_
        refine Ok.callV (pc' := 49) (av := [pI r]) (rest := []) dX9_body_46 rfl (by decide) cvX9_body_153 (shM_0 _) rfl rfl rfl (leb rfl) (leb rfl) K (fun r6 h6 K => ?_)
        show Ok shM 0 0 mX9_body 49 [some (pR 0), some (pI r), some (pI step)] [pI r6] h6 Post
        exact Ok.iret dX9_body_49 rfl (by decide) K
      · replace K := K.2 c3
        refine Ok.iconst (pc' := 22) in_m1 dX9_body_21 rfl ?_
        exact Ok.iret dX9_body_22 rfl (by decide) K
theorem sX9_told_0 {step what : Int} {h : Hp} {Post : Int → Hp → Prop}
    (K : inR ((h.2.1 0 0 - 1)) ∧ (Cl shM mX9_in [pL step, pL 0, pL (h.2.1 0 0 - 1)] h (fun r1 h1 => ((r1 = 0) → Post (-1000000000) h1) ∧ ((¬ r1 = 0) → Cl shM mX9_in [pL what, pL 0, pL 8] h1 (fun r2 h2 => ((¬ r2 = 0) → ∃ k4 : Nat, step = (k4 : Int) ∧ k4 < 600 ∧ (((¬ h2.1 1 k4 = (-1)) → ((what = 0) → Post (h2.1 1 k4) h2) ∧ ((what = 1) → Post (h2.1 2 k4) h2) ∧ ((what = 5) → Post (h2.1 4 k4) h2) ∧ ((what = 6) → Cl shM mX9_homeOf [pR 0, pI step] h2 (fun r3 h3 => Post r3 h3)) ∧ ((what = 7) → Post (h2.1 5 k4) h2) ∧ ((what = 8) → Cl shM mX9_goes [pR 0, pI step] h2 (fun r4 h4 => Post r4 h4)) ∧ ((what < 0 ∨ 8 < what ∨ what = 2 ∨ what = 3 ∨ what = 4) → inR ((what - 2)) ∧ (Cl shM mX9_partsOf [pR 0, pI step] h2 (fun r5 h5 => ((r5 ≤ (what - 2)) → Post (-4) h5) ∧ ((¬ r5 ≤ (what - 2)) → inR ((3 * step)) ∧ (inR (((3 * step) + what)) ∧ (inR ((((3 * step) + what) - 2)) ∧ (∃ k12 : Nat, (((3 * step) + what) - 2) = (k12 : Int) ∧ k12 < 1800 ∧ (Post (h5.1 3 k12) h5))))))))) ∧ ((h2.1 1 k4 = (-1)) → ((¬ what = 0) → ((what = 1) → Post 0 h2) ∧ ((¬ what = 1) → ((what ≤ 6) → Post (-4) h2) ∧ ((¬ what ≤ 6) → Post 0 h2))) ∧ ((what = 0) → Post (-1) h2)))) ∧ ((r2 = 0) → Post (-1000000000) h2)))))) :
    Cl shM mX9_told [pR 0, pI step, pI what] h Post := by
  show Ok shM 0 0 mX9_told 0 [some (pR 0), some (pI step), some (pI what)] [] h Post
  refine Ok.iload_n (pc' := 1) rfl dX9_told_0 rfl ?_
  refine Ok.i2l (pc' := 2) dX9_told_1 rfl ?_
  refine Ok.lconst (n := 0) (pc' := 3) ⟨by decide, by decide⟩ rfl dX9_told_2 rfl ?_
  refine Ok.aload_n (pc' := 4) rfl dX9_told_3 rfl ?_
  refine Ok.getI (pc' := 7) (z := h.2.1 0 0) (k := 0) dX9_told_4 rfl (shM_0 _) rfl inX9 (by decide) rfl rfl wd_981 rfl ?_
  refine Ok.iconst (pc' := 8) in_1 dX9_told_7 rfl ?_
  obtain ⟨q1, K⟩ := K
  refine Ok.isub (pc' := 9) dX9_told_8 rfl q1 ?_
  refine Ok.i2l (pc' := 10) dX9_told_9 rfl ?_
  refine Ok.callS (pc' := 13) (av := [pL step, pL 0, pL (h.2.1 0 0 - 1)]) (rest := []) dX9_told_10 rfl (by decide) cvX9_told_103 rfl rfl (leb rfl) (leb rfl) K (fun r1 h1 K => ?_)
  show Ok shM 0 0 mX9_told 13 [some (pR 0), some (pI step), some (pI what)] [pI r1] h1 Post
  refine Ok.if_eq (tgt := 28) dX9_told_13 rfl rfl (fun c2 => ?_) (fun c2 => ?_)
  · replace K := K.1 c2
    refine Ok.ldc (n := (-1000000000)) (pc' := 30) ⟨by decide, by decide⟩ wd_1228 (by decide) dX9_told_28 rfl ?_
    exact Ok.iret dX9_told_30 rfl (by decide) K
  · replace K := K.2 c2
    refine Ok.iload_n (pc' := 17) rfl dX9_told_16 rfl ?_
    refine Ok.i2l (pc' := 18) dX9_told_17 rfl ?_
    refine Ok.lconst (n := 0) (pc' := 19) ⟨by decide, by decide⟩ rfl dX9_told_18 rfl ?_
    refine Ok.ldc2 (n := 8) (pc' := 22) ⟨by decide, by decide⟩ wd_1227 dX9_told_19 rfl ?_
    refine Ok.callS (pc' := 25) (av := [pL what, pL 0, pL 8]) (rest := []) dX9_told_22 rfl (by decide) cvX9_told_103 rfl rfl (leb rfl) (leb rfl) K (fun r2 h2 K => ?_)
    show Ok shM 0 0 mX9_told 25 [some (pR 0), some (pI step), some (pI what)] [pI r2] h2 Post
    refine Ok.if_ne (tgt := 31) dX9_told_25 rfl rfl (fun c3 => ?_) (fun c3 => ?_)
    · replace K := K.1 c3
      refine Ok.aload_n (pc' := 32) rfl dX9_told_31 rfl ?_
      refine Ok.getR (pc' := 35) (k := 1) dX9_told_32 rfl (shM_0 _) rfl inX9 (by decide) rfl wd_982 rfl ?_
      refine Ok.iload_n (pc' := 36) rfl dX9_told_35 rfl ?_
      obtain ⟨k4, e4, q4, K⟩ := K
      refine Ok.iald (pc' := 37) (z := h2.1 1 k4) dX9_told_36 rfl (shM_1 _) (by decide) e4 q4 rfl ?_
      refine Ok.iconst (pc' := 38) in_m1 dX9_told_37 rfl ?_
      refine Ok.icmp_ne (tgt := 67) dX9_told_38 rfl rfl (fun c5 => ?_) (fun c5 => ?_)
      · replace K := K.1 c5
        refine Ok.iload_n (pc' := 68) rfl dX9_told_67 rfl ?_
        obtain ⟨Kc6_0, Kc6_1, Kc6_2, Kc6_3, Kc6_4, Kc6_5, Kc6_6⟩ := K
        refine Ok.tsw dX9_told_68 rfl ⟨by decide, by decide⟩ (fun tgt ht => ?_)
        have hx : (what = 0) ∨ (what = 1) ∨ (what = 5) ∨ (what = 6) ∨ (what = 7) ∨ (what = 8) ∨ (what < 0 ∨ 8 < what ∨ what = 2 ∨ what = 3 ∨ what = 4) := by omega
        rcases hx with c6 | c6 | c6 | c6 | c6 | c6 | c6
        · obtain rfl : 120 = tgt := by rw [c6] at ht; exact Int.ofNat.inj ht
          have K := Kc6_0 c6
          refine Ok.aload_n (pc' := 121) rfl dX9_told_120 rfl ?_
          refine Ok.getR (pc' := 124) (k := 1) dX9_told_121 rfl (shM_0 _) rfl inX9 (by decide) rfl wd_982 rfl ?_
          refine Ok.iload_n (pc' := 125) rfl dX9_told_124 rfl ?_
          refine Ok.iald (pc' := 126) (z := h2.1 1 k4) dX9_told_125 rfl (shM_1 _) (by decide) e4 q4 rfl ?_
          exact Ok.iret dX9_told_126 rfl (by decide) K
        · obtain rfl : 127 = tgt := by rw [c6] at ht; exact Int.ofNat.inj ht
          have K := Kc6_1 c6
          refine Ok.aload_n (pc' := 128) rfl dX9_told_127 rfl ?_
          refine Ok.getR (pc' := 131) (k := 2) dX9_told_128 rfl (shM_0 _) rfl inX9 (by decide) rfl wd_983 rfl ?_
          refine Ok.iload_n (pc' := 132) rfl dX9_told_131 rfl ?_
          refine Ok.iald (pc' := 133) (z := h2.1 2 k4) dX9_told_132 rfl (shM_2 _) (by decide) e4 q4 rfl ?_
          exact Ok.iret dX9_told_133 rfl (by decide) K
        · obtain rfl : 134 = tgt := by rw [c6] at ht; exact Int.ofNat.inj ht
          have K := Kc6_2 c6
          refine Ok.aload_n (pc' := 135) rfl dX9_told_134 rfl ?_
          refine Ok.getR (pc' := 138) (k := 4) dX9_told_135 rfl (shM_0 _) rfl inX9 (by decide) rfl wd_985 rfl ?_
          refine Ok.iload_n (pc' := 139) rfl dX9_told_138 rfl ?_
          refine Ok.iald (pc' := 140) (z := h2.1 4 k4) dX9_told_139 rfl (shM_4 _) (by decide) e4 q4 rfl ?_
          exact Ok.iret dX9_told_140 rfl (by decide) K
        · obtain rfl : 141 = tgt := by rw [c6] at ht; exact Int.ofNat.inj ht
          have K := Kc6_3 c6
          refine Ok.aload_n (pc' := 142) rfl dX9_told_141 rfl ?_
          refine Ok.iload_n (pc' := 143) rfl dX9_told_142 rfl ?_
          refine Ok.callV (pc' := 146) (av := [pI step]) (rest := []) dX9_told_143 rfl (by decide) cvX9_told_159 (shM_0 _) rfl rfl rfl (leb rfl) (leb rfl) K (fun r3 h3 K => ?_)
          show Ok shM 0 0 mX9_told 146 [some (pR 0), some (pI step), some (pI what)] [pI r3] h3 Post
          exact Ok.iret dX9_told_146 rfl (by decide) K
        · obtain rfl : 147 = tgt := by rw [c6] at ht; exact Int.ofNat.inj ht
          have K := Kc6_4 c6
          refine Ok.aload_n (pc' := 148) rfl dX9_told_147 rfl ?_
          refine Ok.getR (pc' := 151) (k := 5) dX9_told_148 rfl (shM_0 _) rfl inX9 (by decide) rfl wd_986 rfl ?_
          refine Ok.iload_n (pc' := 152) rfl dX9_told_151 rfl ?_
          refine Ok.iald (pc' := 153) (z := h2.1 5 k4) dX9_told_152 rfl (shM_5 _) (by decide) e4 q4 rfl ?_
          exact Ok.iret dX9_told_153 rfl (by decide) K
        · obtain rfl : 154 = tgt := by rw [c6] at ht; exact Int.ofNat.inj ht
          have K := Kc6_5 c6
          refine Ok.aload_n (pc' := 155) rfl dX9_told_154 rfl ?_
          refine Ok.iload_n (pc' := 156) rfl dX9_told_155 rfl ?_
          refine Ok.callV (pc' := 159) (av := [pI step]) (rest := []) dX9_told_156 rfl (by decide) cvX9_told_100 (shM_0 _) rfl rfl rfl (leb rfl) (leb rfl) K (fun r4 h4 K => ?_)
          show Ok shM 0 0 mX9_told 159 [some (pR 0), some (pI step), some (pI what)] [pI r4] h4 Post
          exact Ok.iret dX9_told_159 rfl (by decide) K
        · obtain rfl : 160 = tgt := by
            rcases c6 with q | q | q | q | q
            · rw [swT_out (Or.inl q)] at ht; exact Int.ofNat.inj ht
            · rw [swT_out (Or.inr q)] at ht; exact Int.ofNat.inj ht
            · rw [q] at ht; exact Int.ofNat.inj ht
            · rw [q] at ht; exact Int.ofNat.inj ht
            · rw [q] at ht; exact Int.ofNat.inj ht
          have K := Kc6_6 c6
          refine Ok.iload_n (pc' := 161) rfl dX9_told_160 rfl ?_
          refine Ok.iconst (pc' := 162) in_2 dX9_told_161 rfl ?_
          obtain ⟨q7, K⟩ := K
          refine Ok.isub (pc' := 163) dX9_told_162 rfl q7 ?_
          refine Ok.aload_n (pc' := 164) rfl dX9_told_163 rfl ?_
          refine Ok.iload_n (pc' := 165) rfl dX9_told_164 rfl ?_
          refine Ok.callV (pc' := 168) (av := [pI step]) (rest := [pI (what - 2)]) dX9_told_165 rfl (by decide) cvX9_told_96 (shM_0 _) rfl rfl rfl (leb rfl) (leb rfl) K (fun r5 h5 K => ?_)
          show Ok shM 0 0 mX9_told 168 [some (pR 0), some (pI step), some (pI what)] [pI r5, pI (what - 2)] h5 Post
          refine Ok.icmp_ge (tgt := 186) dX9_told_168 rfl rfl (fun c8 => ?_) (fun c8 => ?_)
          · replace K := K.1 c8
            refine Ok.bipush (pc' := 188) ⟨by decide, by decide⟩ dX9_told_186 rfl ?_
            exact Ok.iret dX9_told_188 rfl (by decide) K
          · replace K := K.2 c8
            refine Ok.aload_n (pc' := 172) rfl dX9_told_171 rfl ?_
            refine Ok.getR (pc' := 175) (k := 3) dX9_told_172 rfl (shM_0 _) rfl inX9 (by decide) rfl wd_984 rfl ?_
            refine Ok.iconst (pc' := 176) in_3 dX9_told_175 rfl ?_
            refine Ok.iload_n (pc' := 177) rfl dX9_told_176 rfl ?_
            obtain ⟨q9, K⟩ := K
            refine Ok.imul (pc' := 178) dX9_told_177 rfl q9 ?_
            refine Ok.iload_n (pc' := 179) rfl dX9_told_178 rfl ?_
            obtain ⟨q10, K⟩ := K
            refine Ok.iadd (pc' := 180) dX9_told_179 rfl q10 ?_
            refine Ok.iconst (pc' := 181) in_2 dX9_told_180 rfl ?_
            obtain ⟨q11, K⟩ := K
            refine Ok.isub (pc' := 182) dX9_told_181 rfl q11 ?_
            obtain ⟨k12, e12, q12, K⟩ := K
            refine Ok.iald (pc' := 183) (z := h5.1 3 k12) dX9_told_182 rfl (shM_3 _) (by decide) e12 q12 rfl ?_
            refine Ok.goto (tgt := 188) dX9_told_183 rfl ?_
            exact Ok.iret dX9_told_188 rfl (by decide) K
      · replace K := K.2 c5
        refine Ok.iload_n (pc' := 42) rfl dX9_told_41 rfl ?_
        refine Ok.if_ne (tgt := 49) dX9_told_42 rfl rfl (fun c6 => ?_) (fun c6 => ?_)
        · replace K := K.1 c6
          refine Ok.iload_n (pc' := 50) rfl dX9_told_49 rfl ?_
          refine Ok.iconst (pc' := 51) in_1 dX9_told_50 rfl ?_
          refine Ok.icmp_eq (tgt := 60) dX9_told_51 rfl rfl (fun c7 => ?_) (fun c7 => ?_)
          · replace K := K.1 c7
            refine Ok.iconst (pc' := 61) in_0 dX9_told_60 rfl ?_
            refine Ok.goto (tgt := 66) dX9_told_61 rfl ?_
            exact Ok.iret dX9_told_66 rfl (by decide) K
          · replace K := K.2 c7
            refine Ok.iload_n (pc' := 55) rfl dX9_told_54 rfl ?_
            refine Ok.bipush (pc' := 57) ⟨by decide, by decide⟩ dX9_told_55 rfl ?_
            refine Ok.icmp_le (tgt := 64) dX9_told_57 rfl rfl (fun c8 => ?_) (fun c8 => ?_)
            · replace K := K.1 c8
              refine Ok.bipush (pc' := 66) ⟨by decide, by decide⟩ dX9_told_64 rfl ?_
              exact Ok.iret dX9_told_66 rfl (by decide) K
            · replace K := K.2 c8
              refine Ok.iconst (pc' := 61) in_0 dX9_told_60 rfl ?_
              refine Ok.goto (tgt := 66) dX9_told_61 rfl ?_
              exact Ok.iret dX9_told_66 rfl (by decide) K
        · replace K := K.2 c6
          refine Ok.iconst (pc' := 46) in_m1 dX9_told_45 rfl ?_
          refine Ok.goto (tgt := 66) dX9_told_46 rfl ?_
          exact Ok.iret dX9_told_66 rfl (by decide) K
    · replace K := K.2 c3
      refine Ok.ldc (n := (-1000000000)) (pc' := 30) ⟨by decide, by decide⟩ wd_1228 (by decide) dX9_told_28 rfl ?_
      exact Ok.iret dX9_told_30 rfl (by decide) K
theorem sX9_callsIn_0 {body r : Int} {h : Hp} {Post : Int → Hp → Prop}
    (K : Cl shM mX9_goes [pR 0, pI body] h (fun r1 h1 => Ok shM 0 0 mX9_callsIn 12 [some (pR 0), none, some (pI r), some (pI r1), some (pI 0), some (pI 0)] [] h1 Post)) :
    Cl shM mX9_callsIn [pR 0, pI body, pI r] h Post := by
  show Ok shM 0 0 mX9_callsIn 0 [some (pR 0), some (pI body), some (pI r), none, none, none] [] h Post
  refine Ok.aload_n (pc' := 1) rfl dX9_callsIn_0 rfl ?_
  refine Ok.iload_n (pc' := 2) rfl dX9_callsIn_1 rfl ?_
  refine Ok.callV (pc' := 5) (av := [pI body]) (rest := []) dX9_callsIn_2 rfl (by decide) cvX9_callsIn_100 (shM_0 _) rfl rfl rfl (leb rfl) (leb rfl) K (fun r1 h1 K => ?_)
  show Ok shM 0 0 mX9_callsIn 5 [some (pR 0), some (pI body), some (pI r), none, none, none] [pI r1] h1 Post
  refine Ok.istore_n (pc' := 6) (ls' := [some (pR 0), some (pI body), some (pI r), some (pI r1), none, none]) dX9_callsIn_5 rfl (by decide) rfl rfl ?_
  refine Ok.iconst (pc' := 7) in_0 dX9_callsIn_6 rfl ?_
  refine Ok.istore (pc' := 9) (ls' := [some (pR 0), some (pI body), some (pI r), some (pI r1), some (pI 0), none]) dX9_callsIn_7 rfl (by decide) rfl rfl ?_
  refine Ok.iconst (pc' := 10) in_0 dX9_callsIn_9 rfl ?_
  refine Ok.istore (pc' := 12) (ls' := [some (pR 0), some (pI body), some (pI r), some (pI r1), some (pI 0), some (pI 0)]) dX9_callsIn_10 rfl (by decide) rfl rfl ?_
  exact Ok.fl (ls' := [some (pR 0), none, some (pI r), some (pI r1), some (pI 0), some (pI 0)]) K ⟨rfl, rfl, rfl, rfl, rfl, trivial⟩
theorem sX9_callsIn_12 {r v3 v4 v5 : Int} {h : Hp} {Post : Int → Hp → Prop}
    (K : ((v3 ≤ v5) → Post v4 h) ∧ ((¬ v3 ≤ v5) → ∃ k2 : Nat, v5 = (k2 : Int) ∧ k2 < 600 ∧ (∃ k3 : Nat, h.1 9 k2 = (k3 : Int) ∧ k3 < 600 ∧ (((¬ h.1 1 k3 = 6) → inR ((v4 + 0)) ∧ (inR ((v5 + 1)) ∧ (Ok shM 0 0 mX9_callsIn 12 [some (pR 0), none, some (pI r), some (pI v3), some (pI (v4 + 0)), some (pI (v5 + 1))] [] h Post))) ∧ ((h.1 1 k3 = 6) → ((r < 0) → inR ((v4 + 1)) ∧ (inR ((v5 + 1)) ∧ (Ok shM 0 0 mX9_callsIn 12 [some (pR 0), none, some (pI r), some (pI v3), some (pI (v4 + 1)), some (pI (v5 + 1))] [] h Post))) ∧ ((¬ r < 0) → ((¬ h.1 2 k3 = r) → inR ((v4 + 0)) ∧ (inR ((v5 + 1)) ∧ (Ok shM 0 0 mX9_callsIn 12 [some (pR 0), none, some (pI r), some (pI v3), some (pI (v4 + 0)), some (pI (v5 + 1))] [] h Post))) ∧ ((h.1 2 k3 = r) → inR ((v4 + 1)) ∧ (inR ((v5 + 1)) ∧ (Ok shM 0 0 mX9_callsIn 12 [some (pR 0), none, some (pI r), some (pI v3), some (pI (v4 + 1)), some (pI (v5 + 1))] [] h Post))))))))) :
    Ok shM 0 0 mX9_callsIn 12 [some (pR 0), none, some (pI r), some (pI v3), some (pI v4), some (pI v5)] [] h Post := by
  show Ok shM 0 0 mX9_callsIn 12 [some (pR 0), none, some (pI r), some (pI v3), some (pI v4), some (pI v5)] [] h Post
  refine Ok.iload (pc' := 14) rfl dX9_callsIn_12 rfl ?_
  refine Ok.iload_n (pc' := 15) rfl dX9_callsIn_14 rfl ?_
  refine Ok.icmp_ge (tgt := 71) dX9_callsIn_15 rfl rfl (fun c1 => ?_) (fun c1 => ?_)
  · replace K := K.1 c1
    refine Ok.iload (pc' := 73) rfl dX9_callsIn_71 rfl ?_
    exact Ok.iret dX9_callsIn_73 rfl (by decide) K
  · replace K := K.2 c1
    refine Ok.iload (pc' := 20) rfl dX9_callsIn_18 rfl ?_
    refine Ok.aload_n (pc' := 21) rfl dX9_callsIn_20 rfl ?_
    refine Ok.getR (pc' := 24) (k := 1) dX9_callsIn_21 rfl (shM_0 _) rfl inX9 (by decide) rfl wd_982 rfl ?_
    refine Ok.aload_n (pc' := 25) rfl dX9_callsIn_24 rfl ?_
    refine Ok.getR (pc' := 28) (k := 10) dX9_callsIn_25 rfl (shM_0 _) rfl inX9 (by decide) rfl wd_991 rfl ?_
    refine Ok.iload (pc' := 30) rfl dX9_callsIn_28 rfl ?_
    obtain ⟨k2, e2, q2, K⟩ := K
    refine Ok.iald (pc' := 31) (z := h.1 9 k2) dX9_callsIn_30 rfl (shM_9 _) (by decide) e2 q2 rfl ?_
    obtain ⟨k3, e3, q3, K⟩ := K
    refine Ok.iald (pc' := 32) (z := h.1 1 k3) dX9_callsIn_31 rfl (shM_1 _) (by decide) e3 q3 rfl ?_
    refine Ok.bipush (pc' := 34) ⟨by decide, by decide⟩ dX9_callsIn_32 rfl ?_
    refine Ok.icmp_ne (tgt := 61) dX9_callsIn_34 rfl rfl (fun c4 => ?_) (fun c4 => ?_)
    · replace K := K.1 c4
      refine Ok.iconst (pc' := 62) in_0 dX9_callsIn_61 rfl ?_
      obtain ⟨q5, K⟩ := K
      refine Ok.iadd (pc' := 63) dX9_callsIn_62 rfl q5 ?_
      refine Ok.istore (pc' := 65) (ls' := [some (pR 0), none, some (pI r), some (pI v3), some (pI (v4 + 0)), some (pI v5)]) dX9_callsIn_63 rfl (by decide) rfl rfl ?_
      obtain ⟨q6, K⟩ := K
      refine Ok.iinc (pc' := 68) (ls' := [some (pR 0), none, some (pI r), some (pI v3), some (pI (v4 + 0)), some (pI (v5 + 1))]) dX9_callsIn_65 rfl rfl (by decide) rfl rfl q6 ?_
      refine Ok.goto (tgt := 12) dX9_callsIn_68 rfl ?_
      exact K
    · replace K := K.2 c4
      refine Ok.iload_n (pc' := 38) rfl dX9_callsIn_37 rfl ?_
      refine Ok.if_lt (tgt := 57) dX9_callsIn_38 rfl rfl (fun c5 => ?_) (fun c5 => ?_)
      · replace K := K.1 c5
        refine Ok.iconst (pc' := 58) in_1 dX9_callsIn_57 rfl ?_
        refine Ok.goto (tgt := 62) dX9_callsIn_58 rfl ?_
        obtain ⟨q6, K⟩ := K
        refine Ok.iadd (pc' := 63) dX9_callsIn_62 rfl q6 ?_
        refine Ok.istore (pc' := 65) (ls' := [some (pR 0), none, some (pI r), some (pI v3), some (pI (v4 + 1)), some (pI v5)]) dX9_callsIn_63 rfl (by decide) rfl rfl ?_
        obtain ⟨q7, K⟩ := K
        refine Ok.iinc (pc' := 68) (ls' := [some (pR 0), none, some (pI r), some (pI v3), some (pI (v4 + 1)), some (pI (v5 + 1))]) dX9_callsIn_65 rfl rfl (by decide) rfl rfl q7 ?_
        refine Ok.goto (tgt := 12) dX9_callsIn_68 rfl ?_
        exact K
      · replace K := K.2 c5
        refine Ok.aload_n (pc' := 42) rfl dX9_callsIn_41 rfl ?_
        refine Ok.getR (pc' := 45) (k := 2) dX9_callsIn_42 rfl (shM_0 _) rfl inX9 (by decide) rfl wd_983 rfl ?_
        refine Ok.aload_n (pc' := 46) rfl dX9_callsIn_45 rfl ?_
        refine Ok.getR (pc' := 49) (k := 10) dX9_callsIn_46 rfl (shM_0 _) rfl inX9 (by decide) rfl wd_991 rfl ?_
        refine Ok.iload (pc' := 51) rfl dX9_callsIn_49 rfl ?_
        refine Ok.iald (pc' := 52) (z := h.1 9 k2) dX9_callsIn_51 rfl (shM_9 _) (by decide) e2 q2 rfl ?_
        refine Ok.iald (pc' := 53) (z := h.1 2 k3) dX9_callsIn_52 rfl (shM_2 _) (by decide) e3 q3 rfl ?_
        refine Ok.iload_n (pc' := 54) rfl dX9_callsIn_53 rfl ?_
        refine Ok.icmp_ne (tgt := 61) dX9_callsIn_54 rfl rfl (fun c6 => ?_) (fun c6 => ?_)
        · replace K := K.1 c6
          refine Ok.iconst (pc' := 62) in_0 dX9_callsIn_61 rfl ?_
          obtain ⟨q7, K⟩ := K
          refine Ok.iadd (pc' := 63) dX9_callsIn_62 rfl q7 ?_
          refine Ok.istore (pc' := 65) (ls' := [some (pR 0), none, some (pI r), some (pI v3), some (pI (v4 + 0)), some (pI v5)]) dX9_callsIn_63 rfl (by decide) rfl rfl ?_
          obtain ⟨q8, K⟩ := K
          refine Ok.iinc (pc' := 68) (ls' := [some (pR 0), none, some (pI r), some (pI v3), some (pI (v4 + 0)), some (pI (v5 + 1))]) dX9_callsIn_65 rfl rfl (by decide) rfl rfl q8 ?_
          refine Ok.goto (tgt := 12) dX9_callsIn_68 rfl ?_
          exact K
        · replace K := K.2 c6
          refine Ok.iconst (pc' := 58) in_1 dX9_callsIn_57 rfl ?_
          refine Ok.goto (tgt := 62) dX9_callsIn_58 rfl ?_
          obtain ⟨q7, K⟩ := K
          refine Ok.iadd (pc' := 63) dX9_callsIn_62 rfl q7 ?_
          refine Ok.istore (pc' := 65) (ls' := [some (pR 0), none, some (pI r), some (pI v3), some (pI (v4 + 1)), some (pI v5)]) dX9_callsIn_63 rfl (by decide) rfl rfl ?_
          obtain ⟨q8, K⟩ := K
          refine Ok.iinc (pc' := 68) (ls' := [some (pR 0), none, some (pI r), some (pI v3), some (pI (v4 + 1)), some (pI (v5 + 1))]) dX9_callsIn_65 rfl rfl (by decide) rfl rfl q8 ?_
          refine Ok.goto (tgt := 12) dX9_callsIn_68 rfl ?_
          exact K
theorem sX9_about_0 {r what : Int} {h : Hp} {Post : Int → Hp → Prop}
    (K : Cl shM mX9_isRoutine [pR 0, pI r] h (fun r1 h1 => ((¬ r1 = 0) → ((what = 0) → ∃ k3 : Nat, r = (k3 : Int) ∧ k3 < 10 ∧ (Post (h1.1 6 k3) h1)) ∧ ((what = 1) → ∃ k3 : Nat, r = (k3 : Int) ∧ k3 < 10 ∧ (Post (h1.1 7 k3) h1)) ∧ ((what = 2) → ∃ k3 : Nat, r = (k3 : Int) ∧ k3 < 10 ∧ (((¬ h1.1 7 k3 = (-4)) → Cl shM mX9_goes [pR 0, pI (h1.1 7 k3)] h1 (fun r2 h2 => Post r2 h2)) ∧ ((h1.1 7 k3 = (-4)) → Post 0 h1))) ∧ ((what = 3) → Cl shM mX9_uses [pR 0, pI r] h1 (fun r3 h3 => Post r3 h3)) ∧ ((what = 4) → ∃ k3 : Nat, r = (k3 : Int) ∧ k3 < 10 ∧ (((¬ h1.1 7 k3 = (-4)) → Cl shM mX9_callsIn [pR 0, pI (h1.1 7 k3), pI (-1)] h1 (fun r4 h4 => Post r4 h4)) ∧ ((h1.1 7 k3 = (-4)) → Post 0 h1))) ∧ ((what = 5) → Ok shM 0 0 mX9_about 126 [some (pR 0), some (pI r), none, some (pI 0), some (pI 0)] [] h1 Post) ∧ ((what < 0 ∨ 5 < what) → Post (-1) h1)) ∧ ((r1 = 0) → Post (-1) h1))) :
    Cl shM mX9_about [pR 0, pI r, pI what] h Post := by
  show Ok shM 0 0 mX9_about 0 [some (pR 0), some (pI r), some (pI what), none, none] [] h Post
  refine Ok.aload_n (pc' := 1) rfl dX9_about_0 rfl ?_
  refine Ok.iload_n (pc' := 2) rfl dX9_about_1 rfl ?_
  refine Ok.callV (pc' := 5) (av := [pI r]) (rest := []) dX9_about_2 rfl (by decide) cvX9_about_145 (shM_0 _) rfl rfl rfl (leb rfl) (leb rfl) K (fun r1 h1 K => ?_)
  show Ok shM 0 0 mX9_about 5 [some (pR 0), some (pI r), some (pI what), none, none] [pI r1] h1 Post
  refine Ok.if_ne (tgt := 10) dX9_about_5 rfl rfl (fun c1 => ?_) (fun c1 => ?_)
  · replace K := K.1 c1
    refine Ok.iload_n (pc' := 11) rfl dX9_about_10 rfl ?_
    obtain ⟨Kc2_0, Kc2_1, Kc2_2, Kc2_3, Kc2_4, Kc2_5, Kc2_6⟩ := K
    refine Ok.tsw dX9_about_11 rfl ⟨by decide, by decide⟩ (fun tgt ht => ?_)
    have hx : (what = 0) ∨ (what = 1) ∨ (what = 2) ∨ (what = 3) ∨ (what = 4) ∨ (what = 5) ∨ (what < 0 ∨ 5 < what) := by omega
    rcases hx with c2 | c2 | c2 | c2 | c2 | c2 | c2
    · obtain rfl : 48 = tgt := by rw [c2] at ht; exact Int.ofNat.inj ht
      have K := Kc2_0 c2
      refine Ok.aload_n (pc' := 49) rfl dX9_about_48 rfl ?_
      refine Ok.getR (pc' := 52) (k := 7) dX9_about_49 rfl (shM_0 _) rfl inX9 (by decide) rfl wd_988 rfl ?_
      refine Ok.iload_n (pc' := 53) rfl dX9_about_52 rfl ?_
      obtain ⟨k3, e3, q3, K⟩ := K
      refine Ok.iald (pc' := 54) (z := h1.1 6 k3) dX9_about_53 rfl (shM_6 _) (by decide) e3 q3 rfl ?_
      exact Ok.iret dX9_about_54 rfl (by decide) K
    · obtain rfl : 55 = tgt := by rw [c2] at ht; exact Int.ofNat.inj ht
      have K := Kc2_1 c2
      refine Ok.aload_n (pc' := 56) rfl dX9_about_55 rfl ?_
      refine Ok.getR (pc' := 59) (k := 8) dX9_about_56 rfl (shM_0 _) rfl inX9 (by decide) rfl wd_989 rfl ?_
      refine Ok.iload_n (pc' := 60) rfl dX9_about_59 rfl ?_
      obtain ⟨k3, e3, q3, K⟩ := K
      refine Ok.iald (pc' := 61) (z := h1.1 7 k3) dX9_about_60 rfl (shM_7 _) (by decide) e3 q3 rfl ?_
      exact Ok.iret dX9_about_61 rfl (by decide) K
    · obtain rfl : 62 = tgt := by rw [c2] at ht; exact Int.ofNat.inj ht
      have K := Kc2_2 c2
      refine Ok.aload_n (pc' := 63) rfl dX9_about_62 rfl ?_
      refine Ok.getR (pc' := 66) (k := 8) dX9_about_63 rfl (shM_0 _) rfl inX9 (by decide) rfl wd_989 rfl ?_
      refine Ok.iload_n (pc' := 67) rfl dX9_about_66 rfl ?_
      obtain ⟨k3, e3, q3, K⟩ := K
      refine Ok.iald (pc' := 68) (z := h1.1 7 k3) dX9_about_67 rfl (shM_7 _) (by decide) e3 q3 rfl ?_
      refine Ok.bipush (pc' := 70) ⟨by decide, by decide⟩ dX9_about_68 rfl ?_
      refine Ok.icmp_ne (tgt := 77) dX9_about_70 rfl rfl (fun c4 => ?_) (fun c4 => ?_)
      · replace K := K.1 c4
        refine Ok.aload_n (pc' := 78) rfl dX9_about_77 rfl ?_
        refine Ok.aload_n (pc' := 79) rfl dX9_about_78 rfl ?_
        refine Ok.getR (pc' := 82) (k := 8) dX9_about_79 rfl (shM_0 _) rfl inX9 (by decide) rfl wd_989 rfl ?_
        refine Ok.iload_n (pc' := 83) rfl dX9_about_82 rfl ?_
        refine Ok.iald (pc' := 84) (z := h1.1 7 k3) dX9_about_83 rfl (shM_7 _) (by decide) e3 q3 rfl ?_
        refine Ok.callV (pc' := 87) (av := [pI (h1.1 7 k3)]) (rest := []) dX9_about_84 rfl (by decide) cvX9_about_100 (shM_0 _) rfl rfl rfl (leb rfl) (leb rfl) K (fun r2 h2 K => ?_)
        show Ok shM 0 0 mX9_about 87 [some (pR 0), some (pI r), some (pI what), none, none] [pI r2] h2 Post
        exact Ok.iret dX9_about_87 rfl (by decide) K
      · replace K := K.2 c4
        refine Ok.iconst (pc' := 74) in_0 dX9_about_73 rfl ?_
        refine Ok.goto (tgt := 87) dX9_about_74 rfl ?_
        exact Ok.iret dX9_about_87 rfl (by decide) K
    · obtain rfl : 88 = tgt := by rw [c2] at ht; exact Int.ofNat.inj ht
      have K := Kc2_3 c2
      refine Ok.aload_n (pc' := 89) rfl dX9_about_88 rfl ?_
      refine Ok.iload_n (pc' := 90) rfl dX9_about_89 rfl ?_
      refine Ok.callV (pc' := 93) (av := [pI r]) (rest := []) dX9_about_90 rfl (by decide) cvX9_about_153 (shM_0 _) rfl rfl rfl (leb rfl) (leb rfl) K (fun r3 h3 K => ?_)
      show Ok shM 0 0 mX9_about 93 [some (pR 0), some (pI r), some (pI what), none, none] [pI r3] h3 Post
      exact Ok.iret dX9_about_93 rfl (by decide) K
    · obtain rfl : 94 = tgt := by rw [c2] at ht; exact Int.ofNat.inj ht
      have K := Kc2_4 c2
      refine Ok.aload_n (pc' := 95) rfl dX9_about_94 rfl ?_
      refine Ok.getR (pc' := 98) (k := 8) dX9_about_95 rfl (shM_0 _) rfl inX9 (by decide) rfl wd_989 rfl ?_
      refine Ok.iload_n (pc' := 99) rfl dX9_about_98 rfl ?_
      obtain ⟨k3, e3, q3, K⟩ := K
      refine Ok.iald (pc' := 100) (z := h1.1 7 k3) dX9_about_99 rfl (shM_7 _) (by decide) e3 q3 rfl ?_
      refine Ok.bipush (pc' := 102) ⟨by decide, by decide⟩ dX9_about_100 rfl ?_
      refine Ok.icmp_ne (tgt := 109) dX9_about_102 rfl rfl (fun c4 => ?_) (fun c4 => ?_)
      · replace K := K.1 c4
        refine Ok.aload_n (pc' := 110) rfl dX9_about_109 rfl ?_
        refine Ok.aload_n (pc' := 111) rfl dX9_about_110 rfl ?_
        refine Ok.getR (pc' := 114) (k := 8) dX9_about_111 rfl (shM_0 _) rfl inX9 (by decide) rfl wd_989 rfl ?_
        refine Ok.iload_n (pc' := 115) rfl dX9_about_114 rfl ?_
        refine Ok.iald (pc' := 116) (z := h1.1 7 k3) dX9_about_115 rfl (shM_7 _) (by decide) e3 q3 rfl ?_
        refine Ok.iconst (pc' := 117) in_m1 dX9_about_116 rfl ?_
        refine Ok.callV (pc' := 120) (av := [pI (h1.1 7 k3), pI (-1)]) (rest := []) dX9_about_117 rfl (by decide) cvX9_about_162 (shM_0 _) rfl rfl rfl (leb rfl) (leb rfl) K (fun r4 h4 K => ?_)
        show Ok shM 0 0 mX9_about 120 [some (pR 0), some (pI r), some (pI what), none, none] [pI r4] h4 Post
        exact Ok.iret dX9_about_120 rfl (by decide) K
      · replace K := K.2 c4
        refine Ok.iconst (pc' := 106) in_0 dX9_about_105 rfl ?_
        refine Ok.goto (tgt := 120) dX9_about_106 rfl ?_
        exact Ok.iret dX9_about_120 rfl (by decide) K
    · obtain rfl : 121 = tgt := by rw [c2] at ht; exact Int.ofNat.inj ht
      have K := Kc2_5 c2
      refine Ok.iconst (pc' := 122) in_0 dX9_about_121 rfl ?_
      refine Ok.istore_n (pc' := 123) (ls' := [some (pR 0), some (pI r), some (pI what), some (pI 0), none]) dX9_about_122 rfl (by decide) rfl rfl ?_
      refine Ok.iconst (pc' := 124) in_0 dX9_about_123 rfl ?_
      refine Ok.istore (pc' := 126) (ls' := [some (pR 0), some (pI r), some (pI what), some (pI 0), some (pI 0)]) dX9_about_124 rfl (by decide) rfl rfl ?_
      exact Ok.fl (ls' := [some (pR 0), some (pI r), none, some (pI 0), some (pI 0)]) K ⟨rfl, rfl, rfl, rfl, trivial⟩
    · obtain rfl : 174 = tgt := by
        rcases c2 with q | q
        · rw [swT_out (Or.inl q)] at ht; exact Int.ofNat.inj ht
        · rw [swT_out (Or.inr q)] at ht; exact Int.ofNat.inj ht
      have K := Kc2_6 c2
      refine Ok.iconst (pc' := 175) in_m1 dX9_about_174 rfl ?_
      exact Ok.iret dX9_about_175 rfl (by decide) K
  · replace K := K.2 c1
    refine Ok.iconst (pc' := 9) in_m1 dX9_about_8 rfl ?_
    exact Ok.iret dX9_about_9 rfl (by decide) K
theorem sX9_about_126 {r v3 v4 : Int} {h : Hp} {Post : Int → Hp → Prop}
    (K : ((h.2.1 0 6 ≤ v4) → Post v3 h) ∧ ((¬ h.2.1 0 6 ≤ v4) → ∃ k2 : Nat, v4 = (k2 : Int) ∧ k2 < 10 ∧ (((¬ h.1 7 k2 = (-4)) → Cl shM mX9_callsIn [pR 0, pI (h.1 7 k2), pI r] h (fun r1 h1 => inR ((v3 + r1)) ∧ (inR ((v4 + 1)) ∧ (Ok shM 0 0 mX9_about 126 [some (pR 0), some (pI r), none, some (pI (v3 + r1)), some (pI (v4 + 1))] [] h1 Post)))) ∧ ((h.1 7 k2 = (-4)) → inR ((v3 + 0)) ∧ (inR ((v4 + 1)) ∧ (Ok shM 0 0 mX9_about 126 [some (pR 0), some (pI r), none, some (pI (v3 + 0)), some (pI (v4 + 1))] [] h Post)))))) :
    Ok shM 0 0 mX9_about 126 [some (pR 0), some (pI r), none, some (pI v3), some (pI v4)] [] h Post := by
  show Ok shM 0 0 mX9_about 126 [some (pR 0), some (pI r), none, some (pI v3), some (pI v4)] [] h Post
  refine Ok.iload (pc' := 128) rfl dX9_about_126 rfl ?_
  refine Ok.aload_n (pc' := 129) rfl dX9_about_128 rfl ?_
  refine Ok.getI (pc' := 132) (z := h.2.1 0 6) (k := 6) dX9_about_129 rfl (shM_0 _) rfl inX9 (by decide) rfl rfl wd_987 rfl ?_
  refine Ok.icmp_ge (tgt := 172) dX9_about_132 rfl rfl (fun c1 => ?_) (fun c1 => ?_)
  · replace K := K.1 c1
    refine Ok.iload_n (pc' := 173) rfl dX9_about_172 rfl ?_
    exact Ok.iret dX9_about_173 rfl (by decide) K
  · replace K := K.2 c1
    refine Ok.iload_n (pc' := 136) rfl dX9_about_135 rfl ?_
    refine Ok.aload_n (pc' := 137) rfl dX9_about_136 rfl ?_
    refine Ok.getR (pc' := 140) (k := 8) dX9_about_137 rfl (shM_0 _) rfl inX9 (by decide) rfl wd_989 rfl ?_
    refine Ok.iload (pc' := 142) rfl dX9_about_140 rfl ?_
    obtain ⟨k2, e2, q2, K⟩ := K
    refine Ok.iald (pc' := 143) (z := h.1 7 k2) dX9_about_142 rfl (shM_7 _) (by decide) e2 q2 rfl ?_
    refine Ok.bipush (pc' := 145) ⟨by decide, by decide⟩ dX9_about_143 rfl ?_
    refine Ok.icmp_ne (tgt := 152) dX9_about_145 rfl rfl (fun c3 => ?_) (fun c3 => ?_)
    · replace K := K.1 c3
      refine Ok.aload_n (pc' := 153) rfl dX9_about_152 rfl ?_
      refine Ok.aload_n (pc' := 154) rfl dX9_about_153 rfl ?_
      refine Ok.getR (pc' := 157) (k := 8) dX9_about_154 rfl (shM_0 _) rfl inX9 (by decide) rfl wd_989 rfl ?_
      refine Ok.iload (pc' := 159) rfl dX9_about_157 rfl ?_
      refine Ok.iald (pc' := 160) (z := h.1 7 k2) dX9_about_159 rfl (shM_7 _) (by decide) e2 q2 rfl ?_
      refine Ok.iload_n (pc' := 161) rfl dX9_about_160 rfl ?_
      refine Ok.callV (pc' := 164) (av := [pI (h.1 7 k2), pI r]) (rest := [pI v3]) dX9_about_161 rfl (by decide) cvX9_about_162 (shM_0 _) rfl rfl rfl (leb rfl) (leb rfl) K (fun r1 h1 K => ?_)
      show Ok shM 0 0 mX9_about 164 [some (pR 0), some (pI r), none, some (pI v3), some (pI v4)] [pI r1, pI v3] h1 Post
      obtain ⟨q4, K⟩ := K
      refine Ok.iadd (pc' := 165) dX9_about_164 rfl q4 ?_
      refine Ok.istore_n (pc' := 166) (ls' := [some (pR 0), some (pI r), none, some (pI (v3 + r1)), some (pI v4)]) dX9_about_165 rfl (by decide) rfl rfl ?_
      obtain ⟨q5, K⟩ := K
      refine Ok.iinc (pc' := 169) (ls' := [some (pR 0), some (pI r), none, some (pI (v3 + r1)), some (pI (v4 + 1))]) dX9_about_166 rfl rfl (by decide) rfl rfl q5 ?_
      refine Ok.goto (tgt := 126) dX9_about_169 rfl ?_
      exact K
    · replace K := K.2 c3
      refine Ok.iconst (pc' := 149) in_0 dX9_about_148 rfl ?_
      refine Ok.goto (tgt := 164) dX9_about_149 rfl ?_
      obtain ⟨q4, K⟩ := K
      refine Ok.iadd (pc' := 165) dX9_about_164 rfl q4 ?_
      refine Ok.istore_n (pc' := 166) (ls' := [some (pR 0), some (pI r), none, some (pI (v3 + 0)), some (pI v4)]) dX9_about_165 rfl (by decide) rfl rfl ?_
      obtain ⟨q5, K⟩ := K
      refine Ok.iinc (pc' := 169) (ls' := [some (pR 0), some (pI r), none, some (pI (v3 + 0)), some (pI (v4 + 1))]) dX9_about_166 rfl rfl (by decide) rfl rfl q5 ?_
      refine Ok.goto (tgt := 126) dX9_about_169 rfl ?_
      exact K
theorem sX9_same_0 {x y : Int} {h : Hp} {Post : Int → Hp → Prop}
    (K : Cl shM mX9_isStep [pR 0, pI x] h (fun r1 h1 => ((r1 = 0) → Post (-1) h1) ∧ ((¬ r1 = 0) → Cl shM mX9_isStep [pR 0, pI y] h1 (fun r2 h2 => ((¬ r2 = 0) → Cl shM mX9_goes [pR 0, pI x] h2 (fun r3 h3 => Ok shM 0 0 mX9_same 27 [some (pR 0), none, some (pI y), some (pI r3), some (pI 0), none] [] h3 Post)) ∧ ((r2 = 0) → Post (-1) h2))))) :
    Cl shM mX9_same [pR 0, pI x, pI y] h Post := by
  show Ok shM 0 0 mX9_same 0 [some (pR 0), some (pI x), some (pI y), none, none, none] [] h Post
  refine Ok.aload_n (pc' := 1) rfl dX9_same_0 rfl ?_
  refine Ok.iload_n (pc' := 2) rfl dX9_same_1 rfl ?_
  refine Ok.callV (pc' := 5) (av := [pI x]) (rest := []) dX9_same_2 rfl (by decide) cvX9_same_110 (shM_0 _) rfl rfl rfl (leb rfl) (leb rfl) K (fun r1 h1 K => ?_)
  show Ok shM 0 0 mX9_same 5 [some (pR 0), some (pI x), some (pI y), none, none, none] [pI r1] h1 Post
  refine Ok.if_eq (tgt := 16) dX9_same_5 rfl rfl (fun c1 => ?_) (fun c1 => ?_)
  · replace K := K.1 c1
    refine Ok.iconst (pc' := 17) in_m1 dX9_same_16 rfl ?_
    exact Ok.iret dX9_same_17 rfl (by decide) K
  · replace K := K.2 c1
    refine Ok.aload_n (pc' := 9) rfl dX9_same_8 rfl ?_
    refine Ok.iload_n (pc' := 10) rfl dX9_same_9 rfl ?_
    refine Ok.callV (pc' := 13) (av := [pI y]) (rest := []) dX9_same_10 rfl (by decide) cvX9_same_110 (shM_0 _) rfl rfl rfl (leb rfl) (leb rfl) K (fun r2 h2 K => ?_)
    show Ok shM 0 0 mX9_same 13 [some (pR 0), some (pI x), some (pI y), none, none, none] [pI r2] h2 Post
    refine Ok.if_ne (tgt := 18) dX9_same_13 rfl rfl (fun c2 => ?_) (fun c2 => ?_)
    · replace K := K.1 c2
      refine Ok.aload_n (pc' := 19) rfl dX9_same_18 rfl ?_
      refine Ok.iload_n (pc' := 20) rfl dX9_same_19 rfl ?_
      refine Ok.callV (pc' := 23) (av := [pI x]) (rest := []) dX9_same_20 rfl (by decide) cvX9_same_100 (shM_0 _) rfl rfl rfl (leb rfl) (leb rfl) K (fun r3 h3 K => ?_)
      show Ok shM 0 0 mX9_same 23 [some (pR 0), some (pI x), some (pI y), none, none, none] [pI r3] h3 Post
      refine Ok.istore_n (pc' := 24) (ls' := [some (pR 0), some (pI x), some (pI y), some (pI r3), none, none]) dX9_same_23 rfl (by decide) rfl rfl ?_
      refine Ok.iconst (pc' := 25) in_0 dX9_same_24 rfl ?_
      refine Ok.istore (pc' := 27) (ls' := [some (pR 0), some (pI x), some (pI y), some (pI r3), some (pI 0), none]) dX9_same_25 rfl (by decide) rfl rfl ?_
      exact Ok.fl (ls' := [some (pR 0), none, some (pI y), some (pI r3), some (pI 0), none]) K ⟨rfl, rfl, rfl, rfl, trivial⟩
    · replace K := K.2 c2
      refine Ok.iconst (pc' := 17) in_m1 dX9_same_16 rfl ?_
      exact Ok.iret dX9_same_17 rfl (by decide) K
theorem sX9_same_27 {y v3 v4 : Int} {h : Hp} {Post : Int → Hp → Prop}
    (K : ((v3 ≤ v4) → Cl shM mX9_goes [pR 0, pI y] h (fun r1 h1 => ((¬ r1 = v3) → Ok shM 0 0 mX9_same 72 [some (pR 0), none, none, some (pI v3), some (pI 0), some (pI 0)] [] h1 Post) ∧ ((r1 = v3) → Ok shM 0 0 mX9_same 72 [some (pR 0), none, none, some (pI v3), some (pI 1), some (pI 0)] [] h1 Post))) ∧ ((¬ v3 ≤ v4) → ∃ k2 : Nat, v4 = (k2 : Int) ∧ k2 < 600 ∧ (inR ((v4 + 1)) ∧ (Ok shM 0 0 mX9_same 27 [some (pR 0), none, some (pI y), some (pI v3), some (pI (v4 + 1)), none] [] (hA h 13 k2 (h.1 9 k2)) Post)))) :
    Ok shM 0 0 mX9_same 27 [some (pR 0), none, some (pI y), some (pI v3), some (pI v4), none] [] h Post := by
  show Ok shM 0 0 mX9_same 27 [some (pR 0), none, some (pI y), some (pI v3), some (pI v4), none] [] h Post
  refine Ok.iload (pc' := 29) rfl dX9_same_27 rfl ?_
  refine Ok.iload_n (pc' := 30) rfl dX9_same_29 rfl ?_
  refine Ok.icmp_ge (tgt := 53) dX9_same_30 rfl rfl (fun c1 => ?_) (fun c1 => ?_)
  · replace K := K.1 c1
    refine Ok.aload_n (pc' := 54) rfl dX9_same_53 rfl ?_
    refine Ok.iload_n (pc' := 55) rfl dX9_same_54 rfl ?_
    refine Ok.callV (pc' := 58) (av := [pI y]) (rest := []) dX9_same_55 rfl (by decide) cvX9_same_100 (shM_0 _) rfl rfl rfl (leb rfl) (leb rfl) K (fun r1 h1 K => ?_)
    show Ok shM 0 0 mX9_same 58 [some (pR 0), none, some (pI y), some (pI v3), some (pI v4), none] [pI r1] h1 Post
    refine Ok.iload_n (pc' := 59) rfl dX9_same_58 rfl ?_
    refine Ok.icmp_ne (tgt := 66) dX9_same_59 rfl rfl (fun c2 => ?_) (fun c2 => ?_)
    · replace K := K.1 c2
      refine Ok.iconst (pc' := 67) in_0 dX9_same_66 rfl ?_
      refine Ok.istore (pc' := 69) (ls' := [some (pR 0), none, some (pI y), some (pI v3), some (pI 0), none]) dX9_same_67 rfl (by decide) rfl rfl ?_
      refine Ok.iconst (pc' := 70) in_0 dX9_same_69 rfl ?_
      refine Ok.istore (pc' := 72) (ls' := [some (pR 0), none, some (pI y), some (pI v3), some (pI 0), some (pI 0)]) dX9_same_70 rfl (by decide) rfl rfl ?_
      exact Ok.fl (ls' := [some (pR 0), none, none, some (pI v3), some (pI 0), some (pI 0)]) K ⟨rfl, rfl, rfl, rfl, trivial⟩
    · replace K := K.2 c2
      refine Ok.iconst (pc' := 63) in_1 dX9_same_62 rfl ?_
      refine Ok.goto (tgt := 67) dX9_same_63 rfl ?_
      refine Ok.istore (pc' := 69) (ls' := [some (pR 0), none, some (pI y), some (pI v3), some (pI 1), none]) dX9_same_67 rfl (by decide) rfl rfl ?_
      refine Ok.iconst (pc' := 70) in_0 dX9_same_69 rfl ?_
      refine Ok.istore (pc' := 72) (ls' := [some (pR 0), none, some (pI y), some (pI v3), some (pI 1), some (pI 0)]) dX9_same_70 rfl (by decide) rfl rfl ?_
      exact Ok.fl (ls' := [some (pR 0), none, none, some (pI v3), some (pI 1), some (pI 0)]) K ⟨rfl, rfl, rfl, rfl, trivial⟩
  · replace K := K.2 c1
    refine Ok.aload_n (pc' := 34) rfl dX9_same_33 rfl ?_
    refine Ok.getR (pc' := 37) (k := 15) dX9_same_34 rfl (shM_0 _) rfl inX9 (by decide) rfl wd_996 rfl ?_
    refine Ok.iload (pc' := 39) rfl dX9_same_37 rfl ?_
    refine Ok.aload_n (pc' := 40) rfl dX9_same_39 rfl ?_
    refine Ok.getR (pc' := 43) (k := 10) dX9_same_40 rfl (shM_0 _) rfl inX9 (by decide) rfl wd_991 rfl ?_
    refine Ok.iload (pc' := 45) rfl dX9_same_43 rfl ?_
    obtain ⟨k2, e2, q2, K⟩ := K
    refine Ok.iald (pc' := 46) (z := h.1 9 k2) dX9_same_45 rfl (shM_9 _) (by decide) e2 q2 rfl ?_
    refine Ok.iast (pc' := 47) dX9_same_46 rfl (shM_13 _) (by decide) e2 q2 ?_
    obtain ⟨q3, K⟩ := K
    refine Ok.iinc (pc' := 50) (ls' := [some (pR 0), none, some (pI y), some (pI v3), some (pI (v4 + 1)), none]) dX9_same_47 rfl rfl (by decide) rfl rfl q3 ?_
    refine Ok.goto (tgt := 27) dX9_same_50 rfl ?_
    exact K
theorem sX9_same_72 {v3 v4 v5 : Int} {h : Hp} {Post : Int → Hp → Prop}
    (K : ((v3 ≤ v5) → ((v4 = 0) → Post 0 h) ∧ ((¬ v4 = 0) → Post 1 h)) ∧ ((¬ v3 ≤ v5) → ((v4 = 0) → Post 0 h) ∧ ((¬ v4 = 0) → ∃ k3 : Nat, v5 = (k3 : Int) ∧ k3 < 600 ∧ (∃ k4 : Nat, h.1 13 k3 = (k4 : Int) ∧ k4 < 600 ∧ (∃ k5 : Nat, h.1 9 k3 = (k5 : Int) ∧ k5 < 600 ∧ (((¬ h.1 1 k4 = h.1 1 k5) → inR ((v5 + 1)) ∧ (Ok shM 0 0 mX9_same 72 [some (pR 0), none, none, some (pI v3), some (pI 0), some (pI (v5 + 1))] [] h Post)) ∧ ((h.1 1 k4 = h.1 1 k5) → ((¬ h.1 2 k4 = h.1 2 k5) → inR ((v5 + 1)) ∧ (Ok shM 0 0 mX9_same 72 [some (pR 0), none, none, some (pI v3), some (pI 0), some (pI (v5 + 1))] [] h Post)) ∧ ((h.1 2 k4 = h.1 2 k5) → inR ((v5 + 1)) ∧ (Ok shM 0 0 mX9_same 72 [some (pR 0), none, none, some (pI v3), some (pI 1), some (pI (v5 + 1))] [] h Post))))))))) :
    Ok shM 0 0 mX9_same 72 [some (pR 0), none, none, some (pI v3), some (pI v4), some (pI v5)] [] h Post := by
  show Ok shM 0 0 mX9_same 72 [some (pR 0), none, none, some (pI v3), some (pI v4), some (pI v5)] [] h Post
  refine Ok.iload (pc' := 74) rfl dX9_same_72 rfl ?_
  refine Ok.iload_n (pc' := 75) rfl dX9_same_74 rfl ?_
  refine Ok.icmp_ge (tgt := 150) dX9_same_75 rfl rfl (fun c1 => ?_) (fun c1 => ?_)
  · replace K := K.1 c1
    refine Ok.iload (pc' := 152) rfl dX9_same_150 rfl ?_
    refine Ok.if_eq (tgt := 159) dX9_same_152 rfl rfl (fun c2 => ?_) (fun c2 => ?_)
    · replace K := K.1 c2
      refine Ok.iconst (pc' := 160) in_0 dX9_same_159 rfl ?_
      exact Ok.iret dX9_same_160 rfl (by decide) K
    · replace K := K.2 c2
      refine Ok.iconst (pc' := 156) in_1 dX9_same_155 rfl ?_
      refine Ok.goto (tgt := 160) dX9_same_156 rfl ?_
      exact Ok.iret dX9_same_160 rfl (by decide) K
  · replace K := K.2 c1
    refine Ok.iload (pc' := 80) rfl dX9_same_78 rfl ?_
    refine Ok.if_eq (tgt := 150) dX9_same_80 rfl rfl (fun c2 => ?_) (fun c2 => ?_)
    · replace K := K.1 c2
      refine Ok.iload (pc' := 152) rfl dX9_same_150 rfl ?_
      refine Ok.if_eq (tgt := 159) dX9_same_152 rfl rfl (fun _ => ?_) (fun z => absurd c2 z)
      refine Ok.iconst (pc' := 160) in_0 dX9_same_159 rfl ?_
      exact Ok.iret dX9_same_160 rfl (by decide) K
    · replace K := K.2 c2
      refine Ok.aload_n (pc' := 84) rfl dX9_same_83 rfl ?_
      refine Ok.getR (pc' := 87) (k := 1) dX9_same_84 rfl (shM_0 _) rfl inX9 (by decide) rfl wd_982 rfl ?_
      refine Ok.aload_n (pc' := 88) rfl dX9_same_87 rfl ?_
      refine Ok.getR (pc' := 91) (k := 15) dX9_same_88 rfl (shM_0 _) rfl inX9 (by decide) rfl wd_996 rfl ?_
      refine Ok.iload (pc' := 93) rfl dX9_same_91 rfl ?_
      obtain ⟨k3, e3, q3, K⟩ := K
      refine Ok.iald (pc' := 94) (z := h.1 13 k3) dX9_same_93 rfl (shM_13 _) (by decide) e3 q3 rfl ?_
      obtain ⟨k4, e4, q4, K⟩ := K
      refine Ok.iald (pc' := 95) (z := h.1 1 k4) dX9_same_94 rfl (shM_1 _) (by decide) e4 q4 rfl ?_
      refine Ok.aload_n (pc' := 96) rfl dX9_same_95 rfl ?_
      refine Ok.getR (pc' := 99) (k := 1) dX9_same_96 rfl (shM_0 _) rfl inX9 (by decide) rfl wd_982 rfl ?_
      refine Ok.aload_n (pc' := 100) rfl dX9_same_99 rfl ?_
      refine Ok.getR (pc' := 103) (k := 10) dX9_same_100 rfl (shM_0 _) rfl inX9 (by decide) rfl wd_991 rfl ?_
      refine Ok.iload (pc' := 105) rfl dX9_same_103 rfl ?_
      refine Ok.iald (pc' := 106) (z := h.1 9 k3) dX9_same_105 rfl (shM_9 _) (by decide) e3 q3 rfl ?_
      obtain ⟨k5, e5, q5, K⟩ := K
      refine Ok.iald (pc' := 107) (z := h.1 1 k5) dX9_same_106 rfl (shM_1 _) (by decide) e5 q5 rfl ?_
      refine Ok.icmp_ne (tgt := 141) dX9_same_107 rfl rfl (fun c6 => ?_) (fun c6 => ?_)
      · replace K := K.1 c6
        refine Ok.iconst (pc' := 142) in_0 dX9_same_141 rfl ?_
        refine Ok.istore (pc' := 144) (ls' := [some (pR 0), none, none, some (pI v3), some (pI 0), some (pI v5)]) dX9_same_142 rfl (by decide) rfl rfl ?_
        obtain ⟨q7, K⟩ := K
        refine Ok.iinc (pc' := 147) (ls' := [some (pR 0), none, none, some (pI v3), some (pI 0), some (pI (v5 + 1))]) dX9_same_144 rfl rfl (by decide) rfl rfl q7 ?_
        refine Ok.goto (tgt := 72) dX9_same_147 rfl ?_
        exact K
      · replace K := K.2 c6
        refine Ok.aload_n (pc' := 111) rfl dX9_same_110 rfl ?_
        refine Ok.getR (pc' := 114) (k := 2) dX9_same_111 rfl (shM_0 _) rfl inX9 (by decide) rfl wd_983 rfl ?_
        refine Ok.aload_n (pc' := 115) rfl dX9_same_114 rfl ?_
        refine Ok.getR (pc' := 118) (k := 15) dX9_same_115 rfl (shM_0 _) rfl inX9 (by decide) rfl wd_996 rfl ?_
        refine Ok.iload (pc' := 120) rfl dX9_same_118 rfl ?_
        refine Ok.iald (pc' := 121) (z := h.1 13 k3) dX9_same_120 rfl (shM_13 _) (by decide) e3 q3 rfl ?_
        refine Ok.iald (pc' := 122) (z := h.1 2 k4) dX9_same_121 rfl (shM_2 _) (by decide) e4 q4 rfl ?_
        refine Ok.aload_n (pc' := 123) rfl dX9_same_122 rfl ?_
        refine Ok.getR (pc' := 126) (k := 2) dX9_same_123 rfl (shM_0 _) rfl inX9 (by decide) rfl wd_983 rfl ?_
        refine Ok.aload_n (pc' := 127) rfl dX9_same_126 rfl ?_
        refine Ok.getR (pc' := 130) (k := 10) dX9_same_127 rfl (shM_0 _) rfl inX9 (by decide) rfl wd_991 rfl ?_
        refine Ok.iload (pc' := 132) rfl dX9_same_130 rfl ?_
        refine Ok.iald (pc' := 133) (z := h.1 9 k3) dX9_same_132 rfl (shM_9 _) (by decide) e3 q3 rfl ?_
        refine Ok.iald (pc' := 134) (z := h.1 2 k5) dX9_same_133 rfl (shM_2 _) (by decide) e5 q5 rfl ?_
        refine Ok.icmp_ne (tgt := 141) dX9_same_134 rfl rfl (fun c7 => ?_) (fun c7 => ?_)
        · replace K := K.1 c7
          refine Ok.iconst (pc' := 142) in_0 dX9_same_141 rfl ?_
          refine Ok.istore (pc' := 144) (ls' := [some (pR 0), none, none, some (pI v3), some (pI 0), some (pI v5)]) dX9_same_142 rfl (by decide) rfl rfl ?_
          obtain ⟨q8, K⟩ := K
          refine Ok.iinc (pc' := 147) (ls' := [some (pR 0), none, none, some (pI v3), some (pI 0), some (pI (v5 + 1))]) dX9_same_144 rfl rfl (by decide) rfl rfl q8 ?_
          refine Ok.goto (tgt := 72) dX9_same_147 rfl ?_
          exact K
        · replace K := K.2 c7
          refine Ok.iconst (pc' := 138) in_1 dX9_same_137 rfl ?_
          refine Ok.goto (tgt := 142) dX9_same_138 rfl ?_
          refine Ok.istore (pc' := 144) (ls' := [some (pR 0), none, none, some (pI v3), some (pI 1), some (pI v5)]) dX9_same_142 rfl (by decide) rfl rfl ?_
          obtain ⟨q8, K⟩ := K
          refine Ok.iinc (pc' := 147) (ls' := [some (pR 0), none, none, some (pI v3), some (pI 1), some (pI (v5 + 1))]) dX9_same_144 rfl rfl (by decide) rfl rfl q8 ?_
          refine Ok.goto (tgt := 72) dX9_same_147 rfl ?_
          exact K
