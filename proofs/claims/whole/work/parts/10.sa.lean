theorem sX5_isStep_0 {step : Int} {h : Hp} {Post : Int → Hp → Prop}
    (K : ((step < 0) → Post 0 h) ∧ ((¬ step < 0) → ((h.2.1 2 6 ≤ step) → Post 0 h) ∧ ((¬ h.2.1 2 6 ≤ step) → ∃ k3 : Nat, step = (k3 : Int) ∧ k3 < 600 ∧ (((h.1 3 k3 = (-1)) → Post 0 h) ∧ ((¬ h.1 3 k3 = (-1)) → Post 1 h))))) :
    Cl shC mX5_isStep [pR 2, pI step] h Post := by
  show Ok shC 0 0 mX5_isStep 0 [some (pR 2), some (pI step)] [] h Post
  refine Ok.iload_n (pc' := 1) rfl dX5_isStep_0 rfl ?_
  refine Ok.if_lt (tgt := 26) dX5_isStep_1 rfl rfl (fun c1 => ?_) (fun c1 => ?_)
  · replace K := K.1 c1
    refine Ok.iconst (pc' := 27) in_0 dX5_isStep_26 rfl ?_
    exact Ok.zret dX5_isStep_27 rfl (by decide) (Or.inl rfl) K
  · replace K := K.2 c1
    refine Ok.iload_n (pc' := 5) rfl dX5_isStep_4 rfl ?_
    refine Ok.aload_n (pc' := 6) rfl dX5_isStep_5 rfl ?_
    refine Ok.getI (pc' := 9) (z := h.2.1 2 6) (k := 6) dX5_isStep_6 rfl (shC_2 _) rfl inX5 (by decide) rfl rfl wd_131 rfl ?_
    refine Ok.icmp_ge (tgt := 26) dX5_isStep_9 rfl rfl (fun c2 => ?_) (fun c2 => ?_)
    · replace K := K.1 c2
      refine Ok.iconst (pc' := 27) in_0 dX5_isStep_26 rfl ?_
      exact Ok.zret dX5_isStep_27 rfl (by decide) (Or.inl rfl) K
    · replace K := K.2 c2
      refine Ok.aload_n (pc' := 13) rfl dX5_isStep_12 rfl ?_
      refine Ok.getR (pc' := 16) (k := 0) dX5_isStep_13 rfl (shC_2 _) rfl inX5 (by decide) rfl wd_117 rfl ?_
      refine Ok.iload_n (pc' := 17) rfl dX5_isStep_16 rfl ?_
      obtain ⟨k3, e3, q3, K⟩ := K
      refine Ok.iald (pc' := 18) (z := h.1 3 k3) dX5_isStep_17 rfl (shC_3 _) (by decide) e3 q3 rfl ?_
      refine Ok.iconst (pc' := 19) in_m1 dX5_isStep_18 rfl ?_
      refine Ok.icmp_eq (tgt := 26) dX5_isStep_19 rfl rfl (fun c4 => ?_) (fun c4 => ?_)
      · replace K := K.1 c4
        refine Ok.iconst (pc' := 27) in_0 dX5_isStep_26 rfl ?_
        exact Ok.zret dX5_isStep_27 rfl (by decide) (Or.inl rfl) K
      · replace K := K.2 c4
        refine Ok.iconst (pc' := 23) in_1 dX5_isStep_22 rfl ?_
        refine Ok.goto (tgt := 27) dX5_isStep_23 rfl ?_
        exact Ok.zret dX5_isStep_27 rfl (by decide) (Or.inr rfl) K
theorem sX5_clear_0 {step kind number : Int} {h : Hp} {Post : Int → Hp → Prop}
    (K : ((step < 0) → Post 0 h) ∧ ((¬ step < 0) → ((step < 600) → ∃ k3 : Nat, step = (k3 : Int) ∧ k3 < 600 ∧ (Ok shC 0 0 mX5_clear 37 [some (pR 2), some (pI step), none, none, some (pI 0)] [] (hA (hA (hA h 3 k3 kind) 4 k3 number) 6 k3 (-4)) Post)) ∧ ((¬ step < 600) → Post 0 h))) :
    Cl shC mX5_clear [pR 2, pI step, pI kind, pI number] h Post := by
  show Ok shC 0 0 mX5_clear 0 [some (pR 2), some (pI step), some (pI kind), some (pI number), none] [] h Post
  refine Ok.iload_n (pc' := 1) rfl dX5_clear_0 rfl ?_
  refine Ok.if_lt (tgt := 11) dX5_clear_1 rfl rfl (fun c1 => ?_) (fun c1 => ?_)
  · replace K := K.1 c1
    exact Ok.vret dX5_clear_11 rfl (by decide) K
  · replace K := K.2 c1
    refine Ok.iload_n (pc' := 5) rfl dX5_clear_4 rfl ?_
    refine Ok.sipush (pc' := 8) ⟨by decide, by decide⟩ dX5_clear_5 rfl ?_
    refine Ok.icmp_lt (tgt := 12) dX5_clear_8 rfl rfl (fun c2 => ?_) (fun c2 => ?_)
    · replace K := K.1 c2
      refine Ok.aload_n (pc' := 13) rfl dX5_clear_12 rfl ?_
      refine Ok.getR (pc' := 16) (k := 0) dX5_clear_13 rfl (shC_2 _) rfl inX5 (by decide) rfl wd_117 rfl ?_
      refine Ok.iload_n (pc' := 17) rfl dX5_clear_16 rfl ?_
      refine Ok.iload_n (pc' := 18) rfl dX5_clear_17 rfl ?_
      obtain ⟨k3, e3, q3, K⟩ := K
      refine Ok.iast (pc' := 19) dX5_clear_18 rfl (shC_3 _) (by decide) e3 q3 ?_
      refine Ok.aload_n (pc' := 20) rfl dX5_clear_19 rfl ?_
      refine Ok.getR (pc' := 23) (k := 1) dX5_clear_20 rfl (shC_2 _) rfl inX5 (by decide) rfl wd_119 rfl ?_
      refine Ok.iload_n (pc' := 24) rfl dX5_clear_23 rfl ?_
      refine Ok.iload_n (pc' := 25) rfl dX5_clear_24 rfl ?_
      refine Ok.iast (pc' := 26) dX5_clear_25 rfl (shC_4 _) (by decide) e3 q3 ?_
      refine Ok.aload_n (pc' := 27) rfl dX5_clear_26 rfl ?_
      refine Ok.getR (pc' := 30) (k := 3) dX5_clear_27 rfl (shC_2 _) rfl inX5 (by decide) rfl wd_124 rfl ?_
      refine Ok.iload_n (pc' := 31) rfl dX5_clear_30 rfl ?_
      refine Ok.bipush (pc' := 33) ⟨by decide, by decide⟩ dX5_clear_31 rfl ?_
      refine Ok.iast (pc' := 34) dX5_clear_33 rfl (shC_6 _) (by decide) e3 q3 ?_
      refine Ok.iconst (pc' := 35) in_0 dX5_clear_34 rfl ?_
      refine Ok.istore (pc' := 37) (ls' := [some (pR 2), some (pI step), some (pI kind), some (pI number), some (pI 0)]) dX5_clear_35 rfl (by decide) rfl rfl ?_
      exact Ok.fl (ls' := [some (pR 2), some (pI step), none, none, some (pI 0)]) K ⟨rfl, rfl, rfl, trivial⟩
    · replace K := K.2 c2
      exact Ok.vret dX5_clear_11 rfl (by decide) K
theorem sX5_clear_37 {step v4 : Int} {h : Hp} {Post : Int → Hp → Prop}
    (K : ((3 ≤ v4) → Post 0 h) ∧ ((¬ 3 ≤ v4) → inR ((step * 3)) ∧ (inR (((step * 3) + v4)) ∧ (∃ k4 : Nat, ((step * 3) + v4) = (k4 : Int) ∧ k4 < 1800 ∧ (inR ((v4 + 1)) ∧ (Ok shC 0 0 mX5_clear 37 [some (pR 2), some (pI step), none, none, some (pI (v4 + 1))] [] (hA h 5 k4 (-4)) Post)))))) :
    Ok shC 0 0 mX5_clear 37 [some (pR 2), some (pI step), none, none, some (pI v4)] [] h Post := by
  show Ok shC 0 0 mX5_clear 37 [some (pR 2), some (pI step), none, none, some (pI v4)] [] h Post
  refine Ok.iload (pc' := 39) rfl dX5_clear_37 rfl ?_
  refine Ok.iconst (pc' := 40) in_3 dX5_clear_39 rfl ?_
  refine Ok.icmp_ge (tgt := 62) dX5_clear_40 rfl rfl (fun c1 => ?_) (fun c1 => ?_)
  · replace K := K.1 c1
    exact Ok.vret dX5_clear_62 rfl (by decide) K
  · replace K := K.2 c1
    refine Ok.aload_n (pc' := 44) rfl dX5_clear_43 rfl ?_
    refine Ok.getR (pc' := 47) (k := 2) dX5_clear_44 rfl (shC_2 _) rfl inX5 (by decide) rfl wd_121 rfl ?_
    refine Ok.iload_n (pc' := 48) rfl dX5_clear_47 rfl ?_
    refine Ok.iconst (pc' := 49) in_3 dX5_clear_48 rfl ?_
    obtain ⟨q2, K⟩ := K
    refine Ok.imul (pc' := 50) dX5_clear_49 rfl q2 ?_
    refine Ok.iload (pc' := 52) rfl dX5_clear_50 rfl ?_
    obtain ⟨q3, K⟩ := K
    refine Ok.iadd (pc' := 53) dX5_clear_52 rfl q3 ?_
    refine Ok.bipush (pc' := 55) ⟨by decide, by decide⟩ dX5_clear_53 rfl ?_
    obtain ⟨k4, e4, q4, K⟩ := K
    refine Ok.iast (pc' := 56) dX5_clear_55 rfl (shC_5 _) (by decide) e4 q4 ?_
    obtain ⟨q5, K⟩ := K
    refine Ok.iinc (pc' := 59) (ls' := [some (pR 2), some (pI step), none, none, some (pI (v4 + 1))]) dX5_clear_56 rfl rfl (by decide) rfl rfl q5 ?_
    refine Ok.goto (tgt := 37) dX5_clear_59 rfl ?_
    exact K
theorem sX6_over_0 {w : Nat} {root : Int} {h : Hp} {Post : Int → Hp → Prop} (hw : isW w)
    (K : Cl shC mX5_isStep [pR 2, pI root] (hA (hA (hI h w 4 0) (w + 3) 0 root) (w + 4) 0 1) (fun r1 h1 => ((r1 = 0) → Ok shC 0 0 mX6_over 33 [some (pR w), some (pR 2), none, some (pI 0), none, none, none, none] [] h1 Post) ∧ ((¬ r1 = 0) → Ok shC 0 0 mX6_over 33 [some (pR w), some (pR 2), none, some (pI 1), none, none, none, none] [] h1 Post))) :
    Cl shC mX6_over [pR w, pR 2, pI root] h Post := by
  show Ok shC 0 0 mX6_over 0 [some (pR w), some (pR 2), some (pI root), none, none, none, none, none] [] h Post
  refine Ok.aload_n (pc' := 1) rfl dX6_over_0 rfl ?_
  refine Ok.iconst (pc' := 2) in_0 dX6_over_1 rfl ?_
  refine Ok.putI (pc' := 5) (k := 4) dX6_over_2 rfl (shW0 hw _) rfl inX6 tyX6 tyX6_ok nmX6 (by decide) rfl wd_173 rfl rfl (Or.inl rfl) ?_
  refine Ok.aload_n (pc' := 6) rfl dX6_over_5 rfl ?_
  refine Ok.getR (pc' := 9) (k := 2) dX6_over_6 rfl (shW0 hw _) rfl inX6 (by decide) rfl wd_171 rfl ?_
  refine Ok.iconst (pc' := 10) in_0 dX6_over_9 rfl ?_
  refine Ok.iload_n (pc' := 11) rfl dX6_over_10 rfl ?_
  refine Ok.iast (pc' := 12) dX6_over_11 rfl (shW3 hw _) (by decide) rfl (by decide) ?_
  refine Ok.aload_n (pc' := 13) rfl dX6_over_12 rfl ?_
  refine Ok.getR (pc' := 16) (k := 3) dX6_over_13 rfl (shW0 hw _) rfl inX6 (by decide) rfl wd_172 rfl ?_
  refine Ok.iconst (pc' := 17) in_0 dX6_over_16 rfl ?_
  refine Ok.iconst (pc' := 18) in_1 dX6_over_17 rfl ?_
  refine Ok.iast (pc' := 19) dX6_over_18 rfl (shW4 hw _) (by decide) rfl (by decide) ?_
  refine Ok.aload_n (pc' := 20) rfl dX6_over_19 rfl ?_
  refine Ok.iload_n (pc' := 21) rfl dX6_over_20 rfl ?_
  refine Ok.callV (pc' := 24) (av := [pI root]) (rest := []) dX6_over_21 rfl (by decide) cvX6_over_28 (shC_2 _) rfl rfl rfl (leb rfl) (leb rfl) K (fun r1 h1 K => ?_)
  show Ok shC 0 0 mX6_over 24 [some (pR w), some (pR 2), some (pI root), none, none, none, none, none] [pI r1] h1 Post
  refine Ok.if_eq (tgt := 31) dX6_over_24 rfl rfl (fun c1 => ?_) (fun c1 => ?_)
  · replace K := K.1 c1
    refine Ok.iconst (pc' := 32) in_0 dX6_over_31 rfl ?_
    refine Ok.istore_n (pc' := 33) (ls' := [some (pR w), some (pR 2), some (pI root), some (pI 0), none, none, none, none]) dX6_over_32 rfl (by decide) rfl rfl ?_
    exact Ok.fl (ls' := [some (pR w), some (pR 2), none, some (pI 0), none, none, none, none]) K ⟨rfl, rfl, rfl, trivial⟩
  · replace K := K.2 c1
    refine Ok.iconst (pc' := 28) in_1 dX6_over_27 rfl ?_
    refine Ok.goto (tgt := 32) dX6_over_28 rfl ?_
    refine Ok.istore_n (pc' := 33) (ls' := [some (pR w), some (pR 2), some (pI root), some (pI 1), none, none, none, none]) dX6_over_32 rfl (by decide) rfl rfl ?_
    exact Ok.fl (ls' := [some (pR w), some (pR 2), none, some (pI 1), none, none, none, none]) K ⟨rfl, rfl, rfl, trivial⟩
theorem sX6_over_33 {w : Nat} {v3 : Int} {h : Hp} {Post : Int → Hp → Prop} (hw : isW w)
    (K : ((v3 ≤ 0) → Post 0 h) ∧ ((¬ v3 ≤ 0) → ((600 ≤ h.2.1 w 4) → Post 0 h) ∧ ((¬ 600 ≤ h.2.1 w 4) → inR ((v3 + (-1))) ∧ (∃ k4 : Nat, (v3 + (-1)) = (k4 : Int) ∧ k4 < 120 ∧ (∃ k5 : Nat, h.2.1 w 4 = (k5 : Int) ∧ k5 < 600 ∧ (inR ((h.2.1 w 4 + 1)) ∧ (Ok shC 0 0 mX6_over 101 [some (pR w), some (pR 2), none, some (pI (v3 + (-1))), some (pI (h.1 (w + 3) k4)), some (pI (h.1 (w + 4) k4)), some (pI 2), none] [] (hI (hA (hA h (w + 1) k5 (h.1 (w + 3) k4)) (w + 2) k5 (h.1 (w + 4) k4)) w 4 (h.2.1 w 4 + 1)) Post))))))) :
    Ok shC 0 0 mX6_over 33 [some (pR w), some (pR 2), none, some (pI v3), none, none, none, none] [] h Post := by
  show Ok shC 0 0 mX6_over 33 [some (pR w), some (pR 2), none, some (pI v3), none, none, none, none] [] h Post
  refine Ok.iload_n (pc' := 34) rfl dX6_over_33 rfl ?_
  refine Ok.if_le (tgt := 168) dX6_over_34 rfl rfl (fun c1 => ?_) (fun c1 => ?_)
  · replace K := K.1 c1
    exact Ok.vret dX6_over_168 rfl (by decide) K
  · replace K := K.2 c1
    refine Ok.aload_n (pc' := 38) rfl dX6_over_37 rfl ?_
    refine Ok.getI (pc' := 41) (z := h.2.1 w 4) (k := 4) dX6_over_38 rfl (shW0 hw _) rfl inX6 (by decide) rfl rfl wd_173 rfl ?_
    refine Ok.sipush (pc' := 44) ⟨by decide, by decide⟩ dX6_over_41 rfl ?_
    refine Ok.icmp_ge (tgt := 168) dX6_over_44 rfl rfl (fun c2 => ?_) (fun c2 => ?_)
    · replace K := K.1 c2
      exact Ok.vret dX6_over_168 rfl (by decide) K
    · replace K := K.2 c2
      obtain ⟨q3, K⟩ := K
      refine Ok.iinc (pc' := 50) (ls' := [some (pR w), some (pR 2), none, some (pI (v3 + (-1))), none, none, none, none]) dX6_over_47 rfl rfl (by decide) rfl rfl q3 ?_
      refine Ok.aload_n (pc' := 51) rfl dX6_over_50 rfl ?_
      refine Ok.getR (pc' := 54) (k := 2) dX6_over_51 rfl (shW0 hw _) rfl inX6 (by decide) rfl wd_171 rfl ?_
      refine Ok.iload_n (pc' := 55) rfl dX6_over_54 rfl ?_
      obtain ⟨k4, e4, q4, K⟩ := K
      refine Ok.iald (pc' := 56) (z := h.1 (w + 3) k4) dX6_over_55 rfl (shW3 hw _) (by decide) e4 q4 rfl ?_
      refine Ok.istore (pc' := 58) (ls' := [some (pR w), some (pR 2), none, some (pI (v3 + (-1))), some (pI (h.1 (w + 3) k4)), none, none, none]) dX6_over_56 rfl (by decide) rfl rfl ?_
      refine Ok.aload_n (pc' := 59) rfl dX6_over_58 rfl ?_
      refine Ok.getR (pc' := 62) (k := 3) dX6_over_59 rfl (shW0 hw _) rfl inX6 (by decide) rfl wd_172 rfl ?_
      refine Ok.iload_n (pc' := 63) rfl dX6_over_62 rfl ?_
      refine Ok.iald (pc' := 64) (z := h.1 (w + 4) k4) dX6_over_63 rfl (shW4 hw _) (by decide) e4 q4 rfl ?_
      refine Ok.istore (pc' := 66) (ls' := [some (pR w), some (pR 2), none, some (pI (v3 + (-1))), some (pI (h.1 (w + 3) k4)), some (pI (h.1 (w + 4) k4)), none, none]) dX6_over_64 rfl (by decide) rfl rfl ?_
      refine Ok.aload_n (pc' := 67) rfl dX6_over_66 rfl ?_
      refine Ok.getR (pc' := 70) (k := 0) dX6_over_67 rfl (shW0 hw _) rfl inX6 (by decide) rfl wd_163 rfl ?_
      refine Ok.aload_n (pc' := 71) rfl dX6_over_70 rfl ?_
      refine Ok.getI (pc' := 74) (z := h.2.1 w 4) (k := 4) dX6_over_71 rfl (shW0 hw _) rfl inX6 (by decide) rfl rfl wd_173 rfl ?_
      refine Ok.iload (pc' := 76) rfl dX6_over_74 rfl ?_
      obtain ⟨k5, e5, q5, K⟩ := K
      refine Ok.iast (pc' := 77) dX6_over_76 rfl (shW1 hw _) (by decide) e5 q5 ?_
      refine Ok.aload_n (pc' := 78) rfl dX6_over_77 rfl ?_
      refine Ok.getR (pc' := 81) (k := 1) dX6_over_78 rfl (shW0 hw _) rfl inX6 (by decide) rfl wd_167 rfl ?_
      refine Ok.aload_n (pc' := 82) rfl dX6_over_81 rfl ?_
      refine Ok.getI (pc' := 85) (z := h.2.1 w 4) (k := 4) dX6_over_82 rfl (shW0 hw _) rfl inX6 (by decide) rfl rfl wd_173 rfl ?_
      refine Ok.iload (pc' := 87) rfl dX6_over_85 rfl ?_
      refine Ok.iast (pc' := 88) dX6_over_87 rfl (shW2 hw _) (by decide) e5 q5 ?_
      refine Ok.aload_n (pc' := 89) rfl dX6_over_88 rfl ?_
      refine Ok.dup (pc' := 90) dX6_over_89 rfl rfl ?_
      refine Ok.getI (pc' := 93) (z := h.2.1 w 4) (k := 4) dX6_over_90 rfl (shW0 hw _) rfl inX6 (by decide) rfl rfl wd_173 rfl ?_
      refine Ok.iconst (pc' := 94) in_1 dX6_over_93 rfl ?_
      obtain ⟨q6, K⟩ := K
      refine Ok.iadd (pc' := 95) dX6_over_94 rfl q6 ?_
      refine Ok.putI (pc' := 98) (k := 4) dX6_over_95 rfl (shW0 hw _) rfl inX6 tyX6 tyX6_ok nmX6 (by decide) rfl wd_173 rfl rfl (Or.inl rfl) ?_
      refine Ok.iconst (pc' := 99) in_2 dX6_over_98 rfl ?_
      refine Ok.istore (pc' := 101) (ls' := [some (pR w), some (pR 2), none, some (pI (v3 + (-1))), some (pI (h.1 (w + 3) k4)), some (pI (h.1 (w + 4) k4)), some (pI 2), none]) dX6_over_99 rfl (by decide) rfl rfl ?_
      exact K
theorem sX6_over_101 {w : Nat} {v3 v4 v5 v6 : Int} {h : Hp} {Post : Int → Hp → Prop} (hw : isW w)
    (K : ((v6 < 0) → Ok shC 0 0 mX6_over 33 [some (pR w), some (pR 2), none, some (pI v3), none, none, none, none] [] h Post) ∧ ((¬ v6 < 0) → inR ((v4 * 3)) ∧ (inR (((v4 * 3) + v6)) ∧ (∃ k4 : Nat, ((v4 * 3) + v6) = (k4 : Int) ∧ k4 < 1800 ∧ (Cl shC mX5_isStep [pR 2, pI (h.1 5 k4)] h (fun r1 h1 => ((r1 = 0) → inR ((v6 + (-1))) ∧ (Ok shC 0 0 mX6_over 101 [some (pR w), some (pR 2), none, some (pI v3), some (pI v4), some (pI v5), some (pI (v6 + (-1))), none] [] h1 Post)) ∧ ((¬ r1 = 0) → ((120 ≤ v3) → inR ((v6 + (-1))) ∧ (Ok shC 0 0 mX6_over 101 [some (pR w), some (pR 2), none, some (pI v3), some (pI v4), some (pI v5), some (pI (v6 + (-1))), none] [] h1 Post)) ∧ ((¬ 120 ≤ v3) → ∃ k7 : Nat, v3 = (k7 : Int) ∧ k7 < 120 ∧ (inR ((v5 + 1)) ∧ (inR ((v3 + 1)) ∧ (inR ((v6 + (-1))) ∧ (Ok shC 0 0 mX6_over 101 [some (pR w), some (pR 2), none, some (pI (v3 + 1)), some (pI v4), some (pI v5), some (pI (v6 + (-1))), none] [] (hA (hA h1 (w + 3) k7 (h.1 5 k4)) (w + 4) k7 (v5 + 1)) Post)))))))))))) :
    Ok shC 0 0 mX6_over 101 [some (pR w), some (pR 2), none, some (pI v3), some (pI v4), some (pI v5), some (pI v6), none] [] h Post := by
  show Ok shC 0 0 mX6_over 101 [some (pR w), some (pR 2), none, some (pI v3), some (pI v4), some (pI v5), some (pI v6), none] [] h Post
  refine Ok.iload (pc' := 103) rfl dX6_over_101 rfl ?_
  refine Ok.if_lt (tgt := 165) dX6_over_103 rfl rfl (fun c1 => ?_) (fun c1 => ?_)
  · replace K := K.1 c1
    refine Ok.goto (tgt := 33) dX6_over_165 rfl ?_
    exact Ok.fl (ls' := [some (pR w), some (pR 2), none, some (pI v3), none, none, none, none]) K ⟨rfl, rfl, rfl, trivial⟩
  · replace K := K.2 c1
    refine Ok.aload_n (pc' := 107) rfl dX6_over_106 rfl ?_
    refine Ok.getRN (pc' := 110) (k := 2) dX6_over_107 rfl (shC_2 _) rfl inX5 (by decide) rfl wd_122 rfl ?_
    refine Ok.iload (pc' := 112) rfl dX6_over_110 rfl ?_
    refine Ok.iconst (pc' := 113) in_3 dX6_over_112 rfl ?_
    obtain ⟨q2, K⟩ := K
    refine Ok.imul (pc' := 114) dX6_over_113 rfl q2 ?_
    refine Ok.iload (pc' := 116) rfl dX6_over_114 rfl ?_
    obtain ⟨q3, K⟩ := K
    refine Ok.iadd (pc' := 117) dX6_over_116 rfl q3 ?_
    obtain ⟨k4, e4, q4, K⟩ := K
    refine Ok.iald (pc' := 118) (z := h.1 5 k4) dX6_over_117 rfl (shC_5 _) (by decide) e4 q4 rfl ?_
    refine Ok.istore (pc' := 120) (ls' := [some (pR w), some (pR 2), none, some (pI v3), some (pI v4), some (pI v5), some (pI v6), some (pI (h.1 5 k4))]) dX6_over_118 rfl (by decide) rfl rfl ?_
    refine Ok.aload_n (pc' := 121) rfl dX6_over_120 rfl ?_
    refine Ok.iload (pc' := 123) rfl dX6_over_121 rfl ?_
    refine Ok.callV (pc' := 126) (av := [pI (h.1 5 k4)]) (rest := []) dX6_over_123 rfl (by decide) cvX6_over_28 (shC_2 _) rfl rfl rfl (leb rfl) (leb rfl) K (fun r1 h1 K => ?_)
    show Ok shC 0 0 mX6_over 126 [some (pR w), some (pR 2), none, some (pI v3), some (pI v4), some (pI v5), some (pI v6), some (pI (h.1 5 k4))] [pI r1] h1 Post
    refine Ok.if_eq (tgt := 159) dX6_over_126 rfl rfl (fun c5 => ?_) (fun c5 => ?_)
    · replace K := K.1 c5
      obtain ⟨q6, K⟩ := K
      refine Ok.iinc (pc' := 162) (ls' := [some (pR w), some (pR 2), none, some (pI v3), some (pI v4), some (pI v5), some (pI (v6 + (-1))), some (pI (h.1 5 k4))]) dX6_over_159 rfl rfl (by decide) rfl rfl q6 ?_
      refine Ok.goto (tgt := 101) dX6_over_162 rfl ?_
      exact Ok.fl (ls' := [some (pR w), some (pR 2), none, some (pI v3), some (pI v4), some (pI v5), some (pI (v6 + (-1))), none]) K ⟨rfl, rfl, rfl, rfl, rfl, rfl, trivial⟩
    · replace K := K.2 c5
      refine Ok.iload_n (pc' := 130) rfl dX6_over_129 rfl ?_
      refine Ok.aload_n (pc' := 131) rfl dX6_over_130 rfl ?_
      refine Ok.getR (pc' := 134) (k := 2) dX6_over_131 rfl (shW0 hw _) rfl inX6 (by decide) rfl wd_171 rfl ?_
      refine Ok.alen (pc' := 135) dX6_over_134 rfl (shW3 hw _) (by decide) ?_
      refine Ok.icmp_ge (tgt := 159) dX6_over_135 rfl rfl (fun c6 => ?_) (fun c6 => ?_)
      · replace K := K.1 c6
        obtain ⟨q7, K⟩ := K
        refine Ok.iinc (pc' := 162) (ls' := [some (pR w), some (pR 2), none, some (pI v3), some (pI v4), some (pI v5), some (pI (v6 + (-1))), some (pI (h.1 5 k4))]) dX6_over_159 rfl rfl (by decide) rfl rfl q7 ?_
        refine Ok.goto (tgt := 101) dX6_over_162 rfl ?_
        exact Ok.fl (ls' := [some (pR w), some (pR 2), none, some (pI v3), some (pI v4), some (pI v5), some (pI (v6 + (-1))), none]) K ⟨rfl, rfl, rfl, rfl, rfl, rfl, trivial⟩
      · replace K := K.2 c6
        refine Ok.aload_n (pc' := 139) rfl dX6_over_138 rfl ?_
        refine Ok.getR (pc' := 142) (k := 2) dX6_over_139 rfl (shW0 hw _) rfl inX6 (by decide) rfl wd_171 rfl ?_
        refine Ok.iload_n (pc' := 143) rfl dX6_over_142 rfl ?_
        refine Ok.iload (pc' := 145) rfl dX6_over_143 rfl ?_
        obtain ⟨k7, e7, q7, K⟩ := K
        refine Ok.iast (pc' := 146) dX6_over_145 rfl (shW3 hw _) (by decide) e7 q7 ?_
        refine Ok.aload_n (pc' := 147) rfl dX6_over_146 rfl ?_
        refine Ok.getR (pc' := 150) (k := 3) dX6_over_147 rfl (shW0 hw _) rfl inX6 (by decide) rfl wd_172 rfl ?_
        refine Ok.iload_n (pc' := 151) rfl dX6_over_150 rfl ?_
        refine Ok.iload (pc' := 153) rfl dX6_over_151 rfl ?_
        refine Ok.iconst (pc' := 154) in_1 dX6_over_153 rfl ?_
        obtain ⟨q8, K⟩ := K
        refine Ok.iadd (pc' := 155) dX6_over_154 rfl q8 ?_
        refine Ok.iast (pc' := 156) dX6_over_155 rfl (shW4 hw _) (by decide) e7 q7 ?_
        obtain ⟨q9, K⟩ := K
        refine Ok.iinc (pc' := 159) (ls' := [some (pR w), some (pR 2), none, some (pI (v3 + 1)), some (pI v4), some (pI v5), some (pI v6), some (pI (h.1 5 k4))]) dX6_over_156 rfl rfl (by decide) rfl rfl q9 ?_
        obtain ⟨q10, K⟩ := K
        refine Ok.iinc (pc' := 162) (ls' := [some (pR w), some (pR 2), none, some (pI (v3 + 1)), some (pI v4), some (pI v5), some (pI (v6 + (-1))), some (pI (h.1 5 k4))]) dX6_over_159 rfl rfl (by decide) rfl rfl q10 ?_
        refine Ok.goto (tgt := 101) dX6_over_162 rfl ?_
        exact Ok.fl (ls' := [some (pR w), some (pR 2), none, some (pI (v3 + 1)), some (pI v4), some (pI v5), some (pI (v6 + (-1))), none]) K ⟨rfl, rfl, rfl, rfl, rfl, rfl, trivial⟩
