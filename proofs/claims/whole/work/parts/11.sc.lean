theorem sX9_goneAlone_0 {s0 : Int} {h : Hp} {Post : Int → Hp → Prop}
    (K : ∃ k1 : Nat, s0 = (k1 : Int) ∧ k1 < 600 ∧ (Ok shM 0 0 mX9_goneAlone 24 [some (pR 0), some (pI s0), some (pI 0)] [] (hA (hA (hA h 1 k1 (-1)) 2 k1 0) 4 k1 (-4)) Post)) :
    Cl shM mX9_goneAlone [pR 0, pI s0] h Post := by
  show Ok shM 0 0 mX9_goneAlone 0 [some (pR 0), some (pI s0), none] [] h Post
  refine Ok.aload_n (pc' := 1) rfl dX9_goneAlone_0 rfl ?_
  refine Ok.getR (pc' := 4) (k := 1) dX9_goneAlone_1 rfl (shM_0 _) rfl inX9 (by decide) rfl wd_982 rfl ?_
  refine Ok.iload_n (pc' := 5) rfl dX9_goneAlone_4 rfl ?_
  refine Ok.iconst (pc' := 6) in_m1 dX9_goneAlone_5 rfl ?_
  obtain ⟨k1, e1, q1, K⟩ := K
  refine Ok.iast (pc' := 7) dX9_goneAlone_6 rfl (shM_1 _) (by decide) e1 q1 ?_
  refine Ok.aload_n (pc' := 8) rfl dX9_goneAlone_7 rfl ?_
  refine Ok.getR (pc' := 11) (k := 2) dX9_goneAlone_8 rfl (shM_0 _) rfl inX9 (by decide) rfl wd_983 rfl ?_
  refine Ok.iload_n (pc' := 12) rfl dX9_goneAlone_11 rfl ?_
  refine Ok.iconst (pc' := 13) in_0 dX9_goneAlone_12 rfl ?_
  refine Ok.iast (pc' := 14) dX9_goneAlone_13 rfl (shM_2 _) (by decide) e1 q1 ?_
  refine Ok.aload_n (pc' := 15) rfl dX9_goneAlone_14 rfl ?_
  refine Ok.getR (pc' := 18) (k := 4) dX9_goneAlone_15 rfl (shM_0 _) rfl inX9 (by decide) rfl wd_985 rfl ?_
  refine Ok.iload_n (pc' := 19) rfl dX9_goneAlone_18 rfl ?_
  refine Ok.bipush (pc' := 21) ⟨by decide, by decide⟩ dX9_goneAlone_19 rfl ?_
  refine Ok.iast (pc' := 22) dX9_goneAlone_21 rfl (shM_4 _) (by decide) e1 q1 ?_
  refine Ok.iconst (pc' := 23) in_0 dX9_goneAlone_22 rfl ?_
  refine Ok.istore_n (pc' := 24) (ls' := [some (pR 0), some (pI s0), some (pI 0)]) dX9_goneAlone_23 rfl (by decide) rfl rfl ?_
  exact K
theorem sX9_goneAlone_24 {s0 v2 : Int} {h : Hp} {Post : Int → Hp → Prop}
    (K : ((3 ≤ v2) → Post 0 h) ∧ ((¬ 3 ≤ v2) → inR ((3 * s0)) ∧ (inR (((3 * s0) + v2)) ∧ (∃ k4 : Nat, ((3 * s0) + v2) = (k4 : Int) ∧ k4 < 1800 ∧ (inR ((v2 + 1)) ∧ (Ok shM 0 0 mX9_goneAlone 24 [some (pR 0), some (pI s0), some (pI (v2 + 1))] [] (hA h 3 k4 (-4)) Post)))))) :
    Ok shM 0 0 mX9_goneAlone 24 [some (pR 0), some (pI s0), some (pI v2)] [] h Post := by
  show Ok shM 0 0 mX9_goneAlone 24 [some (pR 0), some (pI s0), some (pI v2)] [] h Post
  refine Ok.iload_n (pc' := 25) rfl dX9_goneAlone_24 rfl ?_
  refine Ok.iconst (pc' := 26) in_3 dX9_goneAlone_25 rfl ?_
  refine Ok.icmp_ge (tgt := 47) dX9_goneAlone_26 rfl rfl (fun c1 => ?_) (fun c1 => ?_)
  · replace K := K.1 c1
    exact Ok.vret dX9_goneAlone_47 rfl (by decide) K
  · replace K := K.2 c1
    refine Ok.aload_n (pc' := 30) rfl dX9_goneAlone_29 rfl ?_
    refine Ok.getR (pc' := 33) (k := 3) dX9_goneAlone_30 rfl (shM_0 _) rfl inX9 (by decide) rfl wd_984 rfl ?_
    refine Ok.iconst (pc' := 34) in_3 dX9_goneAlone_33 rfl ?_
    refine Ok.iload_n (pc' := 35) rfl dX9_goneAlone_34 rfl ?_
    obtain ⟨q2, K⟩ := K
    refine Ok.imul (pc' := 36) dX9_goneAlone_35 rfl q2 ?_
    refine Ok.iload_n (pc' := 37) rfl dX9_goneAlone_36 rfl ?_
    obtain ⟨q3, K⟩ := K
    refine Ok.iadd (pc' := 38) dX9_goneAlone_37 rfl q3 ?_
    refine Ok.bipush (pc' := 40) ⟨by decide, by decide⟩ dX9_goneAlone_38 rfl ?_
    obtain ⟨k4, e4, q4, K⟩ := K
    refine Ok.iast (pc' := 41) dX9_goneAlone_40 rfl (shM_3 _) (by decide) e4 q4 ?_
    obtain ⟨q5, K⟩ := K
    refine Ok.iinc (pc' := 44) (ls' := [some (pR 0), some (pI s0), some (pI (v2 + 1))]) dX9_goneAlone_41 rfl rfl (by decide) rfl rfl q5 ?_
    refine Ok.goto (tgt := 24) dX9_goneAlone_44 rfl ?_
    exact K
theorem sX9_highMelted_0 {call : Int} {h : Hp} {Post : Int → Hp → Prop}
    (K : Ok shM 0 0 mX9_highMelted 4 [some (pR 0), some (pI call), some (pI 1), some (pI call), none, none, none, none] [] h Post) :
    Cl shM mX9_highMelted [pR 0, pI call] h Post := by
  show Ok shM 0 0 mX9_highMelted 0 [some (pR 0), some (pI call), none, none, none, none, none, none] [] h Post
  refine Ok.iconst (pc' := 1) in_1 dX9_highMelted_0 rfl ?_
  refine Ok.istore_n (pc' := 2) (ls' := [some (pR 0), some (pI call), some (pI 1), none, none, none, none, none]) dX9_highMelted_1 rfl (by decide) rfl rfl ?_
  refine Ok.iload_n (pc' := 3) rfl dX9_highMelted_2 rfl ?_
  refine Ok.istore_n (pc' := 4) (ls' := [some (pR 0), some (pI call), some (pI 1), some (pI call), none, none, none, none]) dX9_highMelted_3 rfl (by decide) rfl rfl ?_
  exact K
theorem sX9_highMelted_4 {call v2 v3 : Int} {h : Hp} {Post : Int → Hp → Prop}
    (K : ∃ k1 : Nat, v3 = (k1 : Int) ∧ k1 < 600 ∧ (((h.1 4 k1 = (-4)) → ∃ k3 : Nat, call = (k3 : Int) ∧ k3 < 600 ∧ (Cl shM mX9_uses [pR 0, pI (h.1 2 k3)] h (fun r1 h1 => inR ((v2 + r1)) ∧ (∃ k5 : Nat, h.1 2 k3 = (k5 : Int) ∧ k5 < 10 ∧ (Cl shM mX9_high [pR 0, pI (h1.1 7 k5)] h1 (fun r2 h2 => inR (((v2 + r1) + r2)) ∧ (Ok shM 0 0 mX9_highMelted 62 [some (pR 0), some (pI call), some (pI v2), some (pI (h.1 2 k3)), some (pI r1), some (pI ((v2 + r1) + r2)), some (pI 0), none] [] h2 Post))))))) ∧ ((¬ h.1 4 k1 = (-4)) → inR ((v2 + 1)) ∧ (Ok shM 0 0 mX9_highMelted 4 [some (pR 0), some (pI call), some (pI (v2 + 1)), some (pI (h.1 4 k1)), none, none, none, none] [] h Post)))) :
    Ok shM 0 0 mX9_highMelted 4 [some (pR 0), some (pI call), some (pI v2), some (pI v3), none, none, none, none] [] h Post := by
  show Ok shM 0 0 mX9_highMelted 4 [some (pR 0), some (pI call), some (pI v2), some (pI v3), none, none, none, none] [] h Post
  refine Ok.aload_n (pc' := 5) rfl dX9_highMelted_4 rfl ?_
  refine Ok.getR (pc' := 8) (k := 4) dX9_highMelted_5 rfl (shM_0 _) rfl inX9 (by decide) rfl wd_985 rfl ?_
  refine Ok.iload_n (pc' := 9) rfl dX9_highMelted_8 rfl ?_
  obtain ⟨k1, e1, q1, K⟩ := K
  refine Ok.iald (pc' := 10) (z := h.1 4 k1) dX9_highMelted_9 rfl (shM_4 _) (by decide) e1 q1 rfl ?_
  refine Ok.bipush (pc' := 12) ⟨by decide, by decide⟩ dX9_highMelted_10 rfl ?_
  refine Ok.icmp_eq (tgt := 28) dX9_highMelted_12 rfl rfl (fun c2 => ?_) (fun c2 => ?_)
  · replace K := K.1 c2
    refine Ok.aload_n (pc' := 29) rfl dX9_highMelted_28 rfl ?_
    refine Ok.getR (pc' := 32) (k := 2) dX9_highMelted_29 rfl (shM_0 _) rfl inX9 (by decide) rfl wd_983 rfl ?_
    refine Ok.iload_n (pc' := 33) rfl dX9_highMelted_32 rfl ?_
    obtain ⟨k3, e3, q3, K⟩ := K
    refine Ok.iald (pc' := 34) (z := h.1 2 k3) dX9_highMelted_33 rfl (shM_2 _) (by decide) e3 q3 rfl ?_
    refine Ok.istore_n (pc' := 35) (ls' := [some (pR 0), some (pI call), some (pI v2), some (pI (h.1 2 k3)), none, none, none, none]) dX9_highMelted_34 rfl (by decide) rfl rfl ?_
    refine Ok.aload_n (pc' := 36) rfl dX9_highMelted_35 rfl ?_
    refine Ok.iload_n (pc' := 37) rfl dX9_highMelted_36 rfl ?_
    refine Ok.callV (pc' := 40) (av := [pI (h.1 2 k3)]) (rest := []) dX9_highMelted_37 rfl (by decide) cvX9_highMelted_153 (shM_0 _) rfl rfl rfl (leb rfl) (leb rfl) K (fun r1 h1 K => ?_)
    show Ok shM 0 0 mX9_highMelted 40 [some (pR 0), some (pI call), some (pI v2), some (pI (h.1 2 k3)), none, none, none, none] [pI r1] h1 Post
    refine Ok.istore (pc' := 42) (ls' := [some (pR 0), some (pI call), some (pI v2), some (pI (h.1 2 k3)), some (pI r1), none, none, none]) dX9_highMelted_40 rfl (by decide) rfl rfl ?_
    refine Ok.iload_n (pc' := 43) rfl dX9_highMelted_42 rfl ?_
    refine Ok.iload (pc' := 45) rfl dX9_highMelted_43 rfl ?_
    obtain ⟨q4, K⟩ := K
    refine Ok.iadd (pc' := 46) dX9_highMelted_45 rfl q4 ?_
    refine Ok.aload_n (pc' := 47) rfl dX9_highMelted_46 rfl ?_
    refine Ok.aload_n (pc' := 48) rfl dX9_highMelted_47 rfl ?_
    refine Ok.getR (pc' := 51) (k := 8) dX9_highMelted_48 rfl (shM_0 _) rfl inX9 (by decide) rfl wd_989 rfl ?_
    refine Ok.iload_n (pc' := 52) rfl dX9_highMelted_51 rfl ?_
    obtain ⟨k5, e5, q5, K⟩ := K
    refine Ok.iald (pc' := 53) (z := h1.1 7 k5) dX9_highMelted_52 rfl (shM_7 _) (by decide) e5 q5 rfl ?_
    refine Ok.callV (pc' := 56) (av := [pI (h1.1 7 k5)]) (rest := [pI (v2 + r1)]) dX9_highMelted_53 rfl (by decide) cvX9_highMelted_120 (shM_0 _) rfl rfl rfl (leb rfl) (leb rfl) K (fun r2 h2 K => ?_)
    show Ok shM 0 0 mX9_highMelted 56 [some (pR 0), some (pI call), some (pI v2), some (pI (h.1 2 k3)), some (pI r1), none, none, none] [pI r2, pI (v2 + r1)] h2 Post
    obtain ⟨q6, K⟩ := K
    refine Ok.iadd (pc' := 57) dX9_highMelted_56 rfl q6 ?_
    refine Ok.istore (pc' := 59) (ls' := [some (pR 0), some (pI call), some (pI v2), some (pI (h.1 2 k3)), some (pI r1), some (pI ((v2 + r1) + r2)), none, none]) dX9_highMelted_57 rfl (by decide) rfl rfl ?_
    refine Ok.iconst (pc' := 60) in_0 dX9_highMelted_59 rfl ?_
    refine Ok.istore (pc' := 62) (ls' := [some (pR 0), some (pI call), some (pI v2), some (pI (h.1 2 k3)), some (pI r1), some (pI ((v2 + r1) + r2)), some (pI 0), none]) dX9_highMelted_60 rfl (by decide) rfl rfl ?_
    exact K
  · replace K := K.2 c2
    obtain ⟨q3, K⟩ := K
    refine Ok.iinc (pc' := 18) (ls' := [some (pR 0), some (pI call), some (pI (v2 + 1)), some (pI v3), none, none, none, none]) dX9_highMelted_15 rfl rfl (by decide) rfl rfl q3 ?_
    refine Ok.aload_n (pc' := 19) rfl dX9_highMelted_18 rfl ?_
    refine Ok.getR (pc' := 22) (k := 4) dX9_highMelted_19 rfl (shM_0 _) rfl inX9 (by decide) rfl wd_985 rfl ?_
    refine Ok.iload_n (pc' := 23) rfl dX9_highMelted_22 rfl ?_
    refine Ok.iald (pc' := 24) (z := h.1 4 k1) dX9_highMelted_23 rfl (shM_4 _) (by decide) e1 q1 rfl ?_
    refine Ok.istore_n (pc' := 25) (ls' := [some (pR 0), some (pI call), some (pI (v2 + 1)), some (pI (h.1 4 k1)), none, none, none, none]) dX9_highMelted_24 rfl (by decide) rfl rfl ?_
    refine Ok.goto (tgt := 4) dX9_highMelted_25 rfl ?_
    exact K
theorem sX9_highMelted_62 {call v2 v3 v4 v5 v6 : Int} {h : Hp} {Post : Int → Hp → Prop}
    (K : ((v4 ≤ v6) → Post v5 h) ∧ ((¬ v4 ≤ v6) → ∃ k2 : Nat, v3 = (k2 : Int) ∧ k2 < 10 ∧ (((h.1 6 k2 ≤ v6) → inR ((v2 + v6)) ∧ (inR (((v2 + v6) + 1)) ∧ (inR ((((v2 + v6) + 1) + 1)) ∧ ((((((v2 + v6) + 1) + 1) ≤ v5) → inR ((v6 + 1)) ∧ (Ok shM 0 0 mX9_highMelted 62 [some (pR 0), some (pI call), some (pI v2), some (pI v3), some (pI v4), some (pI v5), some (pI (v6 + 1)), none] [] h Post)) ∧ ((¬ (((v2 + v6) + 1) + 1) ≤ v5) → inR ((v6 + 1)) ∧ (Ok shM 0 0 mX9_highMelted 62 [some (pR 0), some (pI call), some (pI v2), some (pI v3), some (pI v4), some (pI (((v2 + v6) + 1) + 1)), some (pI (v6 + 1)), none] [] h Post)))))) ∧ ((¬ h.1 6 k2 ≤ v6) → inR ((3 * call)) ∧ (inR (((3 * call) + v6)) ∧ (∃ k6 : Nat, ((3 * call) + v6) = (k6 : Int) ∧ k6 < 1800 ∧ (Cl shM mX9_high [pR 0, pI (h.1 3 k6)] h (fun r1 h1 => inR ((v2 + v6)) ∧ (inR (((v2 + v6) + 1)) ∧ (inR ((((v2 + v6) + 1) + r1)) ∧ ((((((v2 + v6) + 1) + r1) ≤ v5) → inR ((v6 + 1)) ∧ (Ok shM 0 0 mX9_highMelted 62 [some (pR 0), some (pI call), some (pI v2), some (pI v3), some (pI v4), some (pI v5), some (pI (v6 + 1)), none] [] h1 Post)) ∧ ((¬ (((v2 + v6) + 1) + r1) ≤ v5) → inR ((v6 + 1)) ∧ (Ok shM 0 0 mX9_highMelted 62 [some (pR 0), some (pI call), some (pI v2), some (pI v3), some (pI v4), some (pI (((v2 + v6) + 1) + r1)), some (pI (v6 + 1)), none] [] h1 Post))))))))))))) :
    Ok shM 0 0 mX9_highMelted 62 [some (pR 0), some (pI call), some (pI v2), some (pI v3), some (pI v4), some (pI v5), some (pI v6), none] [] h Post := by
  show Ok shM 0 0 mX9_highMelted 62 [some (pR 0), some (pI call), some (pI v2), some (pI v3), some (pI v4), some (pI v5), some (pI v6), none] [] h Post
  refine Ok.iload (pc' := 64) rfl dX9_highMelted_62 rfl ?_
  refine Ok.iload (pc' := 66) rfl dX9_highMelted_64 rfl ?_
  refine Ok.icmp_ge (tgt := 137) dX9_highMelted_66 rfl rfl (fun c1 => ?_) (fun c1 => ?_)
  · replace K := K.1 c1
    refine Ok.iload (pc' := 139) rfl dX9_highMelted_137 rfl ?_
    exact Ok.iret dX9_highMelted_139 rfl (by decide) K
  · replace K := K.2 c1
    refine Ok.iload (pc' := 71) rfl dX9_highMelted_69 rfl ?_
    refine Ok.aload_n (pc' := 72) rfl dX9_highMelted_71 rfl ?_
    refine Ok.getR (pc' := 75) (k := 7) dX9_highMelted_72 rfl (shM_0 _) rfl inX9 (by decide) rfl wd_988 rfl ?_
    refine Ok.iload_n (pc' := 76) rfl dX9_highMelted_75 rfl ?_
    obtain ⟨k2, e2, q2, K⟩ := K
    refine Ok.iald (pc' := 77) (z := h.1 6 k2) dX9_highMelted_76 rfl (shM_6 _) (by decide) e2 q2 rfl ?_
    refine Ok.icmp_ge (tgt := 98) dX9_highMelted_77 rfl rfl (fun c3 => ?_) (fun c3 => ?_)
    · replace K := K.1 c3
      refine Ok.iconst (pc' := 99) in_1 dX9_highMelted_98 rfl ?_
      refine Ok.istore (pc' := 101) (ls' := [some (pR 0), some (pI call), some (pI v2), some (pI v3), some (pI v4), some (pI v5), some (pI v6), some (pI 1)]) dX9_highMelted_99 rfl (by decide) rfl rfl ?_
      refine Ok.iload_n (pc' := 102) rfl dX9_highMelted_101 rfl ?_
      refine Ok.iload (pc' := 104) rfl dX9_highMelted_102 rfl ?_
      obtain ⟨q4, K⟩ := K
      refine Ok.iadd (pc' := 105) dX9_highMelted_104 rfl q4 ?_
      refine Ok.iconst (pc' := 106) in_1 dX9_highMelted_105 rfl ?_
      obtain ⟨q5, K⟩ := K
      refine Ok.iadd (pc' := 107) dX9_highMelted_106 rfl q5 ?_
      refine Ok.iload (pc' := 109) rfl dX9_highMelted_107 rfl ?_
      obtain ⟨q6, K⟩ := K
      refine Ok.iadd (pc' := 110) dX9_highMelted_109 rfl q6 ?_
      refine Ok.iload (pc' := 112) rfl dX9_highMelted_110 rfl ?_
      refine Ok.icmp_le (tgt := 127) dX9_highMelted_112 rfl rfl (fun c7 => ?_) (fun c7 => ?_)
      · replace K := K.1 c7
        refine Ok.iload (pc' := 129) rfl dX9_highMelted_127 rfl ?_
        refine Ok.istore (pc' := 131) (ls' := [some (pR 0), some (pI call), some (pI v2), some (pI v3), some (pI v4), some (pI v5), some (pI v6), some (pI 1)]) dX9_highMelted_129 rfl (by decide) rfl rfl ?_
        obtain ⟨q8, K⟩ := K
        refine Ok.iinc (pc' := 134) (ls' := [some (pR 0), some (pI call), some (pI v2), some (pI v3), some (pI v4), some (pI v5), some (pI (v6 + 1)), some (pI 1)]) dX9_highMelted_131 rfl rfl (by decide) rfl rfl q8 ?_
        refine Ok.goto (tgt := 62) dX9_highMelted_134 rfl ?_
        exact Ok.fl (ls' := [some (pR 0), some (pI call), some (pI v2), some (pI v3), some (pI v4), some (pI v5), some (pI (v6 + 1)), none]) K ⟨rfl, rfl, rfl, rfl, rfl, rfl, rfl, trivial⟩
      · replace K := K.2 c7
        refine Ok.iload_n (pc' := 116) rfl dX9_highMelted_115 rfl ?_
        refine Ok.iload (pc' := 118) rfl dX9_highMelted_116 rfl ?_
        refine Ok.iadd (pc' := 119) dX9_highMelted_118 rfl q4 ?_
        refine Ok.iconst (pc' := 120) in_1 dX9_highMelted_119 rfl ?_
        refine Ok.iadd (pc' := 121) dX9_highMelted_120 rfl q5 ?_
        refine Ok.iload (pc' := 123) rfl dX9_highMelted_121 rfl ?_
        refine Ok.iadd (pc' := 124) dX9_highMelted_123 rfl q6 ?_
        refine Ok.goto (tgt := 129) dX9_highMelted_124 rfl ?_
        refine Ok.istore (pc' := 131) (ls' := [some (pR 0), some (pI call), some (pI v2), some (pI v3), some (pI v4), some (pI (((v2 + v6) + 1) + 1)), some (pI v6), some (pI 1)]) dX9_highMelted_129 rfl (by decide) rfl rfl ?_
        obtain ⟨q8, K⟩ := K
        refine Ok.iinc (pc' := 134) (ls' := [some (pR 0), some (pI call), some (pI v2), some (pI v3), some (pI v4), some (pI (((v2 + v6) + 1) + 1)), some (pI (v6 + 1)), some (pI 1)]) dX9_highMelted_131 rfl rfl (by decide) rfl rfl q8 ?_
        refine Ok.goto (tgt := 62) dX9_highMelted_134 rfl ?_
        exact Ok.fl (ls' := [some (pR 0), some (pI call), some (pI v2), some (pI v3), some (pI v4), some (pI (((v2 + v6) + 1) + 1)), some (pI (v6 + 1)), none]) K ⟨rfl, rfl, rfl, rfl, rfl, rfl, rfl, trivial⟩
    · replace K := K.2 c3
      refine Ok.aload_n (pc' := 81) rfl dX9_highMelted_80 rfl ?_
      refine Ok.aload_n (pc' := 82) rfl dX9_highMelted_81 rfl ?_
      refine Ok.getR (pc' := 85) (k := 3) dX9_highMelted_82 rfl (shM_0 _) rfl inX9 (by decide) rfl wd_984 rfl ?_
      refine Ok.iconst (pc' := 86) in_3 dX9_highMelted_85 rfl ?_
      refine Ok.iload_n (pc' := 87) rfl dX9_highMelted_86 rfl ?_
      obtain ⟨q4, K⟩ := K
      refine Ok.imul (pc' := 88) dX9_highMelted_87 rfl q4 ?_
      refine Ok.iload (pc' := 90) rfl dX9_highMelted_88 rfl ?_
      obtain ⟨q5, K⟩ := K
      refine Ok.iadd (pc' := 91) dX9_highMelted_90 rfl q5 ?_
      obtain ⟨k6, e6, q6, K⟩ := K
      refine Ok.iald (pc' := 92) (z := h.1 3 k6) dX9_highMelted_91 rfl (shM_3 _) (by decide) e6 q6 rfl ?_
      refine Ok.callV (pc' := 95) (av := [pI (h.1 3 k6)]) (rest := []) dX9_highMelted_92 rfl (by decide) cvX9_highMelted_120 (shM_0 _) rfl rfl rfl (leb rfl) (leb rfl) K (fun r1 h1 K => ?_)
      show Ok shM 0 0 mX9_highMelted 95 [some (pR 0), some (pI call), some (pI v2), some (pI v3), some (pI v4), some (pI v5), some (pI v6), none] [pI r1] h1 Post
      refine Ok.goto (tgt := 99) dX9_highMelted_95 rfl ?_
      refine Ok.istore (pc' := 101) (ls' := [some (pR 0), some (pI call), some (pI v2), some (pI v3), some (pI v4), some (pI v5), some (pI v6), some (pI r1)]) dX9_highMelted_99 rfl (by decide) rfl rfl ?_
      refine Ok.iload_n (pc' := 102) rfl dX9_highMelted_101 rfl ?_
      refine Ok.iload (pc' := 104) rfl dX9_highMelted_102 rfl ?_
      obtain ⟨q7, K⟩ := K
      refine Ok.iadd (pc' := 105) dX9_highMelted_104 rfl q7 ?_
      refine Ok.iconst (pc' := 106) in_1 dX9_highMelted_105 rfl ?_
      obtain ⟨q8, K⟩ := K
      refine Ok.iadd (pc' := 107) dX9_highMelted_106 rfl q8 ?_
      refine Ok.iload (pc' := 109) rfl dX9_highMelted_107 rfl ?_
      obtain ⟨q9, K⟩ := K
      refine Ok.iadd (pc' := 110) dX9_highMelted_109 rfl q9 ?_
      refine Ok.iload (pc' := 112) rfl dX9_highMelted_110 rfl ?_
      refine Ok.icmp_le (tgt := 127) dX9_highMelted_112 rfl rfl (fun c10 => ?_) (fun c10 => ?_)
      · replace K := K.1 c10
        refine Ok.iload (pc' := 129) rfl dX9_highMelted_127 rfl ?_
        refine Ok.istore (pc' := 131) (ls' := [some (pR 0), some (pI call), some (pI v2), some (pI v3), some (pI v4), some (pI v5), some (pI v6), some (pI r1)]) dX9_highMelted_129 rfl (by decide) rfl rfl ?_
        obtain ⟨q11, K⟩ := K
        refine Ok.iinc (pc' := 134) (ls' := [some (pR 0), some (pI call), some (pI v2), some (pI v3), some (pI v4), some (pI v5), some (pI (v6 + 1)), some (pI r1)]) dX9_highMelted_131 rfl rfl (by decide) rfl rfl q11 ?_
        refine Ok.goto (tgt := 62) dX9_highMelted_134 rfl ?_
        exact Ok.fl (ls' := [some (pR 0), some (pI call), some (pI v2), some (pI v3), some (pI v4), some (pI v5), some (pI (v6 + 1)), none]) K ⟨rfl, rfl, rfl, rfl, rfl, rfl, rfl, trivial⟩
      · replace K := K.2 c10
        refine Ok.iload_n (pc' := 116) rfl dX9_highMelted_115 rfl ?_
        refine Ok.iload (pc' := 118) rfl dX9_highMelted_116 rfl ?_
        refine Ok.iadd (pc' := 119) dX9_highMelted_118 rfl q7 ?_
        refine Ok.iconst (pc' := 120) in_1 dX9_highMelted_119 rfl ?_
        refine Ok.iadd (pc' := 121) dX9_highMelted_120 rfl q8 ?_
        refine Ok.iload (pc' := 123) rfl dX9_highMelted_121 rfl ?_
        refine Ok.iadd (pc' := 124) dX9_highMelted_123 rfl q9 ?_
        refine Ok.goto (tgt := 129) dX9_highMelted_124 rfl ?_
        refine Ok.istore (pc' := 131) (ls' := [some (pR 0), some (pI call), some (pI v2), some (pI v3), some (pI v4), some (pI (((v2 + v6) + 1) + r1)), some (pI v6), some (pI r1)]) dX9_highMelted_129 rfl (by decide) rfl rfl ?_
        obtain ⟨q11, K⟩ := K
        refine Ok.iinc (pc' := 134) (ls' := [some (pR 0), some (pI call), some (pI v2), some (pI v3), some (pI v4), some (pI (((v2 + v6) + 1) + r1)), some (pI (v6 + 1)), some (pI r1)]) dX9_highMelted_131 rfl rfl (by decide) rfl rfl q11 ?_
        refine Ok.goto (tgt := 62) dX9_highMelted_134 rfl ?_
        exact Ok.fl (ls' := [some (pR 0), some (pI call), some (pI v2), some (pI v3), some (pI v4), some (pI (((v2 + v6) + 1) + r1)), some (pI (v6 + 1)), none]) K ⟨rfl, rfl, rfl, rfl, rfl, rfl, rfl, trivial⟩
theorem sX9_writesOff_0 {root n : Int} {h : Hp} {Post : Int → Hp → Prop}
    (K : Cl shM mX9_goes [pR 0, pI root] h (fun r1 h1 => Ok shM 0 0 mX9_writesOff 9 [some (pR 0), some (pI root), some (pI n), some (pI r1), some (pI 0), none, none] [] h1 Post)) :
    Cl shM mX9_writesOff [pR 0, pI root, pI n] h Post := by
  show Ok shM 0 0 mX9_writesOff 0 [some (pR 0), some (pI root), some (pI n), none, none, none, none] [] h Post
  refine Ok.aload_n (pc' := 1) rfl dX9_writesOff_0 rfl ?_
  refine Ok.iload_n (pc' := 2) rfl dX9_writesOff_1 rfl ?_
  refine Ok.callV (pc' := 5) (av := [pI root]) (rest := []) dX9_writesOff_2 rfl (by decide) cvX9_writesOff_100 (shM_0 _) rfl rfl rfl (leb rfl) (leb rfl) K (fun r1 h1 K => ?_)
  show Ok shM 0 0 mX9_writesOff 5 [some (pR 0), some (pI root), some (pI n), none, none, none, none] [pI r1] h1 Post
  refine Ok.istore_n (pc' := 6) (ls' := [some (pR 0), some (pI root), some (pI n), some (pI r1), none, none, none]) dX9_writesOff_5 rfl (by decide) rfl rfl ?_
  refine Ok.iconst (pc' := 7) in_0 dX9_writesOff_6 rfl ?_
  refine Ok.istore (pc' := 9) (ls' := [some (pR 0), some (pI root), some (pI n), some (pI r1), some (pI 0), none, none]) dX9_writesOff_7 rfl (by decide) rfl rfl ?_
  exact K
theorem sX9_writesOff_9 {root n v3 v4 : Int} {h : Hp} {Post : Int → Hp → Prop}
    (K : ((v3 ≤ v4) → Ok shM 0 0 mX9_writesOff 38 [some (pR 0), some (pI root), some (pI n), some (pI v3), some (pI 0), none, none] [] h Post) ∧ ((¬ v3 ≤ v4) → ∃ k2 : Nat, v4 = (k2 : Int) ∧ k2 < 600 ∧ (inR ((v4 + 1)) ∧ (Ok shM 0 0 mX9_writesOff 9 [some (pR 0), some (pI root), some (pI n), some (pI v3), some (pI (v4 + 1)), none, none] [] (hA h 13 k2 (h.1 9 k2)) Post)))) :
    Ok shM 0 0 mX9_writesOff 9 [some (pR 0), some (pI root), some (pI n), some (pI v3), some (pI v4), none, none] [] h Post := by
  show Ok shM 0 0 mX9_writesOff 9 [some (pR 0), some (pI root), some (pI n), some (pI v3), some (pI v4), none, none] [] h Post
  refine Ok.iload (pc' := 11) rfl dX9_writesOff_9 rfl ?_
  refine Ok.iload_n (pc' := 12) rfl dX9_writesOff_11 rfl ?_
  refine Ok.icmp_ge (tgt := 35) dX9_writesOff_12 rfl rfl (fun c1 => ?_) (fun c1 => ?_)
  · replace K := K.1 c1
    refine Ok.iconst (pc' := 36) in_0 dX9_writesOff_35 rfl ?_
    refine Ok.istore (pc' := 38) (ls' := [some (pR 0), some (pI root), some (pI n), some (pI v3), some (pI 0), none, none]) dX9_writesOff_36 rfl (by decide) rfl rfl ?_
    exact K
  · replace K := K.2 c1
    refine Ok.aload_n (pc' := 16) rfl dX9_writesOff_15 rfl ?_
    refine Ok.getR (pc' := 19) (k := 15) dX9_writesOff_16 rfl (shM_0 _) rfl inX9 (by decide) rfl wd_996 rfl ?_
    refine Ok.iload (pc' := 21) rfl dX9_writesOff_19 rfl ?_
    refine Ok.aload_n (pc' := 22) rfl dX9_writesOff_21 rfl ?_
    refine Ok.getR (pc' := 25) (k := 10) dX9_writesOff_22 rfl (shM_0 _) rfl inX9 (by decide) rfl wd_991 rfl ?_
    refine Ok.iload (pc' := 27) rfl dX9_writesOff_25 rfl ?_
    obtain ⟨k2, e2, q2, K⟩ := K
    refine Ok.iald (pc' := 28) (z := h.1 9 k2) dX9_writesOff_27 rfl (shM_9 _) (by decide) e2 q2 rfl ?_
    refine Ok.iast (pc' := 29) dX9_writesOff_28 rfl (shM_13 _) (by decide) e2 q2 ?_
    obtain ⟨q3, K⟩ := K
    refine Ok.iinc (pc' := 32) (ls' := [some (pR 0), some (pI root), some (pI n), some (pI v3), some (pI (v4 + 1)), none, none]) dX9_writesOff_29 rfl rfl (by decide) rfl rfl q3 ?_
    refine Ok.goto (tgt := 9) dX9_writesOff_32 rfl ?_
    exact K
theorem sX9_writesOff_38 {root n v3 v4 : Int} {h : Hp} {Post : Int → Hp → Prop}
    (K : ((v3 ≤ v4) → Ok shM 0 0 mX9_writesOff 133 [some (pR 0), some (pI root), none, some (pI v3), some (pI 0), none, none] [] h Post) ∧ ((¬ v3 ≤ v4) → ∃ k2 : Nat, v4 = (k2 : Int) ∧ k2 < 600 ∧ (∃ k3 : Nat, h.1 13 k2 = (k3 : Int) ∧ k3 < 600 ∧ (((h.1 1 k3 = 1) → inR ((h.1 2 k3 + n)) ∧ (Cl shM mX9_make [pR 0, pI (h.1 1 k3), pI (h.1 2 k3 + n)] h (fun r1 h1 => inR ((v4 + 1)) ∧ (Ok shM 0 0 mX9_writesOff 38 [some (pR 0), some (pI root), some (pI n), some (pI v3), some (pI (v4 + 1)), none, none] [] (hA h1 22 k3 r1) Post)))) ∧ ((¬ h.1 1 k3 = 1) → ((¬ h.1 1 k3 = 4) → Cl shM mX9_make [pR 0, pI (h.1 1 k3), pI (h.1 2 k3)] h (fun r2 h2 => inR ((v4 + 1)) ∧ (Ok shM 0 0 mX9_writesOff 38 [some (pR 0), some (pI root), some (pI n), some (pI v3), some (pI (v4 + 1)), none, none] [] (hA h2 22 k3 r2) Post))) ∧ ((h.1 1 k3 = 4) → inR ((h.1 2 k3 + n)) ∧ (Cl shM mX9_make [pR 0, pI (h.1 1 k3), pI (h.1 2 k3 + n)] h (fun r3 h3 => inR ((v4 + 1)) ∧ (Ok shM 0 0 mX9_writesOff 38 [some (pR 0), some (pI root), some (pI n), some (pI v3), some (pI (v4 + 1)), none, none] [] (hA h3 22 k3 r3) Post))))))))) :
    Ok shM 0 0 mX9_writesOff 38 [some (pR 0), some (pI root), some (pI n), some (pI v3), some (pI v4), none, none] [] h Post := by
  show Ok shM 0 0 mX9_writesOff 38 [some (pR 0), some (pI root), some (pI n), some (pI v3), some (pI v4), none, none] [] h Post
  refine Ok.iload (pc' := 40) rfl dX9_writesOff_38 rfl ?_
  refine Ok.iload_n (pc' := 41) rfl dX9_writesOff_40 rfl ?_
  refine Ok.icmp_ge (tgt := 130) dX9_writesOff_41 rfl rfl (fun c1 => ?_) (fun c1 => ?_)
  · replace K := K.1 c1
    refine Ok.iconst (pc' := 131) in_0 dX9_writesOff_130 rfl ?_
    refine Ok.istore (pc' := 133) (ls' := [some (pR 0), some (pI root), some (pI n), some (pI v3), some (pI 0), none, none]) dX9_writesOff_131 rfl (by decide) rfl rfl ?_
    exact Ok.fl (ls' := [some (pR 0), some (pI root), none, some (pI v3), some (pI 0), none, none]) K ⟨rfl, rfl, rfl, rfl, trivial⟩
  · replace K := K.2 c1
    refine Ok.aload_n (pc' := 45) rfl dX9_writesOff_44 rfl ?_
    refine Ok.getR (pc' := 48) (k := 15) dX9_writesOff_45 rfl (shM_0 _) rfl inX9 (by decide) rfl wd_996 rfl ?_
    refine Ok.iload (pc' := 50) rfl dX9_writesOff_48 rfl ?_
    obtain ⟨k2, e2, q2, K⟩ := K
    refine Ok.iald (pc' := 51) (z := h.1 13 k2) dX9_writesOff_50 rfl (shM_13 _) (by decide) e2 q2 rfl ?_
    refine Ok.istore (pc' := 53) (ls' := [some (pR 0), some (pI root), some (pI n), some (pI v3), some (pI v4), some (pI (h.1 13 k2)), none]) dX9_writesOff_51 rfl (by decide) rfl rfl ?_
    refine Ok.aload_n (pc' := 54) rfl dX9_writesOff_53 rfl ?_
    refine Ok.getR (pc' := 57) (k := 1) dX9_writesOff_54 rfl (shM_0 _) rfl inX9 (by decide) rfl wd_982 rfl ?_
    refine Ok.iload (pc' := 59) rfl dX9_writesOff_57 rfl ?_
    obtain ⟨k3, e3, q3, K⟩ := K
    refine Ok.iald (pc' := 60) (z := h.1 1 k3) dX9_writesOff_59 rfl (shM_1 _) (by decide) e3 q3 rfl ?_
    refine Ok.iconst (pc' := 61) in_1 dX9_writesOff_60 rfl ?_
    refine Ok.icmp_eq (tgt := 75) dX9_writesOff_61 rfl rfl (fun c4 => ?_) (fun c4 => ?_)
    · replace K := K.1 c4
      refine Ok.iconst (pc' := 76) in_1 dX9_writesOff_75 rfl ?_
      refine Ok.goto (tgt := 80) dX9_writesOff_76 rfl ?_
      refine Ok.istore (pc' := 82) (ls' := [some (pR 0), some (pI root), some (pI n), some (pI v3), some (pI v4), some (pI (h.1 13 k2)), some (pI 1)]) dX9_writesOff_80 rfl (by decide) rfl rfl ?_
      refine Ok.aload_n (pc' := 83) rfl dX9_writesOff_82 rfl ?_
      refine Ok.getR (pc' := 86) (k := 35) dX9_writesOff_83 rfl (shM_0 _) rfl inX9 (by decide) rfl wd_1016 rfl ?_
      refine Ok.iload (pc' := 88) rfl dX9_writesOff_86 rfl ?_
      refine Ok.aload_n (pc' := 89) rfl dX9_writesOff_88 rfl ?_
      refine Ok.aload_n (pc' := 90) rfl dX9_writesOff_89 rfl ?_
      refine Ok.getR (pc' := 93) (k := 1) dX9_writesOff_90 rfl (shM_0 _) rfl inX9 (by decide) rfl wd_982 rfl ?_
      refine Ok.iload (pc' := 95) rfl dX9_writesOff_93 rfl ?_
      refine Ok.iald (pc' := 96) (z := h.1 1 k3) dX9_writesOff_95 rfl (shM_1 _) (by decide) e3 q3 rfl ?_
      refine Ok.iload (pc' := 98) rfl dX9_writesOff_96 rfl ?_
      refine Ok.if_eq (tgt := 113) dX9_writesOff_98 rfl rfl (fun z => absurd z (by decide)) (fun _ => ?_)
      refine Ok.aload_n (pc' := 102) rfl dX9_writesOff_101 rfl ?_
      refine Ok.getR (pc' := 105) (k := 2) dX9_writesOff_102 rfl (shM_0 _) rfl inX9 (by decide) rfl wd_983 rfl ?_
      refine Ok.iload (pc' := 107) rfl dX9_writesOff_105 rfl ?_
      refine Ok.iald (pc' := 108) (z := h.1 2 k3) dX9_writesOff_107 rfl (shM_2 _) (by decide) e3 q3 rfl ?_
      refine Ok.iload_n (pc' := 109) rfl dX9_writesOff_108 rfl ?_
      obtain ⟨q5, K⟩ := K
      refine Ok.iadd (pc' := 110) dX9_writesOff_109 rfl q5 ?_
      refine Ok.goto (tgt := 120) dX9_writesOff_110 rfl ?_
      refine Ok.callV (pc' := 123) (av := [pI (h.1 1 k3), pI (h.1 2 k3 + n)]) (rest := [pI (h.1 13 k2), pR 22]) dX9_writesOff_120 rfl (by decide) cvX9_writesOff_123 (shM_0 _) rfl rfl rfl (leb rfl) (leb rfl) K (fun r1 h1 K => ?_)
      show Ok shM 0 0 mX9_writesOff 123 [some (pR 0), some (pI root), some (pI n), some (pI v3), some (pI v4), some (pI (h.1 13 k2)), some (pI 1)] [pI r1, pI (h.1 13 k2), pR 22] h1 Post
      refine Ok.iast (pc' := 124) dX9_writesOff_123 rfl (shM_22 _) (by decide) e3 q3 ?_
      obtain ⟨q6, K⟩ := K
      refine Ok.iinc (pc' := 127) (ls' := [some (pR 0), some (pI root), some (pI n), some (pI v3), some (pI (v4 + 1)), some (pI (h.1 13 k2)), some (pI 1)]) dX9_writesOff_124 rfl rfl (by decide) rfl rfl q6 ?_
      refine Ok.goto (tgt := 38) dX9_writesOff_127 rfl ?_
      exact Ok.fl (ls' := [some (pR 0), some (pI root), some (pI n), some (pI v3), some (pI (v4 + 1)), none, none]) K ⟨rfl, rfl, rfl, rfl, rfl, trivial⟩
    · replace K := K.2 c4
      refine Ok.aload_n (pc' := 65) rfl dX9_writesOff_64 rfl ?_
      refine Ok.getR (pc' := 68) (k := 1) dX9_writesOff_65 rfl (shM_0 _) rfl inX9 (by decide) rfl wd_982 rfl ?_
      refine Ok.iload (pc' := 70) rfl dX9_writesOff_68 rfl ?_
      refine Ok.iald (pc' := 71) (z := h.1 1 k3) dX9_writesOff_70 rfl (shM_1 _) (by decide) e3 q3 rfl ?_
      refine Ok.iconst (pc' := 72) in_4 dX9_writesOff_71 rfl ?_
      refine Ok.icmp_ne (tgt := 79) dX9_writesOff_72 rfl rfl (fun c5 => ?_) (fun c5 => ?_)
      · replace K := K.1 c5
        refine Ok.iconst (pc' := 80) in_0 dX9_writesOff_79 rfl ?_
        refine Ok.istore (pc' := 82) (ls' := [some (pR 0), some (pI root), some (pI n), some (pI v3), some (pI v4), some (pI (h.1 13 k2)), some (pI 0)]) dX9_writesOff_80 rfl (by decide) rfl rfl ?_
        refine Ok.aload_n (pc' := 83) rfl dX9_writesOff_82 rfl ?_
        refine Ok.getR (pc' := 86) (k := 35) dX9_writesOff_83 rfl (shM_0 _) rfl inX9 (by decide) rfl wd_1016 rfl ?_
        refine Ok.iload (pc' := 88) rfl dX9_writesOff_86 rfl ?_
        refine Ok.aload_n (pc' := 89) rfl dX9_writesOff_88 rfl ?_
        refine Ok.aload_n (pc' := 90) rfl dX9_writesOff_89 rfl ?_
        refine Ok.getR (pc' := 93) (k := 1) dX9_writesOff_90 rfl (shM_0 _) rfl inX9 (by decide) rfl wd_982 rfl ?_
        refine Ok.iload (pc' := 95) rfl dX9_writesOff_93 rfl ?_
        refine Ok.iald (pc' := 96) (z := h.1 1 k3) dX9_writesOff_95 rfl (shM_1 _) (by decide) e3 q3 rfl ?_
        refine Ok.iload (pc' := 98) rfl dX9_writesOff_96 rfl ?_
        refine Ok.if_eq (tgt := 113) dX9_writesOff_98 rfl rfl (fun _ => ?_) (fun z => absurd (by decide) z)
        refine Ok.aload_n (pc' := 114) rfl dX9_writesOff_113 rfl ?_
        refine Ok.getR (pc' := 117) (k := 2) dX9_writesOff_114 rfl (shM_0 _) rfl inX9 (by decide) rfl wd_983 rfl ?_
        refine Ok.iload (pc' := 119) rfl dX9_writesOff_117 rfl ?_
        refine Ok.iald (pc' := 120) (z := h.1 2 k3) dX9_writesOff_119 rfl (shM_2 _) (by decide) e3 q3 rfl ?_
        refine Ok.callV (pc' := 123) (av := [pI (h.1 1 k3), pI (h.1 2 k3)]) (rest := [pI (h.1 13 k2), pR 22]) dX9_writesOff_120 rfl (by decide) cvX9_writesOff_123 (shM_0 _) rfl rfl rfl (leb rfl) (leb rfl) K (fun r2 h2 K => ?_)
        show Ok shM 0 0 mX9_writesOff 123 [some (pR 0), some (pI root), some (pI n), some (pI v3), some (pI v4), some (pI (h.1 13 k2)), some (pI 0)] [pI r2, pI (h.1 13 k2), pR 22] h2 Post
        refine Ok.iast (pc' := 124) dX9_writesOff_123 rfl (shM_22 _) (by decide) e3 q3 ?_
        obtain ⟨q6, K⟩ := K
        refine Ok.iinc (pc' := 127) (ls' := [some (pR 0), some (pI root), some (pI n), some (pI v3), some (pI (v4 + 1)), some (pI (h.1 13 k2)), some (pI 0)]) dX9_writesOff_124 rfl rfl (by decide) rfl rfl q6 ?_
        refine Ok.goto (tgt := 38) dX9_writesOff_127 rfl ?_
        exact Ok.fl (ls' := [some (pR 0), some (pI root), some (pI n), some (pI v3), some (pI (v4 + 1)), none, none]) K ⟨rfl, rfl, rfl, rfl, rfl, trivial⟩
      · replace K := K.2 c5
        refine Ok.iconst (pc' := 76) in_1 dX9_writesOff_75 rfl ?_
        refine Ok.goto (tgt := 80) dX9_writesOff_76 rfl ?_
        refine Ok.istore (pc' := 82) (ls' := [some (pR 0), some (pI root), some (pI n), some (pI v3), some (pI v4), some (pI (h.1 13 k2)), some (pI 1)]) dX9_writesOff_80 rfl (by decide) rfl rfl ?_
        refine Ok.aload_n (pc' := 83) rfl dX9_writesOff_82 rfl ?_
        refine Ok.getR (pc' := 86) (k := 35) dX9_writesOff_83 rfl (shM_0 _) rfl inX9 (by decide) rfl wd_1016 rfl ?_
        refine Ok.iload (pc' := 88) rfl dX9_writesOff_86 rfl ?_
        refine Ok.aload_n (pc' := 89) rfl dX9_writesOff_88 rfl ?_
        refine Ok.aload_n (pc' := 90) rfl dX9_writesOff_89 rfl ?_
        refine Ok.getR (pc' := 93) (k := 1) dX9_writesOff_90 rfl (shM_0 _) rfl inX9 (by decide) rfl wd_982 rfl ?_
        refine Ok.iload (pc' := 95) rfl dX9_writesOff_93 rfl ?_
        refine Ok.iald (pc' := 96) (z := h.1 1 k3) dX9_writesOff_95 rfl (shM_1 _) (by decide) e3 q3 rfl ?_
        refine Ok.iload (pc' := 98) rfl dX9_writesOff_96 rfl ?_
        refine Ok.if_eq (tgt := 113) dX9_writesOff_98 rfl rfl (fun z => absurd z (by decide)) (fun _ => ?_)
        refine Ok.aload_n (pc' := 102) rfl dX9_writesOff_101 rfl ?_
        refine Ok.getR (pc' := 105) (k := 2) dX9_writesOff_102 rfl (shM_0 _) rfl inX9 (by decide) rfl wd_983 rfl ?_
        refine Ok.iload (pc' := 107) rfl dX9_writesOff_105 rfl ?_
        refine Ok.iald (pc' := 108) (z := h.1 2 k3) dX9_writesOff_107 rfl (shM_2 _) (by decide) e3 q3 rfl ?_
        refine Ok.iload_n (pc' := 109) rfl dX9_writesOff_108 rfl ?_
        obtain ⟨q6, K⟩ := K
        refine Ok.iadd (pc' := 110) dX9_writesOff_109 rfl q6 ?_
        refine Ok.goto (tgt := 120) dX9_writesOff_110 rfl ?_
        refine Ok.callV (pc' := 123) (av := [pI (h.1 1 k3), pI (h.1 2 k3 + n)]) (rest := [pI (h.1 13 k2), pR 22]) dX9_writesOff_120 rfl (by decide) cvX9_writesOff_123 (shM_0 _) rfl rfl rfl (leb rfl) (leb rfl) K (fun r3 h3 K => ?_)
        show Ok shM 0 0 mX9_writesOff 123 [some (pR 0), some (pI root), some (pI n), some (pI v3), some (pI v4), some (pI (h.1 13 k2)), some (pI 1)] [pI r3, pI (h.1 13 k2), pR 22] h3 Post
        refine Ok.iast (pc' := 124) dX9_writesOff_123 rfl (shM_22 _) (by decide) e3 q3 ?_
        obtain ⟨q7, K⟩ := K
        refine Ok.iinc (pc' := 127) (ls' := [some (pR 0), some (pI root), some (pI n), some (pI v3), some (pI (v4 + 1)), some (pI (h.1 13 k2)), some (pI 1)]) dX9_writesOff_124 rfl rfl (by decide) rfl rfl q7 ?_
        refine Ok.goto (tgt := 38) dX9_writesOff_127 rfl ?_
        exact Ok.fl (ls' := [some (pR 0), some (pI root), some (pI n), some (pI v3), some (pI (v4 + 1)), none, none]) K ⟨rfl, rfl, rfl, rfl, rfl, trivial⟩
theorem sX9_writesOff_133 {root v3 v4 : Int} {h : Hp} {Post : Int → Hp → Prop}
    (K : ((v3 ≤ v4) → ∃ k2 : Nat, root = (k2 : Int) ∧ k2 < 600 ∧ (Post (h.1 22 k2) h)) ∧ ((¬ v3 ≤ v4) → ∃ k2 : Nat, v4 = (k2 : Int) ∧ k2 < 600 ∧ (Ok shM 0 0 mX9_writesOff 151 [some (pR 0), some (pI root), none, some (pI v3), some (pI v4), some (pI (h.1 13 k2)), some (pI 0)] [] h Post))) :
    Ok shM 0 0 mX9_writesOff 133 [some (pR 0), some (pI root), none, some (pI v3), some (pI v4), none, none] [] h Post := by
  show Ok shM 0 0 mX9_writesOff 133 [some (pR 0), some (pI root), none, some (pI v3), some (pI v4), none, none] [] h Post
  refine Ok.iload (pc' := 135) rfl dX9_writesOff_133 rfl ?_
  refine Ok.iload_n (pc' := 136) rfl dX9_writesOff_135 rfl ?_
  refine Ok.icmp_ge (tgt := 204) dX9_writesOff_136 rfl rfl (fun c1 => ?_) (fun c1 => ?_)
  · replace K := K.1 c1
    refine Ok.aload_n (pc' := 205) rfl dX9_writesOff_204 rfl ?_
    refine Ok.getR (pc' := 208) (k := 35) dX9_writesOff_205 rfl (shM_0 _) rfl inX9 (by decide) rfl wd_1016 rfl ?_
    refine Ok.iload_n (pc' := 209) rfl dX9_writesOff_208 rfl ?_
    obtain ⟨k2, e2, q2, K⟩ := K
    refine Ok.iald (pc' := 210) (z := h.1 22 k2) dX9_writesOff_209 rfl (shM_22 _) (by decide) e2 q2 rfl ?_
    exact Ok.iret dX9_writesOff_210 rfl (by decide) K
  · replace K := K.2 c1
    refine Ok.aload_n (pc' := 140) rfl dX9_writesOff_139 rfl ?_
    refine Ok.getR (pc' := 143) (k := 15) dX9_writesOff_140 rfl (shM_0 _) rfl inX9 (by decide) rfl wd_996 rfl ?_
    refine Ok.iload (pc' := 145) rfl dX9_writesOff_143 rfl ?_
    obtain ⟨k2, e2, q2, K⟩ := K
    refine Ok.iald (pc' := 146) (z := h.1 13 k2) dX9_writesOff_145 rfl (shM_13 _) (by decide) e2 q2 rfl ?_
    refine Ok.istore (pc' := 148) (ls' := [some (pR 0), some (pI root), none, some (pI v3), some (pI v4), some (pI (h.1 13 k2)), none]) dX9_writesOff_146 rfl (by decide) rfl rfl ?_
    refine Ok.iconst (pc' := 149) in_0 dX9_writesOff_148 rfl ?_
    refine Ok.istore (pc' := 151) (ls' := [some (pR 0), some (pI root), none, some (pI v3), some (pI v4), some (pI (h.1 13 k2)), some (pI 0)]) dX9_writesOff_149 rfl (by decide) rfl rfl ?_
    exact K
theorem sX9_writesOff_151 {root v3 v4 v5 v6 : Int} {h : Hp} {Post : Int → Hp → Prop}
    (K : Cl shM mX9_partsOf [pR 0, pI v5] h (fun r1 h1 => ((r1 ≤ v6) → inR ((v4 + 1)) ∧ (Ok shM 0 0 mX9_writesOff 133 [some (pR 0), some (pI root), none, some (pI v3), some (pI (v4 + 1)), none, none] [] h1 Post)) ∧ ((¬ r1 ≤ v6) → ∃ k2 : Nat, v5 = (k2 : Int) ∧ k2 < 600 ∧ (inR ((3 * v5)) ∧ (inR (((3 * v5) + v6)) ∧ (∃ k5 : Nat, ((3 * v5) + v6) = (k5 : Int) ∧ k5 < 1800 ∧ (∃ k6 : Nat, h1.1 3 k5 = (k6 : Int) ∧ k6 < 600 ∧ (Cl shM mX9_setPart [pR 0, pI (h1.1 22 k2), pI v6, pI (h1.1 22 k6)] h1 (fun _ h2 => inR ((v6 + 1)) ∧ (Ok shM 0 0 mX9_writesOff 151 [some (pR 0), some (pI root), none, some (pI v3), some (pI v4), some (pI v5), some (pI (v6 + 1))] [] h2 Post)))))))))) :
    Ok shM 0 0 mX9_writesOff 151 [some (pR 0), some (pI root), none, some (pI v3), some (pI v4), some (pI v5), some (pI v6)] [] h Post := by
  show Ok shM 0 0 mX9_writesOff 151 [some (pR 0), some (pI root), none, some (pI v3), some (pI v4), some (pI v5), some (pI v6)] [] h Post
  refine Ok.iload (pc' := 153) rfl dX9_writesOff_151 rfl ?_
  refine Ok.aload_n (pc' := 154) rfl dX9_writesOff_153 rfl ?_
  refine Ok.iload (pc' := 156) rfl dX9_writesOff_154 rfl ?_
  refine Ok.callV (pc' := 159) (av := [pI v5]) (rest := [pI v6]) dX9_writesOff_156 rfl (by decide) cvX9_writesOff_96 (shM_0 _) rfl rfl rfl (leb rfl) (leb rfl) K (fun r1 h1 K => ?_)
  show Ok shM 0 0 mX9_writesOff 159 [some (pR 0), some (pI root), none, some (pI v3), some (pI v4), some (pI v5), some (pI v6)] [pI r1, pI v6] h1 Post
  refine Ok.icmp_ge (tgt := 198) dX9_writesOff_159 rfl rfl (fun c1 => ?_) (fun c1 => ?_)
  · replace K := K.1 c1
    obtain ⟨q2, K⟩ := K
    refine Ok.iinc (pc' := 201) (ls' := [some (pR 0), some (pI root), none, some (pI v3), some (pI (v4 + 1)), some (pI v5), some (pI v6)]) dX9_writesOff_198 rfl rfl (by decide) rfl rfl q2 ?_
    refine Ok.goto (tgt := 133) dX9_writesOff_201 rfl ?_
    exact Ok.fl (ls' := [some (pR 0), some (pI root), none, some (pI v3), some (pI (v4 + 1)), none, none]) K ⟨rfl, rfl, rfl, rfl, trivial⟩
  · replace K := K.2 c1
    refine Ok.aload_n (pc' := 163) rfl dX9_writesOff_162 rfl ?_
    refine Ok.aload_n (pc' := 164) rfl dX9_writesOff_163 rfl ?_
    refine Ok.getR (pc' := 167) (k := 35) dX9_writesOff_164 rfl (shM_0 _) rfl inX9 (by decide) rfl wd_1016 rfl ?_
    refine Ok.iload (pc' := 169) rfl dX9_writesOff_167 rfl ?_
    obtain ⟨k2, e2, q2, K⟩ := K
    refine Ok.iald (pc' := 170) (z := h1.1 22 k2) dX9_writesOff_169 rfl (shM_22 _) (by decide) e2 q2 rfl ?_
    refine Ok.iload (pc' := 172) rfl dX9_writesOff_170 rfl ?_
    refine Ok.aload_n (pc' := 173) rfl dX9_writesOff_172 rfl ?_
    refine Ok.getR (pc' := 176) (k := 35) dX9_writesOff_173 rfl (shM_0 _) rfl inX9 (by decide) rfl wd_1016 rfl ?_
    refine Ok.aload_n (pc' := 177) rfl dX9_writesOff_176 rfl ?_
    refine Ok.getR (pc' := 180) (k := 3) dX9_writesOff_177 rfl (shM_0 _) rfl inX9 (by decide) rfl wd_984 rfl ?_
    refine Ok.iconst (pc' := 181) in_3 dX9_writesOff_180 rfl ?_
    refine Ok.iload (pc' := 183) rfl dX9_writesOff_181 rfl ?_
    obtain ⟨q3, K⟩ := K
    refine Ok.imul (pc' := 184) dX9_writesOff_183 rfl q3 ?_
    refine Ok.iload (pc' := 186) rfl dX9_writesOff_184 rfl ?_
    obtain ⟨q4, K⟩ := K
    refine Ok.iadd (pc' := 187) dX9_writesOff_186 rfl q4 ?_
    obtain ⟨k5, e5, q5, K⟩ := K
    refine Ok.iald (pc' := 188) (z := h1.1 3 k5) dX9_writesOff_187 rfl (shM_3 _) (by decide) e5 q5 rfl ?_
    obtain ⟨k6, e6, q6, K⟩ := K
    refine Ok.iald (pc' := 189) (z := h1.1 22 k6) dX9_writesOff_188 rfl (shM_22 _) (by decide) e6 q6 rfl ?_
    refine Ok.callV (pc' := 192) (av := [pI (h1.1 22 k2), pI v6, pI (h1.1 22 k6)]) (rest := []) dX9_writesOff_189 rfl (by decide) cvX9_writesOff_127 (shM_0 _) rfl rfl rfl (leb rfl) (leb rfl) K (fun r_ h2 K => ?_)
    show Ok shM 0 0 mX9_writesOff 192 [some (pR 0), some (pI root), none, some (pI v3), some (pI v4), some (pI v5), some (pI v6)] [] h2 Post
    obtain ⟨q7, K⟩ := K
    refine Ok.iinc (pc' := 195) (ls' := [some (pR 0), some (pI root), none, some (pI v3), some (pI v4), some (pI v5), some (pI (v6 + 1))]) dX9_writesOff_192 rfl rfl (by decide) rfl rfl q7 ?_
    refine Ok.goto (tgt := 151) dX9_writesOff_195 rfl ?_
    exact K
theorem sX9_melt_0 {call : Int} {h : Hp} {Post : Int → Hp → Prop}
    (K : Cl shM mX9_isCall [pR 0, pI call] h (fun r1 h1 => ((¬ r1 = 0) → ∃ k2 : Nat, call = (k2 : Int) ∧ k2 < 600 ∧ (∃ k3 : Nat, h1.1 2 k2 = (k3 : Int) ∧ k3 < 10 ∧ (((¬ h1.1 7 k3 = (-4)) → Cl shM mX9_homeOf [pR 0, pI call] h1 (fun r2 h2 => Cl shM mX9_uses [pR 0, pI r2] h2 (fun r3 h3 => Cl shM mX9_uses [pR 0, pI (h1.1 2 k2)] h3 (fun r4 h4 => Cl shM mX9_weightOf [pR 0, pI call] h4 (fun r5 h5 => inR ((h4.2.1 0 0 + r5)) ∧ (inR (((h4.2.1 0 0 + r5) + 1)) ∧ (((600 < ((h4.2.1 0 0 + r5) + 1)) → Post (-3) h5) ∧ ((¬ 600 < ((h4.2.1 0 0 + r5) + 1)) → inR ((r3 + r4)) ∧ (((40 < (r3 + r4)) → Post (-3) h5) ∧ ((¬ 40 < (r3 + r4)) → Cl shM mX9_highMelted [pR 0, pI call] h5 (fun r6 h6 => ((r6 ≤ 40) → Cl shM mX9_keep [pR 0] h6 (fun _ h7 => Ok shM 0 0 mX9_melt 107 [some (pR 0), some (pI call), some (pI (h1.1 2 k2)), none, some (pI r3), some (pI r4), some (pI (-4)), some (pI (-4)), some (pI 0), none, none] [] h7 Post)) ∧ ((¬ r6 ≤ 40) → Post (-3) h6)))))))))))) ∧ ((h1.1 7 k3 = (-4)) → Post (-2) h1)))) ∧ ((r1 = 0) → Post (-1) h1))) :
    Cl shM mX9_melt [pR 0, pI call] h Post := by
  show Ok shM 0 0 mX9_melt 0 [some (pR 0), some (pI call), none, none, none, none, none, none, none, none, none] [] h Post
  refine Ok.aload_n (pc' := 1) rfl dX9_melt_0 rfl ?_
  refine Ok.iload_n (pc' := 2) rfl dX9_melt_1 rfl ?_
  refine Ok.callV (pc' := 5) (av := [pI call]) (rest := []) dX9_melt_2 rfl (by decide) cvX9_melt_257 (shM_0 _) rfl rfl rfl (leb rfl) (leb rfl) K (fun r1 h1 K => ?_)
  show Ok shM 0 0 mX9_melt 5 [some (pR 0), some (pI call), none, none, none, none, none, none, none, none, none] [pI r1] h1 Post
  refine Ok.if_ne (tgt := 10) dX9_melt_5 rfl rfl (fun c1 => ?_) (fun c1 => ?_)
  · replace K := K.1 c1
    refine Ok.aload_n (pc' := 11) rfl dX9_melt_10 rfl ?_
    refine Ok.getR (pc' := 14) (k := 2) dX9_melt_11 rfl (shM_0 _) rfl inX9 (by decide) rfl wd_983 rfl ?_
    refine Ok.iload_n (pc' := 15) rfl dX9_melt_14 rfl ?_
    obtain ⟨k2, e2, q2, K⟩ := K
    refine Ok.iald (pc' := 16) (z := h1.1 2 k2) dX9_melt_15 rfl (shM_2 _) (by decide) e2 q2 rfl ?_
    refine Ok.istore_n (pc' := 17) (ls' := [some (pR 0), some (pI call), some (pI (h1.1 2 k2)), none, none, none, none, none, none, none, none]) dX9_melt_16 rfl (by decide) rfl rfl ?_
    refine Ok.aload_n (pc' := 18) rfl dX9_melt_17 rfl ?_
    refine Ok.getR (pc' := 21) (k := 8) dX9_melt_18 rfl (shM_0 _) rfl inX9 (by decide) rfl wd_989 rfl ?_
    refine Ok.iload_n (pc' := 22) rfl dX9_melt_21 rfl ?_
    obtain ⟨k3, e3, q3, K⟩ := K
    refine Ok.iald (pc' := 23) (z := h1.1 7 k3) dX9_melt_22 rfl (shM_7 _) (by decide) e3 q3 rfl ?_
    refine Ok.bipush (pc' := 25) ⟨by decide, by decide⟩ dX9_melt_23 rfl ?_
    refine Ok.icmp_ne (tgt := 31) dX9_melt_25 rfl rfl (fun c4 => ?_) (fun c4 => ?_)
    · replace K := K.1 c4
      refine Ok.aload_n (pc' := 32) rfl dX9_melt_31 rfl ?_
      refine Ok.iload_n (pc' := 33) rfl dX9_melt_32 rfl ?_
      refine Ok.callV (pc' := 36) (av := [pI call]) (rest := []) dX9_melt_33 rfl (by decide) cvX9_melt_159 (shM_0 _) rfl rfl rfl (leb rfl) (leb rfl) K (fun r2 h2 K => ?_)
      show Ok shM 0 0 mX9_melt 36 [some (pR 0), some (pI call), some (pI (h1.1 2 k2)), none, none, none, none, none, none, none, none] [pI r2] h2 Post
      refine Ok.istore_n (pc' := 37) (ls' := [some (pR 0), some (pI call), some (pI (h1.1 2 k2)), some (pI r2), none, none, none, none, none, none, none]) dX9_melt_36 rfl (by decide) rfl rfl ?_
      refine Ok.aload_n (pc' := 38) rfl dX9_melt_37 rfl ?_
      refine Ok.iload_n (pc' := 39) rfl dX9_melt_38 rfl ?_
      refine Ok.callV (pc' := 42) (av := [pI r2]) (rest := []) dX9_melt_39 rfl (by decide) cvX9_melt_153 (shM_0 _) rfl rfl rfl (leb rfl) (leb rfl) K (fun r3 h3 K => ?_)
      show Ok shM 0 0 mX9_melt 42 [some (pR 0), some (pI call), some (pI (h1.1 2 k2)), some (pI r2), none, none, none, none, none, none, none] [pI r3] h3 Post
      refine Ok.istore (pc' := 44) (ls' := [some (pR 0), some (pI call), some (pI (h1.1 2 k2)), some (pI r2), some (pI r3), none, none, none, none, none, none]) dX9_melt_42 rfl (by decide) rfl rfl ?_
      refine Ok.aload_n (pc' := 45) rfl dX9_melt_44 rfl ?_
      refine Ok.iload_n (pc' := 46) rfl dX9_melt_45 rfl ?_
      refine Ok.callV (pc' := 49) (av := [pI (h1.1 2 k2)]) (rest := []) dX9_melt_46 rfl (by decide) cvX9_melt_153 (shM_0 _) rfl rfl rfl (leb rfl) (leb rfl) K (fun r4 h4 K => ?_)
      show Ok shM 0 0 mX9_melt 49 [some (pR 0), some (pI call), some (pI (h1.1 2 k2)), some (pI r2), some (pI r3), none, none, none, none, none, none] [pI r4] h4 Post
      refine Ok.istore (pc' := 51) (ls' := [some (pR 0), some (pI call), some (pI (h1.1 2 k2)), some (pI r2), some (pI r3), some (pI r4), none, none, none, none, none]) dX9_melt_49 rfl (by decide) rfl rfl ?_
      refine Ok.aload_n (pc' := 52) rfl dX9_melt_51 rfl ?_
      refine Ok.getI (pc' := 55) (z := h4.2.1 0 0) (k := 0) dX9_melt_52 rfl (shM_0 _) rfl inX9 (by decide) rfl rfl wd_981 rfl ?_
      refine Ok.aload_n (pc' := 56) rfl dX9_melt_55 rfl ?_
      refine Ok.iload_n (pc' := 57) rfl dX9_melt_56 rfl ?_
      refine Ok.callV (pc' := 60) (av := [pI call]) (rest := [pI (h4.2.1 0 0)]) dX9_melt_57 rfl (by decide) cvX9_melt_260 (shM_0 _) rfl rfl rfl (leb rfl) (leb rfl) K (fun r5 h5 K => ?_)
      show Ok shM 0 0 mX9_melt 60 [some (pR 0), some (pI call), some (pI (h1.1 2 k2)), some (pI r2), some (pI r3), some (pI r4), none, none, none, none, none] [pI r5, pI (h4.2.1 0 0)] h5 Post
      obtain ⟨q5, K⟩ := K
      refine Ok.iadd (pc' := 61) dX9_melt_60 rfl q5 ?_
      refine Ok.iconst (pc' := 62) in_1 dX9_melt_61 rfl ?_
      obtain ⟨q6, K⟩ := K
      refine Ok.iadd (pc' := 63) dX9_melt_62 rfl q6 ?_
      refine Ok.sipush (pc' := 66) ⟨by decide, by decide⟩ dX9_melt_63 rfl ?_
      refine Ok.icmp_gt (tgt := 89) dX9_melt_66 rfl rfl (fun c7 => ?_) (fun c7 => ?_)
      · replace K := K.1 c7
        refine Ok.bipush (pc' := 91) ⟨by decide, by decide⟩ dX9_melt_89 rfl ?_
        exact Ok.iret dX9_melt_91 rfl (by decide) K
      · replace K := K.2 c7
        refine Ok.iload (pc' := 71) rfl dX9_melt_69 rfl ?_
        refine Ok.iload (pc' := 73) rfl dX9_melt_71 rfl ?_
        obtain ⟨q8, K⟩ := K
        refine Ok.iadd (pc' := 74) dX9_melt_73 rfl q8 ?_
        refine Ok.bipush (pc' := 76) ⟨by decide, by decide⟩ dX9_melt_74 rfl ?_
        refine Ok.icmp_gt (tgt := 89) dX9_melt_76 rfl rfl (fun c9 => ?_) (fun c9 => ?_)
        · replace K := K.1 c9
          refine Ok.bipush (pc' := 91) ⟨by decide, by decide⟩ dX9_melt_89 rfl ?_
          exact Ok.iret dX9_melt_91 rfl (by decide) K
        · replace K := K.2 c9
          refine Ok.aload_n (pc' := 80) rfl dX9_melt_79 rfl ?_
          refine Ok.iload_n (pc' := 81) rfl dX9_melt_80 rfl ?_
          refine Ok.callV (pc' := 84) (av := [pI call]) (rest := []) dX9_melt_81 rfl (by decide) cvX9_melt_263 (shM_0 _) rfl rfl rfl (leb rfl) (leb rfl) K (fun r6 h6 K => ?_)
          show Ok shM 0 0 mX9_melt 84 [some (pR 0), some (pI call), some (pI (h1.1 2 k2)), some (pI r2), some (pI r3), some (pI r4), none, none, none, none, none] [pI r6] h6 Post
          refine Ok.bipush (pc' := 86) ⟨by decide, by decide⟩ dX9_melt_84 rfl ?_
          refine Ok.icmp_le (tgt := 92) dX9_melt_86 rfl rfl (fun c10 => ?_) (fun c10 => ?_)
          · replace K := K.1 c10
            refine Ok.aload_n (pc' := 93) rfl dX9_melt_92 rfl ?_
            refine Ok.callV (pc' := 96) (av := []) (rest := []) dX9_melt_93 rfl (by decide) cvX9_melt_150 (shM_0 _) rfl rfl rfl (leb rfl) (leb rfl) K (fun r_ h7 K => ?_)
            show Ok shM 0 0 mX9_melt 96 [some (pR 0), some (pI call), some (pI (h1.1 2 k2)), some (pI r2), some (pI r3), some (pI r4), none, none, none, none, none] [] h7 Post
            refine Ok.bipush (pc' := 98) ⟨by decide, by decide⟩ dX9_melt_96 rfl ?_
            refine Ok.istore (pc' := 100) (ls' := [some (pR 0), some (pI call), some (pI (h1.1 2 k2)), some (pI r2), some (pI r3), some (pI r4), some (pI (-4)), none, none, none, none]) dX9_melt_98 rfl (by decide) rfl rfl ?_
            refine Ok.bipush (pc' := 102) ⟨by decide, by decide⟩ dX9_melt_100 rfl ?_
            refine Ok.istore (pc' := 104) (ls' := [some (pR 0), some (pI call), some (pI (h1.1 2 k2)), some (pI r2), some (pI r3), some (pI r4), some (pI (-4)), some (pI (-4)), none, none, none]) dX9_melt_102 rfl (by decide) rfl rfl ?_
            refine Ok.iconst (pc' := 105) in_0 dX9_melt_104 rfl ?_
            refine Ok.istore (pc' := 107) (ls' := [some (pR 0), some (pI call), some (pI (h1.1 2 k2)), some (pI r2), some (pI r3), some (pI r4), some (pI (-4)), some (pI (-4)), some (pI 0), none, none]) dX9_melt_105 rfl (by decide) rfl rfl ?_
            exact Ok.fl (ls' := [some (pR 0), some (pI call), some (pI (h1.1 2 k2)), none, some (pI r3), some (pI r4), some (pI (-4)), some (pI (-4)), some (pI 0), none, none]) K ⟨rfl, rfl, rfl, rfl, rfl, rfl, rfl, rfl, trivial⟩
          · replace K := K.2 c10
            refine Ok.bipush (pc' := 91) ⟨by decide, by decide⟩ dX9_melt_89 rfl ?_
            exact Ok.iret dX9_melt_91 rfl (by decide) K
    · replace K := K.2 c4
      refine Ok.bipush (pc' := 30) ⟨by decide, by decide⟩ dX9_melt_28 rfl ?_
      exact Ok.iret dX9_melt_30 rfl (by decide) K
  · replace K := K.2 c1
    refine Ok.iconst (pc' := 9) in_m1 dX9_melt_8 rfl ?_
    exact Ok.iret dX9_melt_9 rfl (by decide) K
theorem sX9_melt_107 {call v2 v4 v5 v6 v7 v8 : Int} {h : Hp} {Post : Int → Hp → Prop}
    (K : ((v5 ≤ v8) → Cl shM mX9_make [pR 0, pI 11, pI 0] h (fun r1 h1 => ∃ k2 : Nat, v2 = (k2 : Int) ∧ k2 < 10 ∧ (Cl shM mX9_writesOff [pR 0, pI (h1.1 7 k2), pI v4] h1 (fun r2 h2 => Cl shM mX9_setPart [pR 0, pI r1, pI 0, pI r2] h2 (fun _ h3 => ((¬ v7 = (-4)) → Cl shM mX9_setPart [pR 0, pI v7, pI 1, pI r1] h3 (fun _ h4 => Ok shM 0 0 mX9_melt 272 [some (pR 0), some (pI call), some (pI v2), none, none, none, some (pI v6), none, none, some (pI v6), some (pI 0)] [] h4 Post)) ∧ ((v7 = (-4)) → Ok shM 0 0 mX9_melt 272 [some (pR 0), some (pI call), some (pI v2), none, none, none, some (pI r1), none, none, some (pI r1), some (pI 0)] [] h3 Post)))))) ∧ ((¬ v5 ≤ v8) → Cl shM mX9_make [pR 0, pI 5, pI 0] h (fun r5 h5 => inR ((v4 + v8)) ∧ (Cl shM mX9_make [pR 0, pI 4, pI (v4 + v8)] h5 (fun r6 h6 => Cl shM mX9_setPart [pR 0, pI r5, pI 0, pI r6] h6 (fun _ h7 => ∃ k3 : Nat, v2 = (k3 : Int) ∧ k3 < 10 ∧ (((v8 < h7.1 6 k3) → inR ((3 * r6)) ∧ (∃ k6 : Nat, (3 * r6) = (k6 : Int) ∧ k6 < 1800 ∧ (((¬ v7 = (-4)) → Cl shM mX9_setPart [pR 0, pI v7, pI 1, pI r5] (hA h7 3 k6 v8) (fun _ h8 => inR ((v8 + 1)) ∧ (Ok shM 0 0 mX9_melt 107 [some (pR 0), some (pI call), some (pI v2), none, some (pI v4), some (pI v5), some (pI v6), some (pI r5), some (pI (v8 + 1)), none, none] [] h8 Post))) ∧ ((v7 = (-4)) → inR ((v8 + 1)) ∧ (Ok shM 0 0 mX9_melt 107 [some (pR 0), some (pI call), some (pI v2), none, some (pI v4), some (pI v5), some (pI r5), some (pI r5), some (pI (v8 + 1)), none, none] [] (hA h7 3 k6 v8) Post))))) ∧ ((¬ v8 < h7.1 6 k3) → Cl shM mX9_make [pR 0, pI 0, pI 0] h7 (fun r9 h9 => Cl shM mX9_setPart [pR 0, pI r6, pI 0, pI r9] h9 (fun _ h10 => ((¬ v7 = (-4)) → Cl shM mX9_setPart [pR 0, pI v7, pI 1, pI r5] h10 (fun _ h11 => inR ((v8 + 1)) ∧ (Ok shM 0 0 mX9_melt 107 [some (pR 0), some (pI call), some (pI v2), none, some (pI v4), some (pI v5), some (pI v6), some (pI r5), some (pI (v8 + 1)), none, none] [] h11 Post))) ∧ ((v7 = (-4)) → inR ((v8 + 1)) ∧ (Ok shM 0 0 mX9_melt 107 [some (pR 0), some (pI call), some (pI v2), none, some (pI v4), some (pI v5), some (pI r5), some (pI r5), some (pI (v8 + 1)), none, none] [] h10 Post)))))))))))) :
    Ok shM 0 0 mX9_melt 107 [some (pR 0), some (pI call), some (pI v2), none, some (pI v4), some (pI v5), some (pI v6), some (pI v7), some (pI v8), none, none] [] h Post := by
  show Ok shM 0 0 mX9_melt 107 [some (pR 0), some (pI call), some (pI v2), none, some (pI v4), some (pI v5), some (pI v6), some (pI v7), some (pI v8), none, none] [] h Post
  refine Ok.iload (pc' := 109) rfl dX9_melt_107 rfl ?_
  refine Ok.iload (pc' := 111) rfl dX9_melt_109 rfl ?_
  refine Ok.icmp_ge (tgt := 214) dX9_melt_111 rfl rfl (fun c1 => ?_) (fun c1 => ?_)
  · replace K := K.1 c1
    refine Ok.aload_n (pc' := 215) rfl dX9_melt_214 rfl ?_
    refine Ok.bipush (pc' := 217) ⟨by decide, by decide⟩ dX9_melt_215 rfl ?_
    refine Ok.iconst (pc' := 218) in_0 dX9_melt_217 rfl ?_
    refine Ok.callV (pc' := 221) (av := [pI 11, pI 0]) (rest := []) dX9_melt_218 rfl (by decide) cvX9_melt_123 (shM_0 _) rfl rfl rfl (leb rfl) (leb rfl) K (fun r1 h1 K => ?_)
    show Ok shM 0 0 mX9_melt 221 [some (pR 0), some (pI call), some (pI v2), none, some (pI v4), some (pI v5), some (pI v6), some (pI v7), some (pI v8), none, none] [pI r1] h1 Post
    refine Ok.istore (pc' := 223) (ls' := [some (pR 0), some (pI call), some (pI v2), none, some (pI v4), some (pI v5), some (pI v6), some (pI v7), some (pI r1), none, none]) dX9_melt_221 rfl (by decide) rfl rfl ?_
    refine Ok.aload_n (pc' := 224) rfl dX9_melt_223 rfl ?_
    refine Ok.iload (pc' := 226) rfl dX9_melt_224 rfl ?_
    refine Ok.iconst (pc' := 227) in_0 dX9_melt_226 rfl ?_
    refine Ok.aload_n (pc' := 228) rfl dX9_melt_227 rfl ?_
    refine Ok.aload_n (pc' := 229) rfl dX9_melt_228 rfl ?_
    refine Ok.getR (pc' := 232) (k := 8) dX9_melt_229 rfl (shM_0 _) rfl inX9 (by decide) rfl wd_989 rfl ?_
    refine Ok.iload_n (pc' := 233) rfl dX9_melt_232 rfl ?_
    obtain ⟨k2, e2, q2, K⟩ := K
    refine Ok.iald (pc' := 234) (z := h1.1 7 k2) dX9_melt_233 rfl (shM_7 _) (by decide) e2 q2 rfl ?_
    refine Ok.iload (pc' := 236) rfl dX9_melt_234 rfl ?_
    refine Ok.callV (pc' := 239) (av := [pI (h1.1 7 k2), pI v4]) (rest := [pI 0, pI r1, pR 0]) dX9_melt_236 rfl (by decide) cvX9_melt_266 (shM_0 _) rfl rfl rfl (leb rfl) (leb rfl) K (fun r2 h2 K => ?_)
    show Ok shM 0 0 mX9_melt 239 [some (pR 0), some (pI call), some (pI v2), none, some (pI v4), some (pI v5), some (pI v6), some (pI v7), some (pI r1), none, none] [pI r2, pI 0, pI r1, pR 0] h2 Post
    refine Ok.callV (pc' := 242) (av := [pI r1, pI 0, pI r2]) (rest := []) dX9_melt_239 rfl (by decide) cvX9_melt_127 (shM_0 _) rfl rfl rfl (leb rfl) (leb rfl) K (fun r_ h3 K => ?_)
    show Ok shM 0 0 mX9_melt 242 [some (pR 0), some (pI call), some (pI v2), none, some (pI v4), some (pI v5), some (pI v6), some (pI v7), some (pI r1), none, none] [] h3 Post
    refine Ok.iload (pc' := 244) rfl dX9_melt_242 rfl ?_
    refine Ok.bipush (pc' := 246) ⟨by decide, by decide⟩ dX9_melt_244 rfl ?_
    refine Ok.icmp_ne (tgt := 256) dX9_melt_246 rfl rfl (fun c3 => ?_) (fun c3 => ?_)
    · replace K := K.1 c3
      refine Ok.aload_n (pc' := 257) rfl dX9_melt_256 rfl ?_
      refine Ok.iload (pc' := 259) rfl dX9_melt_257 rfl ?_
      refine Ok.iconst (pc' := 260) in_1 dX9_melt_259 rfl ?_
      refine Ok.iload (pc' := 262) rfl dX9_melt_260 rfl ?_
      refine Ok.callV (pc' := 265) (av := [pI v7, pI 1, pI r1]) (rest := []) dX9_melt_262 rfl (by decide) cvX9_melt_127 (shM_0 _) rfl rfl rfl (leb rfl) (leb rfl) K (fun r_ h4 K => ?_)
      show Ok shM 0 0 mX9_melt 265 [some (pR 0), some (pI call), some (pI v2), none, some (pI v4), some (pI v5), some (pI v6), some (pI v7), some (pI r1), none, none] [] h4 Post
      refine Ok.iload (pc' := 267) rfl dX9_melt_265 rfl ?_
      refine Ok.istore (pc' := 269) (ls' := [some (pR 0), some (pI call), some (pI v2), none, some (pI v4), some (pI v5), some (pI v6), some (pI v7), some (pI r1), some (pI v6), none]) dX9_melt_267 rfl (by decide) rfl rfl ?_
      refine Ok.iconst (pc' := 270) in_0 dX9_melt_269 rfl ?_
      refine Ok.istore (pc' := 272) (ls' := [some (pR 0), some (pI call), some (pI v2), none, some (pI v4), some (pI v5), some (pI v6), some (pI v7), some (pI r1), some (pI v6), some (pI 0)]) dX9_melt_270 rfl (by decide) rfl rfl ?_
      exact Ok.fl (ls' := [some (pR 0), some (pI call), some (pI v2), none, none, none, some (pI v6), none, none, some (pI v6), some (pI 0)]) K ⟨rfl, rfl, rfl, rfl, rfl, rfl, trivial⟩
    · replace K := K.2 c3
      refine Ok.iload (pc' := 251) rfl dX9_melt_249 rfl ?_
      refine Ok.istore (pc' := 253) (ls' := [some (pR 0), some (pI call), some (pI v2), none, some (pI v4), some (pI v5), some (pI r1), some (pI v7), some (pI r1), none, none]) dX9_melt_251 rfl (by decide) rfl rfl ?_
      refine Ok.goto (tgt := 265) dX9_melt_253 rfl ?_
      refine Ok.iload (pc' := 267) rfl dX9_melt_265 rfl ?_
      refine Ok.istore (pc' := 269) (ls' := [some (pR 0), some (pI call), some (pI v2), none, some (pI v4), some (pI v5), some (pI r1), some (pI v7), some (pI r1), some (pI r1), none]) dX9_melt_267 rfl (by decide) rfl rfl ?_
      refine Ok.iconst (pc' := 270) in_0 dX9_melt_269 rfl ?_
      refine Ok.istore (pc' := 272) (ls' := [some (pR 0), some (pI call), some (pI v2), none, some (pI v4), some (pI v5), some (pI r1), some (pI v7), some (pI r1), some (pI r1), some (pI 0)]) dX9_melt_270 rfl (by decide) rfl rfl ?_
      exact Ok.fl (ls' := [some (pR 0), some (pI call), some (pI v2), none, none, none, some (pI r1), none, none, some (pI r1), some (pI 0)]) K ⟨rfl, rfl, rfl, rfl, rfl, rfl, trivial⟩
  · replace K := K.2 c1
    refine Ok.aload_n (pc' := 115) rfl dX9_melt_114 rfl ?_
    refine Ok.iconst (pc' := 116) in_5 dX9_melt_115 rfl ?_
    refine Ok.iconst (pc' := 117) in_0 dX9_melt_116 rfl ?_
    refine Ok.callV (pc' := 120) (av := [pI 5, pI 0]) (rest := []) dX9_melt_117 rfl (by decide) cvX9_melt_123 (shM_0 _) rfl rfl rfl (leb rfl) (leb rfl) K (fun r5 h5 K => ?_)
    show Ok shM 0 0 mX9_melt 120 [some (pR 0), some (pI call), some (pI v2), none, some (pI v4), some (pI v5), some (pI v6), some (pI v7), some (pI v8), none, none] [pI r5] h5 Post
    refine Ok.istore (pc' := 122) (ls' := [some (pR 0), some (pI call), some (pI v2), none, some (pI v4), some (pI v5), some (pI v6), some (pI v7), some (pI v8), some (pI r5), none]) dX9_melt_120 rfl (by decide) rfl rfl ?_
    refine Ok.aload_n (pc' := 123) rfl dX9_melt_122 rfl ?_
    refine Ok.iconst (pc' := 124) in_4 dX9_melt_123 rfl ?_
    refine Ok.iload (pc' := 126) rfl dX9_melt_124 rfl ?_
    refine Ok.iload (pc' := 128) rfl dX9_melt_126 rfl ?_
    obtain ⟨q2, K⟩ := K
    refine Ok.iadd (pc' := 129) dX9_melt_128 rfl q2 ?_
    refine Ok.callV (pc' := 132) (av := [pI 4, pI (v4 + v8)]) (rest := []) dX9_melt_129 rfl (by decide) cvX9_melt_123 (shM_0 _) rfl rfl rfl (leb rfl) (leb rfl) K (fun r6 h6 K => ?_)
    show Ok shM 0 0 mX9_melt 132 [some (pR 0), some (pI call), some (pI v2), none, some (pI v4), some (pI v5), some (pI v6), some (pI v7), some (pI v8), some (pI r5), none] [pI r6] h6 Post
    refine Ok.istore (pc' := 134) (ls' := [some (pR 0), some (pI call), some (pI v2), none, some (pI v4), some (pI v5), some (pI v6), some (pI v7), some (pI v8), some (pI r5), some (pI r6)]) dX9_melt_132 rfl (by decide) rfl rfl ?_
    refine Ok.aload_n (pc' := 135) rfl dX9_melt_134 rfl ?_
    refine Ok.iload (pc' := 137) rfl dX9_melt_135 rfl ?_
    refine Ok.iconst (pc' := 138) in_0 dX9_melt_137 rfl ?_
    refine Ok.iload (pc' := 140) rfl dX9_melt_138 rfl ?_
    refine Ok.callV (pc' := 143) (av := [pI r5, pI 0, pI r6]) (rest := []) dX9_melt_140 rfl (by decide) cvX9_melt_127 (shM_0 _) rfl rfl rfl (leb rfl) (leb rfl) K (fun r_ h7 K => ?_)
    show Ok shM 0 0 mX9_melt 143 [some (pR 0), some (pI call), some (pI v2), none, some (pI v4), some (pI v5), some (pI v6), some (pI v7), some (pI v8), some (pI r5), some (pI r6)] [] h7 Post
    refine Ok.iload (pc' := 145) rfl dX9_melt_143 rfl ?_
    refine Ok.aload_n (pc' := 146) rfl dX9_melt_145 rfl ?_
    refine Ok.getR (pc' := 149) (k := 7) dX9_melt_146 rfl (shM_0 _) rfl inX9 (by decide) rfl wd_988 rfl ?_
    refine Ok.iload_n (pc' := 150) rfl dX9_melt_149 rfl ?_
    obtain ⟨k3, e3, q3, K⟩ := K
    refine Ok.iald (pc' := 151) (z := h7.1 6 k3) dX9_melt_150 rfl (shM_6 _) (by decide) e3 q3 rfl ?_
    refine Ok.icmp_lt (tgt := 170) dX9_melt_151 rfl rfl (fun c4 => ?_) (fun c4 => ?_)
    · replace K := K.1 c4
      refine Ok.aload_n (pc' := 171) rfl dX9_melt_170 rfl ?_
      refine Ok.getR (pc' := 174) (k := 3) dX9_melt_171 rfl (shM_0 _) rfl inX9 (by decide) rfl wd_984 rfl ?_
      refine Ok.iconst (pc' := 175) in_3 dX9_melt_174 rfl ?_
      refine Ok.iload (pc' := 177) rfl dX9_melt_175 rfl ?_
      obtain ⟨q5, K⟩ := K
      refine Ok.imul (pc' := 178) dX9_melt_177 rfl q5 ?_
      refine Ok.iload (pc' := 180) rfl dX9_melt_178 rfl ?_
      obtain ⟨k6, e6, q6, K⟩ := K
      refine Ok.iast (pc' := 181) dX9_melt_180 rfl (shM_3 _) (by decide) e6 q6 ?_
      refine Ok.iload (pc' := 183) rfl dX9_melt_181 rfl ?_
      refine Ok.bipush (pc' := 185) ⟨by decide, by decide⟩ dX9_melt_183 rfl ?_
      refine Ok.icmp_ne (tgt := 195) dX9_melt_185 rfl rfl (fun c7 => ?_) (fun c7 => ?_)
      · replace K := K.1 c7
        refine Ok.aload_n (pc' := 196) rfl dX9_melt_195 rfl ?_
        refine Ok.iload (pc' := 198) rfl dX9_melt_196 rfl ?_
        refine Ok.iconst (pc' := 199) in_1 dX9_melt_198 rfl ?_
        refine Ok.iload (pc' := 201) rfl dX9_melt_199 rfl ?_
        refine Ok.callV (pc' := 204) (av := [pI v7, pI 1, pI r5]) (rest := []) dX9_melt_201 rfl (by decide) cvX9_melt_127 (shM_0 _) rfl rfl rfl (leb rfl) (leb rfl) K (fun r_ h8 K => ?_)
        show Ok shM 0 0 mX9_melt 204 [some (pR 0), some (pI call), some (pI v2), none, some (pI v4), some (pI v5), some (pI v6), some (pI v7), some (pI v8), some (pI r5), some (pI r6)] [] h8 Post
        refine Ok.iload (pc' := 206) rfl dX9_melt_204 rfl ?_
        refine Ok.istore (pc' := 208) (ls' := [some (pR 0), some (pI call), some (pI v2), none, some (pI v4), some (pI v5), some (pI v6), some (pI r5), some (pI v8), some (pI r5), some (pI r6)]) dX9_melt_206 rfl (by decide) rfl rfl ?_
        obtain ⟨q8, K⟩ := K
        refine Ok.iinc (pc' := 211) (ls' := [some (pR 0), some (pI call), some (pI v2), none, some (pI v4), some (pI v5), some (pI v6), some (pI r5), some (pI (v8 + 1)), some (pI r5), some (pI r6)]) dX9_melt_208 rfl rfl (by decide) rfl rfl q8 ?_
        refine Ok.goto (tgt := 107) dX9_melt_211 rfl ?_
        exact Ok.fl (ls' := [some (pR 0), some (pI call), some (pI v2), none, some (pI v4), some (pI v5), some (pI v6), some (pI r5), some (pI (v8 + 1)), none, none]) K ⟨rfl, rfl, rfl, rfl, rfl, rfl, rfl, rfl, trivial⟩
      · replace K := K.2 c7
        refine Ok.iload (pc' := 190) rfl dX9_melt_188 rfl ?_
        refine Ok.istore (pc' := 192) (ls' := [some (pR 0), some (pI call), some (pI v2), none, some (pI v4), some (pI v5), some (pI r5), some (pI v7), some (pI v8), some (pI r5), some (pI r6)]) dX9_melt_190 rfl (by decide) rfl rfl ?_
        refine Ok.goto (tgt := 204) dX9_melt_192 rfl ?_
        refine Ok.iload (pc' := 206) rfl dX9_melt_204 rfl ?_
        refine Ok.istore (pc' := 208) (ls' := [some (pR 0), some (pI call), some (pI v2), none, some (pI v4), some (pI v5), some (pI r5), some (pI r5), some (pI v8), some (pI r5), some (pI r6)]) dX9_melt_206 rfl (by decide) rfl rfl ?_
        obtain ⟨q8, K⟩ := K
        refine Ok.iinc (pc' := 211) (ls' := [some (pR 0), some (pI call), some (pI v2), none, some (pI v4), some (pI v5), some (pI r5), some (pI r5), some (pI (v8 + 1)), some (pI r5), some (pI r6)]) dX9_melt_208 rfl rfl (by decide) rfl rfl q8 ?_
        refine Ok.goto (tgt := 107) dX9_melt_211 rfl ?_
        exact Ok.fl (ls' := [some (pR 0), some (pI call), some (pI v2), none, some (pI v4), some (pI v5), some (pI r5), some (pI r5), some (pI (v8 + 1)), none, none]) K ⟨rfl, rfl, rfl, rfl, rfl, rfl, rfl, rfl, trivial⟩
    · replace K := K.2 c4
      refine Ok.aload_n (pc' := 155) rfl dX9_melt_154 rfl ?_
      refine Ok.iload (pc' := 157) rfl dX9_melt_155 rfl ?_
      refine Ok.iconst (pc' := 158) in_0 dX9_melt_157 rfl ?_
      refine Ok.aload_n (pc' := 159) rfl dX9_melt_158 rfl ?_
      refine Ok.iconst (pc' := 160) in_0 dX9_melt_159 rfl ?_
      refine Ok.iconst (pc' := 161) in_0 dX9_melt_160 rfl ?_
      refine Ok.callV (pc' := 164) (av := [pI 0, pI 0]) (rest := [pI 0, pI r6, pR 0]) dX9_melt_161 rfl (by decide) cvX9_melt_123 (shM_0 _) rfl rfl rfl (leb rfl) (leb rfl) K (fun r9 h9 K => ?_)
      show Ok shM 0 0 mX9_melt 164 [some (pR 0), some (pI call), some (pI v2), none, some (pI v4), some (pI v5), some (pI v6), some (pI v7), some (pI v8), some (pI r5), some (pI r6)] [pI r9, pI 0, pI r6, pR 0] h9 Post
      refine Ok.callV (pc' := 167) (av := [pI r6, pI 0, pI r9]) (rest := []) dX9_melt_164 rfl (by decide) cvX9_melt_127 (shM_0 _) rfl rfl rfl (leb rfl) (leb rfl) K (fun r_ h10 K => ?_)
      show Ok shM 0 0 mX9_melt 167 [some (pR 0), some (pI call), some (pI v2), none, some (pI v4), some (pI v5), some (pI v6), some (pI v7), some (pI v8), some (pI r5), some (pI r6)] [] h10 Post
      refine Ok.goto (tgt := 181) dX9_melt_167 rfl ?_
      refine Ok.iload (pc' := 183) rfl dX9_melt_181 rfl ?_
      refine Ok.bipush (pc' := 185) ⟨by decide, by decide⟩ dX9_melt_183 rfl ?_
      refine Ok.icmp_ne (tgt := 195) dX9_melt_185 rfl rfl (fun c5 => ?_) (fun c5 => ?_)
      · replace K := K.1 c5
        refine Ok.aload_n (pc' := 196) rfl dX9_melt_195 rfl ?_
        refine Ok.iload (pc' := 198) rfl dX9_melt_196 rfl ?_
        refine Ok.iconst (pc' := 199) in_1 dX9_melt_198 rfl ?_
        refine Ok.iload (pc' := 201) rfl dX9_melt_199 rfl ?_
        refine Ok.callV (pc' := 204) (av := [pI v7, pI 1, pI r5]) (rest := []) dX9_melt_201 rfl (by decide) cvX9_melt_127 (shM_0 _) rfl rfl rfl (leb rfl) (leb rfl) K (fun r_ h11 K => ?_)
        show Ok shM 0 0 mX9_melt 204 [some (pR 0), some (pI call), some (pI v2), none, some (pI v4), some (pI v5), some (pI v6), some (pI v7), some (pI v8), some (pI r5), some (pI r6)] [] h11 Post
        refine Ok.iload (pc' := 206) rfl dX9_melt_204 rfl ?_
        refine Ok.istore (pc' := 208) (ls' := [some (pR 0), some (pI call), some (pI v2), none, some (pI v4), some (pI v5), some (pI v6), some (pI r5), some (pI v8), some (pI r5), some (pI r6)]) dX9_melt_206 rfl (by decide) rfl rfl ?_
        obtain ⟨q6, K⟩ := K
        refine Ok.iinc (pc' := 211) (ls' := [some (pR 0), some (pI call), some (pI v2), none, some (pI v4), some (pI v5), some (pI v6), some (pI r5), some (pI (v8 + 1)), some (pI r5), some (pI r6)]) dX9_melt_208 rfl rfl (by decide) rfl rfl q6 ?_
        refine Ok.goto (tgt := 107) dX9_melt_211 rfl ?_
        exact Ok.fl (ls' := [some (pR 0), some (pI call), some (pI v2), none, some (pI v4), some (pI v5), some (pI v6), some (pI r5), some (pI (v8 + 1)), none, none]) K ⟨rfl, rfl, rfl, rfl, rfl, rfl, rfl, rfl, trivial⟩
      · replace K := K.2 c5
        refine Ok.iload (pc' := 190) rfl dX9_melt_188 rfl ?_
        refine Ok.istore (pc' := 192) (ls' := [some (pR 0), some (pI call), some (pI v2), none, some (pI v4), some (pI v5), some (pI r5), some (pI v7), some (pI v8), some (pI r5), some (pI r6)]) dX9_melt_190 rfl (by decide) rfl rfl ?_
        refine Ok.goto (tgt := 204) dX9_melt_192 rfl ?_
        refine Ok.iload (pc' := 206) rfl dX9_melt_204 rfl ?_
        refine Ok.istore (pc' := 208) (ls' := [some (pR 0), some (pI call), some (pI v2), none, some (pI v4), some (pI v5), some (pI r5), some (pI r5), some (pI v8), some (pI r5), some (pI r6)]) dX9_melt_206 rfl (by decide) rfl rfl ?_
        obtain ⟨q6, K⟩ := K
        refine Ok.iinc (pc' := 211) (ls' := [some (pR 0), some (pI call), some (pI v2), none, some (pI v4), some (pI v5), some (pI r5), some (pI r5), some (pI (v8 + 1)), some (pI r5), some (pI r6)]) dX9_melt_208 rfl rfl (by decide) rfl rfl q6 ?_
        refine Ok.goto (tgt := 107) dX9_melt_211 rfl ?_
        exact Ok.fl (ls' := [some (pR 0), some (pI call), some (pI v2), none, some (pI v4), some (pI v5), some (pI r5), some (pI r5), some (pI (v8 + 1)), none, none]) K ⟨rfl, rfl, rfl, rfl, rfl, rfl, rfl, rfl, trivial⟩
theorem sX9_melt_272 {call v2 v6 v9 v10 : Int} {h : Hp} {Post : Int → Hp → Prop}
    (K : ∃ k1 : Nat, v2 = (k1 : Int) ∧ k1 < 10 ∧ (((h.1 6 k1 ≤ v10) → Cl shM mX9_puts [pR 0, pI call, pI v6] h (fun _ h1 => Cl shM mX9_goneAlone [pR 0, pI call] h1 (fun _ h2 => Post v6 h2))) ∧ ((¬ h.1 6 k1 ≤ v10) → inR ((3 * v9)) ∧ (∃ k4 : Nat, (3 * v9) = (k4 : Int) ∧ k4 < 1800 ∧ (inR ((3 * call)) ∧ (inR (((3 * call) + v10)) ∧ (∃ k7 : Nat, ((3 * call) + v10) = (k7 : Int) ∧ k7 < 1800 ∧ (Cl shM mX9_setPart [pR 0, pI (h.1 3 k4), pI 0, pI (h.1 3 k7)] h (fun _ h3 => inR (((3 * v9) + 1)) ∧ (∃ k9 : Nat, ((3 * v9) + 1) = (k9 : Int) ∧ k9 < 1800 ∧ (inR ((v10 + 1)) ∧ (Ok shM 0 0 mX9_melt 272 [some (pR 0), some (pI call), some (pI v2), none, none, none, some (pI v6), none, none, some (pI (h3.1 3 k9)), some (pI (v10 + 1))] [] h3 Post)))))))))))) :
    Ok shM 0 0 mX9_melt 272 [some (pR 0), some (pI call), some (pI v2), none, none, none, some (pI v6), none, none, some (pI v9), some (pI v10)] [] h Post := by
  show Ok shM 0 0 mX9_melt 272 [some (pR 0), some (pI call), some (pI v2), none, none, none, some (pI v6), none, none, some (pI v9), some (pI v10)] [] h Post
  refine Ok.iload (pc' := 274) rfl dX9_melt_272 rfl ?_
  refine Ok.aload_n (pc' := 275) rfl dX9_melt_274 rfl ?_
  refine Ok.getR (pc' := 278) (k := 7) dX9_melt_275 rfl (shM_0 _) rfl inX9 (by decide) rfl wd_988 rfl ?_
  refine Ok.iload_n (pc' := 279) rfl dX9_melt_278 rfl ?_
  obtain ⟨k1, e1, q1, K⟩ := K
  refine Ok.iald (pc' := 280) (z := h.1 6 k1) dX9_melt_279 rfl (shM_6 _) (by decide) e1 q1 rfl ?_
  refine Ok.icmp_ge (tgt := 327) dX9_melt_280 rfl rfl (fun c2 => ?_) (fun c2 => ?_)
  · replace K := K.1 c2
    refine Ok.aload_n (pc' := 328) rfl dX9_melt_327 rfl ?_
    refine Ok.iload_n (pc' := 329) rfl dX9_melt_328 rfl ?_
    refine Ok.iload (pc' := 331) rfl dX9_melt_329 rfl ?_
    refine Ok.callV (pc' := 334) (av := [pI call, pI v6]) (rest := []) dX9_melt_331 rfl (by decide) cvX9_melt_269 (shM_0 _) rfl rfl rfl (leb rfl) (leb rfl) K (fun r_ h1 K => ?_)
    show Ok shM 0 0 mX9_melt 334 [some (pR 0), some (pI call), some (pI v2), none, none, none, some (pI v6), none, none, some (pI v9), some (pI v10)] [] h1 Post
    refine Ok.aload_n (pc' := 335) rfl dX9_melt_334 rfl ?_
    refine Ok.iload_n (pc' := 336) rfl dX9_melt_335 rfl ?_
    refine Ok.callV (pc' := 339) (av := [pI call]) (rest := []) dX9_melt_336 rfl (by decide) cvX9_melt_272 (shM_0 _) rfl rfl rfl (leb rfl) (leb rfl) K (fun r_ h2 K => ?_)
    show Ok shM 0 0 mX9_melt 339 [some (pR 0), some (pI call), some (pI v2), none, none, none, some (pI v6), none, none, some (pI v9), some (pI v10)] [] h2 Post
    refine Ok.iload (pc' := 341) rfl dX9_melt_339 rfl ?_
    exact Ok.iret dX9_melt_341 rfl (by decide) K
  · replace K := K.2 c2
    refine Ok.aload_n (pc' := 284) rfl dX9_melt_283 rfl ?_
    refine Ok.aload_n (pc' := 285) rfl dX9_melt_284 rfl ?_
    refine Ok.getR (pc' := 288) (k := 3) dX9_melt_285 rfl (shM_0 _) rfl inX9 (by decide) rfl wd_984 rfl ?_
    refine Ok.iconst (pc' := 289) in_3 dX9_melt_288 rfl ?_
    refine Ok.iload (pc' := 291) rfl dX9_melt_289 rfl ?_
    obtain ⟨q3, K⟩ := K
    refine Ok.imul (pc' := 292) dX9_melt_291 rfl q3 ?_
    obtain ⟨k4, e4, q4, K⟩ := K
    refine Ok.iald (pc' := 293) (z := h.1 3 k4) dX9_melt_292 rfl (shM_3 _) (by decide) e4 q4 rfl ?_
    refine Ok.iconst (pc' := 294) in_0 dX9_melt_293 rfl ?_
    refine Ok.aload_n (pc' := 295) rfl dX9_melt_294 rfl ?_
    refine Ok.getR (pc' := 298) (k := 3) dX9_melt_295 rfl (shM_0 _) rfl inX9 (by decide) rfl wd_984 rfl ?_
    refine Ok.iconst (pc' := 299) in_3 dX9_melt_298 rfl ?_
    refine Ok.iload_n (pc' := 300) rfl dX9_melt_299 rfl ?_
    obtain ⟨q5, K⟩ := K
    refine Ok.imul (pc' := 301) dX9_melt_300 rfl q5 ?_
    refine Ok.iload (pc' := 303) rfl dX9_melt_301 rfl ?_
    obtain ⟨q6, K⟩ := K
    refine Ok.iadd (pc' := 304) dX9_melt_303 rfl q6 ?_
    obtain ⟨k7, e7, q7, K⟩ := K
    refine Ok.iald (pc' := 305) (z := h.1 3 k7) dX9_melt_304 rfl (shM_3 _) (by decide) e7 q7 rfl ?_
    refine Ok.callV (pc' := 308) (av := [pI (h.1 3 k4), pI 0, pI (h.1 3 k7)]) (rest := []) dX9_melt_305 rfl (by decide) cvX9_melt_127 (shM_0 _) rfl rfl rfl (leb rfl) (leb rfl) K (fun r_ h3 K => ?_)
    show Ok shM 0 0 mX9_melt 308 [some (pR 0), some (pI call), some (pI v2), none, none, none, some (pI v6), none, none, some (pI v9), some (pI v10)] [] h3 Post
    refine Ok.aload_n (pc' := 309) rfl dX9_melt_308 rfl ?_
    refine Ok.getR (pc' := 312) (k := 3) dX9_melt_309 rfl (shM_0 _) rfl inX9 (by decide) rfl wd_984 rfl ?_
    refine Ok.iconst (pc' := 313) in_3 dX9_melt_312 rfl ?_
    refine Ok.iload (pc' := 315) rfl dX9_melt_313 rfl ?_
    refine Ok.imul (pc' := 316) dX9_melt_315 rfl q3 ?_
    refine Ok.iconst (pc' := 317) in_1 dX9_melt_316 rfl ?_
    obtain ⟨q8, K⟩ := K
    refine Ok.iadd (pc' := 318) dX9_melt_317 rfl q8 ?_
    obtain ⟨k9, e9, q9, K⟩ := K
    refine Ok.iald (pc' := 319) (z := h3.1 3 k9) dX9_melt_318 rfl (shM_3 _) (by decide) e9 q9 rfl ?_
    refine Ok.istore (pc' := 321) (ls' := [some (pR 0), some (pI call), some (pI v2), none, none, none, some (pI v6), none, none, some (pI (h3.1 3 k9)), some (pI v10)]) dX9_melt_319 rfl (by decide) rfl rfl ?_
    obtain ⟨q10, K⟩ := K
    refine Ok.iinc (pc' := 324) (ls' := [some (pR 0), some (pI call), some (pI v2), none, none, none, some (pI v6), none, none, some (pI (h3.1 3 k9)), some (pI (v10 + 1))]) dX9_melt_321 rfl rfl (by decide) rfl rfl q10 ?_
    refine Ok.goto (tgt := 272) dX9_melt_324 rfl ?_
    exact K
theorem sX9_gain_0 {call : Int} {h : Hp} {Post : Int → Hp → Prop}
    (K : Cl shM mX9_isCall [pR 0, pI call] h (fun r1 h1 => ((r1 = 0) → Post (-1) h1) ∧ ((¬ r1 = 0) → ∃ k2 : Nat, call = (k2 : Int) ∧ k2 < 600 ∧ (Post (wr (4 * h1.1 5 k2)) h1)))) :
    Cl shM mX9_gain [pR 0, pI call] h Post := by
  show Ok shM 0 0 mX9_gain 0 [some (pR 0), some (pI call)] [] h Post
  refine Ok.aload_n (pc' := 1) rfl dX9_gain_0 rfl ?_
  refine Ok.iload_n (pc' := 2) rfl dX9_gain_1 rfl ?_
  refine Ok.callV (pc' := 5) (av := [pI call]) (rest := []) dX9_gain_2 rfl (by decide) cvX9_gain_257 (shM_0 _) rfl rfl rfl (leb rfl) (leb rfl) K (fun r1 h1 K => ?_)
  show Ok shM 0 0 mX9_gain 5 [some (pR 0), some (pI call)] [pI r1] h1 Post
  refine Ok.if_eq (tgt := 19) dX9_gain_5 rfl rfl (fun c1 => ?_) (fun c1 => ?_)
  · replace K := K.1 c1
    refine Ok.iconst (pc' := 20) in_m1 dX9_gain_19 rfl ?_
    exact Ok.iret dX9_gain_20 rfl (by decide) K
  · replace K := K.2 c1
    refine Ok.iconst (pc' := 9) in_4 dX9_gain_8 rfl ?_
    refine Ok.aload_n (pc' := 10) rfl dX9_gain_9 rfl ?_
    refine Ok.getR (pc' := 13) (k := 5) dX9_gain_10 rfl (shM_0 _) rfl inX9 (by decide) rfl wd_986 rfl ?_
    refine Ok.iload_n (pc' := 14) rfl dX9_gain_13 rfl ?_
    obtain ⟨k2, e2, q2, K⟩ := K
    refine Ok.iald (pc' := 15) (z := h1.1 5 k2) dX9_gain_14 rfl (shM_5 _) (by decide) e2 q2 rfl ?_
    refine Ok.imulw (pc' := 16) dX9_gain_15 rfl ?_
    refine Ok.goto (tgt := 20) dX9_gain_16 rfl ?_
    exact Ok.iret dX9_gain_20 rfl (by decide) K
theorem sX9_weight_0 {call : Int} {h : Hp} {Post : Int → Hp → Prop}
    (K : Cl shM mX9_isCall [pR 0, pI call] h (fun r1 h1 => ((¬ r1 = 0) → ∃ k2 : Nat, call = (k2 : Int) ∧ k2 < 600 ∧ (∃ k3 : Nat, h1.1 2 k2 = (k3 : Int) ∧ k3 < 10 ∧ (((¬ h1.1 7 k3 = (-4)) → Cl shM mX9_weightOf [pR 0, pI call] h1 (fun r2 h2 => Post r2 h2)) ∧ ((h1.1 7 k3 = (-4)) → Post (-2) h1)))) ∧ ((r1 = 0) → Post (-1) h1))) :
    Cl shM mX9_weight [pR 0, pI call] h Post := by
  show Ok shM 0 0 mX9_weight 0 [some (pR 0), some (pI call)] [] h Post
  refine Ok.aload_n (pc' := 1) rfl dX9_weight_0 rfl ?_
  refine Ok.iload_n (pc' := 2) rfl dX9_weight_1 rfl ?_
  refine Ok.callV (pc' := 5) (av := [pI call]) (rest := []) dX9_weight_2 rfl (by decide) cvX9_weight_257 (shM_0 _) rfl rfl rfl (leb rfl) (leb rfl) K (fun r1 h1 K => ?_)
  show Ok shM 0 0 mX9_weight 5 [some (pR 0), some (pI call)] [pI r1] h1 Post
  refine Ok.if_ne (tgt := 10) dX9_weight_5 rfl rfl (fun c1 => ?_) (fun c1 => ?_)
  · replace K := K.1 c1
    refine Ok.aload_n (pc' := 11) rfl dX9_weight_10 rfl ?_
    refine Ok.getR (pc' := 14) (k := 8) dX9_weight_11 rfl (shM_0 _) rfl inX9 (by decide) rfl wd_989 rfl ?_
    refine Ok.aload_n (pc' := 15) rfl dX9_weight_14 rfl ?_
    refine Ok.getR (pc' := 18) (k := 2) dX9_weight_15 rfl (shM_0 _) rfl inX9 (by decide) rfl wd_983 rfl ?_
    refine Ok.iload_n (pc' := 19) rfl dX9_weight_18 rfl ?_
    obtain ⟨k2, e2, q2, K⟩ := K
    refine Ok.iald (pc' := 20) (z := h1.1 2 k2) dX9_weight_19 rfl (shM_2 _) (by decide) e2 q2 rfl ?_
    obtain ⟨k3, e3, q3, K⟩ := K
    refine Ok.iald (pc' := 21) (z := h1.1 7 k3) dX9_weight_20 rfl (shM_7 _) (by decide) e3 q3 rfl ?_
    refine Ok.bipush (pc' := 23) ⟨by decide, by decide⟩ dX9_weight_21 rfl ?_
    refine Ok.icmp_ne (tgt := 31) dX9_weight_23 rfl rfl (fun c4 => ?_) (fun c4 => ?_)
    · replace K := K.1 c4
      refine Ok.aload_n (pc' := 32) rfl dX9_weight_31 rfl ?_
      refine Ok.iload_n (pc' := 33) rfl dX9_weight_32 rfl ?_
      refine Ok.callV (pc' := 36) (av := [pI call]) (rest := []) dX9_weight_33 rfl (by decide) cvX9_weight_260 (shM_0 _) rfl rfl rfl (leb rfl) (leb rfl) K (fun r2 h2 K => ?_)
      show Ok shM 0 0 mX9_weight 36 [some (pR 0), some (pI call)] [pI r2] h2 Post
      exact Ok.iret dX9_weight_36 rfl (by decide) K
    · replace K := K.2 c4
      refine Ok.bipush (pc' := 28) ⟨by decide, by decide⟩ dX9_weight_26 rfl ?_
      refine Ok.goto (tgt := 36) dX9_weight_28 rfl ?_
      exact Ok.iret dX9_weight_36 rfl (by decide) K
  · replace K := K.2 c1
    refine Ok.iconst (pc' := 9) in_m1 dX9_weight_8 rfl ?_
    exact Ok.iret dX9_weight_9 rfl (by decide) K
theorem sX9_isNumber_0 {s0 : Int} {h : Hp} {Post : Int → Hp → Prop}
    (K : ∃ k1 : Nat, s0 = (k1 : Int) ∧ k1 < 600 ∧ (((¬ h.1 1 k1 = 0) → Post 0 h) ∧ ((h.1 1 k1 = 0) → Post 1 h))) :
    Cl shM mX9_isNumber [pR 0, pI s0] h Post := by
  show Ok shM 0 0 mX9_isNumber 0 [some (pR 0), some (pI s0)] [] h Post
  refine Ok.aload_n (pc' := 1) rfl dX9_isNumber_0 rfl ?_
  refine Ok.getR (pc' := 4) (k := 1) dX9_isNumber_1 rfl (shM_0 _) rfl inX9 (by decide) rfl wd_982 rfl ?_
  refine Ok.iload_n (pc' := 5) rfl dX9_isNumber_4 rfl ?_
  obtain ⟨k1, e1, q1, K⟩ := K
  refine Ok.iald (pc' := 6) (z := h.1 1 k1) dX9_isNumber_5 rfl (shM_1 _) (by decide) e1 q1 rfl ?_
  refine Ok.if_ne (tgt := 13) dX9_isNumber_6 rfl rfl (fun c2 => ?_) (fun c2 => ?_)
  · replace K := K.1 c2
    refine Ok.iconst (pc' := 14) in_0 dX9_isNumber_13 rfl ?_
    exact Ok.zret dX9_isNumber_14 rfl (by decide) (Or.inl rfl) K
  · replace K := K.2 c2
    refine Ok.iconst (pc' := 10) in_1 dX9_isNumber_9 rfl ?_
    refine Ok.goto (tgt := 14) dX9_isNumber_10 rfl ?_
    exact Ok.zret dX9_isNumber_14 rfl (by decide) (Or.inr rfl) K
theorem sX9_hasLeave_0 {block : Int} {h : Hp} {Post : Int → Hp → Prop}
    (K : Cl shM mX9_goes [pR 0, pI block] h (fun r1 h1 => Ok shM 0 0 mX9_hasLeave 11 [some (pR 0), some (pI block), some (pI r1), some (pI 0), some (pI 0), none] [] h1 Post)) :
    Cl shM mX9_hasLeave [pR 0, pI block] h Post := by
  show Ok shM 0 0 mX9_hasLeave 0 [some (pR 0), some (pI block), none, none, none, none] [] h Post
  refine Ok.aload_n (pc' := 1) rfl dX9_hasLeave_0 rfl ?_
  refine Ok.iload_n (pc' := 2) rfl dX9_hasLeave_1 rfl ?_
  refine Ok.callV (pc' := 5) (av := [pI block]) (rest := []) dX9_hasLeave_2 rfl (by decide) cvX9_hasLeave_100 (shM_0 _) rfl rfl rfl (leb rfl) (leb rfl) K (fun r1 h1 K => ?_)
  show Ok shM 0 0 mX9_hasLeave 5 [some (pR 0), some (pI block), none, none, none, none] [pI r1] h1 Post
  refine Ok.istore_n (pc' := 6) (ls' := [some (pR 0), some (pI block), some (pI r1), none, none, none]) dX9_hasLeave_5 rfl (by decide) rfl rfl ?_
  refine Ok.iconst (pc' := 7) in_0 dX9_hasLeave_6 rfl ?_
  refine Ok.istore_n (pc' := 8) (ls' := [some (pR 0), some (pI block), some (pI r1), some (pI 0), none, none]) dX9_hasLeave_7 rfl (by decide) rfl rfl ?_
  refine Ok.iconst (pc' := 9) in_0 dX9_hasLeave_8 rfl ?_
  refine Ok.istore (pc' := 11) (ls' := [some (pR 0), some (pI block), some (pI r1), some (pI 0), some (pI 0), none]) dX9_hasLeave_9 rfl (by decide) rfl rfl ?_
  exact K
theorem sX9_hasLeave_11 {block v2 v3 v4 : Int} {h : Hp} {Post : Int → Hp → Prop}
    (K : ((v2 ≤ v4) → (v3 = 0 ∨ v3 = 1) ∧ Post v3 h) ∧ ((¬ v2 ≤ v4) → ∃ k2 : Nat, v4 = (k2 : Int) ∧ k2 < 600 ∧ (∃ k3 : Nat, h.1 9 k2 = (k3 : Int) ∧ k3 < 600 ∧ (((¬ h.1 1 k3 = 7) → inR ((v4 + 1)) ∧ (Ok shM 0 0 mX9_hasLeave 11 [some (pR 0), some (pI block), some (pI v2), some (pI v3), some (pI (v4 + 1)), none] [] h Post)) ∧ ((h.1 1 k3 = 7) → Ok shM 0 0 mX9_hasLeave 48 [some (pR 0), some (pI block), some (pI v2), some (pI v3), some (pI v4), some (pI (h.1 4 k3))] [] h Post))))) :
    Ok shM 0 0 mX9_hasLeave 11 [some (pR 0), some (pI block), some (pI v2), some (pI v3), some (pI v4), none] [] h Post := by
  show Ok shM 0 0 mX9_hasLeave 11 [some (pR 0), some (pI block), some (pI v2), some (pI v3), some (pI v4), none] [] h Post
  refine Ok.iload (pc' := 13) rfl dX9_hasLeave_11 rfl ?_
  refine Ok.iload_n (pc' := 14) rfl dX9_hasLeave_13 rfl ?_
  refine Ok.icmp_ge (tgt := 94) dX9_hasLeave_14 rfl rfl (fun c1 => ?_) (fun c1 => ?_)
  · replace K := K.1 c1
    refine Ok.iload_n (pc' := 95) rfl dX9_hasLeave_94 rfl ?_
    exact Ok.zret dX9_hasLeave_95 rfl (by decide) K.1 K.2
  · replace K := K.2 c1
    refine Ok.aload_n (pc' := 18) rfl dX9_hasLeave_17 rfl ?_
    refine Ok.getR (pc' := 21) (k := 1) dX9_hasLeave_18 rfl (shM_0 _) rfl inX9 (by decide) rfl wd_982 rfl ?_
    refine Ok.aload_n (pc' := 22) rfl dX9_hasLeave_21 rfl ?_
    refine Ok.getR (pc' := 25) (k := 10) dX9_hasLeave_22 rfl (shM_0 _) rfl inX9 (by decide) rfl wd_991 rfl ?_
    refine Ok.iload (pc' := 27) rfl dX9_hasLeave_25 rfl ?_
    obtain ⟨k2, e2, q2, K⟩ := K
    refine Ok.iald (pc' := 28) (z := h.1 9 k2) dX9_hasLeave_27 rfl (shM_9 _) (by decide) e2 q2 rfl ?_
    obtain ⟨k3, e3, q3, K⟩ := K
    refine Ok.iald (pc' := 29) (z := h.1 1 k3) dX9_hasLeave_28 rfl (shM_1 _) (by decide) e3 q3 rfl ?_
    refine Ok.bipush (pc' := 31) ⟨by decide, by decide⟩ dX9_hasLeave_29 rfl ?_
    refine Ok.icmp_ne (tgt := 88) dX9_hasLeave_31 rfl rfl (fun c4 => ?_) (fun c4 => ?_)
    · replace K := K.1 c4
      obtain ⟨q5, K⟩ := K
      refine Ok.iinc (pc' := 91) (ls' := [some (pR 0), some (pI block), some (pI v2), some (pI v3), some (pI (v4 + 1)), none]) dX9_hasLeave_88 rfl rfl (by decide) rfl rfl q5 ?_
      refine Ok.goto (tgt := 11) dX9_hasLeave_91 rfl ?_
      exact K
    · replace K := K.2 c4
      refine Ok.aload_n (pc' := 35) rfl dX9_hasLeave_34 rfl ?_
      refine Ok.getR (pc' := 38) (k := 4) dX9_hasLeave_35 rfl (shM_0 _) rfl inX9 (by decide) rfl wd_985 rfl ?_
      refine Ok.aload_n (pc' := 39) rfl dX9_hasLeave_38 rfl ?_
      refine Ok.getR (pc' := 42) (k := 10) dX9_hasLeave_39 rfl (shM_0 _) rfl inX9 (by decide) rfl wd_991 rfl ?_
      refine Ok.iload (pc' := 44) rfl dX9_hasLeave_42 rfl ?_
      refine Ok.iald (pc' := 45) (z := h.1 9 k2) dX9_hasLeave_44 rfl (shM_9 _) (by decide) e2 q2 rfl ?_
      refine Ok.iald (pc' := 46) (z := h.1 4 k3) dX9_hasLeave_45 rfl (shM_4 _) (by decide) e3 q3 rfl ?_
      refine Ok.istore (pc' := 48) (ls' := [some (pR 0), some (pI block), some (pI v2), some (pI v3), some (pI v4), some (pI (h.1 4 k3))]) dX9_hasLeave_46 rfl (by decide) rfl rfl ?_
      exact K
theorem sX9_hasLeave_48 {block v2 v3 v4 v5 : Int} {h : Hp} {Post : Int → Hp → Prop}
    (K : ∃ k1 : Nat, v5 = (k1 : Int) ∧ k1 < 600 ∧ (((h.1 1 k1 = 11) → ((¬ v3 = 0) → inR ((v4 + 1)) ∧ (Ok shM 0 0 mX9_hasLeave 11 [some (pR 0), some (pI block), some (pI v2), some (pI 1), some (pI (v4 + 1)), none] [] h Post)) ∧ ((v3 = 0) → ((¬ v5 = block) → inR ((v4 + 1)) ∧ (Ok shM 0 0 mX9_hasLeave 11 [some (pR 0), some (pI block), some (pI v2), some (pI 0), some (pI (v4 + 1)), none] [] h Post)) ∧ ((v5 = block) → inR ((v4 + 1)) ∧ (Ok shM 0 0 mX9_hasLeave 11 [some (pR 0), some (pI block), some (pI v2), some (pI 1), some (pI (v4 + 1)), none] [] h Post)))) ∧ ((¬ h.1 1 k1 = 11) → Ok shM 0 0 mX9_hasLeave 48 [some (pR 0), some (pI block), some (pI v2), some (pI v3), some (pI v4), some (pI (h.1 4 k1))] [] h Post))) :
    Ok shM 0 0 mX9_hasLeave 48 [some (pR 0), some (pI block), some (pI v2), some (pI v3), some (pI v4), some (pI v5)] [] h Post := by
  show Ok shM 0 0 mX9_hasLeave 48 [some (pR 0), some (pI block), some (pI v2), some (pI v3), some (pI v4), some (pI v5)] [] h Post
  refine Ok.aload_n (pc' := 49) rfl dX9_hasLeave_48 rfl ?_
  refine Ok.getR (pc' := 52) (k := 1) dX9_hasLeave_49 rfl (shM_0 _) rfl inX9 (by decide) rfl wd_982 rfl ?_
  refine Ok.iload (pc' := 54) rfl dX9_hasLeave_52 rfl ?_
  obtain ⟨k1, e1, q1, K⟩ := K
  refine Ok.iald (pc' := 55) (z := h.1 1 k1) dX9_hasLeave_54 rfl (shM_1 _) (by decide) e1 q1 rfl ?_
  refine Ok.bipush (pc' := 57) ⟨by decide, by decide⟩ dX9_hasLeave_55 rfl ?_
  refine Ok.icmp_eq (tgt := 72) dX9_hasLeave_57 rfl rfl (fun c2 => ?_) (fun c2 => ?_)
  · replace K := K.1 c2
    refine Ok.iload_n (pc' := 73) rfl dX9_hasLeave_72 rfl ?_
    refine Ok.if_ne (tgt := 82) dX9_hasLeave_73 rfl rfl (fun c3 => ?_) (fun c3 => ?_)
    · replace K := K.1 c3
      refine Ok.iconst (pc' := 83) in_1 dX9_hasLeave_82 rfl ?_
      refine Ok.goto (tgt := 87) dX9_hasLeave_83 rfl ?_
      refine Ok.istore_n (pc' := 88) (ls' := [some (pR 0), some (pI block), some (pI v2), some (pI 1), some (pI v4), some (pI v5)]) dX9_hasLeave_87 rfl (by decide) rfl rfl ?_
      obtain ⟨q4, K⟩ := K
      refine Ok.iinc (pc' := 91) (ls' := [some (pR 0), some (pI block), some (pI v2), some (pI 1), some (pI (v4 + 1)), some (pI v5)]) dX9_hasLeave_88 rfl rfl (by decide) rfl rfl q4 ?_
      refine Ok.goto (tgt := 11) dX9_hasLeave_91 rfl ?_
      exact Ok.fl (ls' := [some (pR 0), some (pI block), some (pI v2), some (pI 1), some (pI (v4 + 1)), none]) K ⟨rfl, rfl, rfl, rfl, rfl, trivial⟩
    · replace K := K.2 c3
      refine Ok.iload (pc' := 78) rfl dX9_hasLeave_76 rfl ?_
      refine Ok.iload_n (pc' := 79) rfl dX9_hasLeave_78 rfl ?_
      refine Ok.icmp_ne (tgt := 86) dX9_hasLeave_79 rfl rfl (fun c4 => ?_) (fun c4 => ?_)
      · replace K := K.1 c4
        refine Ok.iconst (pc' := 87) in_0 dX9_hasLeave_86 rfl ?_
        refine Ok.istore_n (pc' := 88) (ls' := [some (pR 0), some (pI block), some (pI v2), some (pI 0), some (pI v4), some (pI v5)]) dX9_hasLeave_87 rfl (by decide) rfl rfl ?_
        obtain ⟨q5, K⟩ := K
        refine Ok.iinc (pc' := 91) (ls' := [some (pR 0), some (pI block), some (pI v2), some (pI 0), some (pI (v4 + 1)), some (pI v5)]) dX9_hasLeave_88 rfl rfl (by decide) rfl rfl q5 ?_
        refine Ok.goto (tgt := 11) dX9_hasLeave_91 rfl ?_
        exact Ok.fl (ls' := [some (pR 0), some (pI block), some (pI v2), some (pI 0), some (pI (v4 + 1)), none]) K ⟨rfl, rfl, rfl, rfl, rfl, trivial⟩
      · replace K := K.2 c4
        refine Ok.iconst (pc' := 83) in_1 dX9_hasLeave_82 rfl ?_
        refine Ok.goto (tgt := 87) dX9_hasLeave_83 rfl ?_
        refine Ok.istore_n (pc' := 88) (ls' := [some (pR 0), some (pI block), some (pI v2), some (pI 1), some (pI v4), some (pI v5)]) dX9_hasLeave_87 rfl (by decide) rfl rfl ?_
        obtain ⟨q5, K⟩ := K
        refine Ok.iinc (pc' := 91) (ls' := [some (pR 0), some (pI block), some (pI v2), some (pI 1), some (pI (v4 + 1)), some (pI v5)]) dX9_hasLeave_88 rfl rfl (by decide) rfl rfl q5 ?_
        refine Ok.goto (tgt := 11) dX9_hasLeave_91 rfl ?_
        exact Ok.fl (ls' := [some (pR 0), some (pI block), some (pI v2), some (pI 1), some (pI (v4 + 1)), none]) K ⟨rfl, rfl, rfl, rfl, rfl, trivial⟩
  · replace K := K.2 c2
    refine Ok.aload_n (pc' := 61) rfl dX9_hasLeave_60 rfl ?_
    refine Ok.getR (pc' := 64) (k := 4) dX9_hasLeave_61 rfl (shM_0 _) rfl inX9 (by decide) rfl wd_985 rfl ?_
    refine Ok.iload (pc' := 66) rfl dX9_hasLeave_64 rfl ?_
    refine Ok.iald (pc' := 67) (z := h.1 4 k1) dX9_hasLeave_66 rfl (shM_4 _) (by decide) e1 q1 rfl ?_
    refine Ok.istore (pc' := 69) (ls' := [some (pR 0), some (pI block), some (pI v2), some (pI v3), some (pI v4), some (pI (h.1 4 k1))]) dX9_hasLeave_67 rfl (by decide) rfl rfl ?_
    refine Ok.goto (tgt := 48) dX9_hasLeave_69 rfl ?_
    exact K
theorem sX9_howMany_0 {root k0 v : Int} {h : Hp} {Post : Int → Hp → Prop}
    (K : Cl shM mX9_goes [pR 0, pI root] h (fun r1 h1 => Ok shM 0 0 mX9_howMany 13 [some (pR 0), none, some (pI k0), some (pI v), some (pI r1), some (pI 0), some (pI 0)] [] h1 Post)) :
    Cl shM mX9_howMany [pR 0, pI root, pI k0, pI v] h Post := by
  show Ok shM 0 0 mX9_howMany 0 [some (pR 0), some (pI root), some (pI k0), some (pI v), none, none, none] [] h Post
  refine Ok.aload_n (pc' := 1) rfl dX9_howMany_0 rfl ?_
  refine Ok.iload_n (pc' := 2) rfl dX9_howMany_1 rfl ?_
  refine Ok.callV (pc' := 5) (av := [pI root]) (rest := []) dX9_howMany_2 rfl (by decide) cvX9_howMany_100 (shM_0 _) rfl rfl rfl (leb rfl) (leb rfl) K (fun r1 h1 K => ?_)
  show Ok shM 0 0 mX9_howMany 5 [some (pR 0), some (pI root), some (pI k0), some (pI v), none, none, none] [pI r1] h1 Post
  refine Ok.istore (pc' := 7) (ls' := [some (pR 0), some (pI root), some (pI k0), some (pI v), some (pI r1), none, none]) dX9_howMany_5 rfl (by decide) rfl rfl ?_
  refine Ok.iconst (pc' := 8) in_0 dX9_howMany_7 rfl ?_
  refine Ok.istore (pc' := 10) (ls' := [some (pR 0), some (pI root), some (pI k0), some (pI v), some (pI r1), some (pI 0), none]) dX9_howMany_8 rfl (by decide) rfl rfl ?_
  refine Ok.iconst (pc' := 11) in_0 dX9_howMany_10 rfl ?_
  refine Ok.istore (pc' := 13) (ls' := [some (pR 0), some (pI root), some (pI k0), some (pI v), some (pI r1), some (pI 0), some (pI 0)]) dX9_howMany_11 rfl (by decide) rfl rfl ?_
  exact Ok.fl (ls' := [some (pR 0), none, some (pI k0), some (pI v), some (pI r1), some (pI 0), some (pI 0)]) K ⟨rfl, rfl, rfl, rfl, rfl, rfl, trivial⟩
theorem sX9_howMany_13 {k0 v v4 v5 v6 : Int} {h : Hp} {Post : Int → Hp → Prop}
    (K : ((v4 ≤ v6) → Post v5 h) ∧ ((¬ v4 ≤ v6) → ∃ k2 : Nat, v6 = (k2 : Int) ∧ k2 < 600 ∧ (∃ k3 : Nat, h.1 9 k2 = (k3 : Int) ∧ k3 < 600 ∧ (((¬ h.1 1 k3 = k0) → inR ((v5 + 0)) ∧ (inR ((v6 + 1)) ∧ (Ok shM 0 0 mX9_howMany 13 [some (pR 0), none, some (pI k0), some (pI v), some (pI v4), some (pI (v5 + 0)), some (pI (v6 + 1))] [] h Post))) ∧ ((h.1 1 k3 = k0) → ((¬ h.1 2 k3 = v) → inR ((v5 + 0)) ∧ (inR ((v6 + 1)) ∧ (Ok shM 0 0 mX9_howMany 13 [some (pR 0), none, some (pI k0), some (pI v), some (pI v4), some (pI (v5 + 0)), some (pI (v6 + 1))] [] h Post))) ∧ ((h.1 2 k3 = v) → inR ((v5 + 1)) ∧ (inR ((v6 + 1)) ∧ (Ok shM 0 0 mX9_howMany 13 [some (pR 0), none, some (pI k0), some (pI v), some (pI v4), some (pI (v5 + 1)), some (pI (v6 + 1))] [] h Post)))))))) :
    Ok shM 0 0 mX9_howMany 13 [some (pR 0), none, some (pI k0), some (pI v), some (pI v4), some (pI v5), some (pI v6)] [] h Post := by
  show Ok shM 0 0 mX9_howMany 13 [some (pR 0), none, some (pI k0), some (pI v), some (pI v4), some (pI v5), some (pI v6)] [] h Post
  refine Ok.iload (pc' := 15) rfl dX9_howMany_13 rfl ?_
  refine Ok.iload (pc' := 17) rfl dX9_howMany_15 rfl ?_
  refine Ok.icmp_ge (tgt := 68) dX9_howMany_17 rfl rfl (fun c1 => ?_) (fun c1 => ?_)
  · replace K := K.1 c1
    refine Ok.iload (pc' := 70) rfl dX9_howMany_68 rfl ?_
    exact Ok.iret dX9_howMany_70 rfl (by decide) K
  · replace K := K.2 c1
    refine Ok.iload (pc' := 22) rfl dX9_howMany_20 rfl ?_
    refine Ok.aload_n (pc' := 23) rfl dX9_howMany_22 rfl ?_
    refine Ok.getR (pc' := 26) (k := 1) dX9_howMany_23 rfl (shM_0 _) rfl inX9 (by decide) rfl wd_982 rfl ?_
    refine Ok.aload_n (pc' := 27) rfl dX9_howMany_26 rfl ?_
    refine Ok.getR (pc' := 30) (k := 10) dX9_howMany_27 rfl (shM_0 _) rfl inX9 (by decide) rfl wd_991 rfl ?_
    refine Ok.iload (pc' := 32) rfl dX9_howMany_30 rfl ?_
    obtain ⟨k2, e2, q2, K⟩ := K
    refine Ok.iald (pc' := 33) (z := h.1 9 k2) dX9_howMany_32 rfl (shM_9 _) (by decide) e2 q2 rfl ?_
    obtain ⟨k3, e3, q3, K⟩ := K
    refine Ok.iald (pc' := 34) (z := h.1 1 k3) dX9_howMany_33 rfl (shM_1 _) (by decide) e3 q3 rfl ?_
    refine Ok.iload_n (pc' := 35) rfl dX9_howMany_34 rfl ?_
    refine Ok.icmp_ne (tgt := 58) dX9_howMany_35 rfl rfl (fun c4 => ?_) (fun c4 => ?_)
    · replace K := K.1 c4
      refine Ok.iconst (pc' := 59) in_0 dX9_howMany_58 rfl ?_
      obtain ⟨q5, K⟩ := K
      refine Ok.iadd (pc' := 60) dX9_howMany_59 rfl q5 ?_
      refine Ok.istore (pc' := 62) (ls' := [some (pR 0), none, some (pI k0), some (pI v), some (pI v4), some (pI (v5 + 0)), some (pI v6)]) dX9_howMany_60 rfl (by decide) rfl rfl ?_
      obtain ⟨q6, K⟩ := K
      refine Ok.iinc (pc' := 65) (ls' := [some (pR 0), none, some (pI k0), some (pI v), some (pI v4), some (pI (v5 + 0)), some (pI (v6 + 1))]) dX9_howMany_62 rfl rfl (by decide) rfl rfl q6 ?_
      refine Ok.goto (tgt := 13) dX9_howMany_65 rfl ?_
      exact K
    · replace K := K.2 c4
      refine Ok.aload_n (pc' := 39) rfl dX9_howMany_38 rfl ?_
      refine Ok.getR (pc' := 42) (k := 2) dX9_howMany_39 rfl (shM_0 _) rfl inX9 (by decide) rfl wd_983 rfl ?_
      refine Ok.aload_n (pc' := 43) rfl dX9_howMany_42 rfl ?_
      refine Ok.getR (pc' := 46) (k := 10) dX9_howMany_43 rfl (shM_0 _) rfl inX9 (by decide) rfl wd_991 rfl ?_
      refine Ok.iload (pc' := 48) rfl dX9_howMany_46 rfl ?_
      refine Ok.iald (pc' := 49) (z := h.1 9 k2) dX9_howMany_48 rfl (shM_9 _) (by decide) e2 q2 rfl ?_
      refine Ok.iald (pc' := 50) (z := h.1 2 k3) dX9_howMany_49 rfl (shM_2 _) (by decide) e3 q3 rfl ?_
      refine Ok.iload_n (pc' := 51) rfl dX9_howMany_50 rfl ?_
      refine Ok.icmp_ne (tgt := 58) dX9_howMany_51 rfl rfl (fun c5 => ?_) (fun c5 => ?_)
      · replace K := K.1 c5
        refine Ok.iconst (pc' := 59) in_0 dX9_howMany_58 rfl ?_
        obtain ⟨q6, K⟩ := K
        refine Ok.iadd (pc' := 60) dX9_howMany_59 rfl q6 ?_
        refine Ok.istore (pc' := 62) (ls' := [some (pR 0), none, some (pI k0), some (pI v), some (pI v4), some (pI (v5 + 0)), some (pI v6)]) dX9_howMany_60 rfl (by decide) rfl rfl ?_
        obtain ⟨q7, K⟩ := K
        refine Ok.iinc (pc' := 65) (ls' := [some (pR 0), none, some (pI k0), some (pI v), some (pI v4), some (pI (v5 + 0)), some (pI (v6 + 1))]) dX9_howMany_62 rfl rfl (by decide) rfl rfl q7 ?_
        refine Ok.goto (tgt := 13) dX9_howMany_65 rfl ?_
        exact K
      · replace K := K.2 c5
        refine Ok.iconst (pc' := 55) in_1 dX9_howMany_54 rfl ?_
        refine Ok.goto (tgt := 59) dX9_howMany_55 rfl ?_
        obtain ⟨q6, K⟩ := K
        refine Ok.iadd (pc' := 60) dX9_howMany_59 rfl q6 ?_
        refine Ok.istore (pc' := 62) (ls' := [some (pR 0), none, some (pI k0), some (pI v), some (pI v4), some (pI (v5 + 1)), some (pI v6)]) dX9_howMany_60 rfl (by decide) rfl rfl ?_
        obtain ⟨q7, K⟩ := K
        refine Ok.iinc (pc' := 65) (ls' := [some (pR 0), none, some (pI k0), some (pI v), some (pI v4), some (pI (v5 + 1)), some (pI (v6 + 1))]) dX9_howMany_62 rfl rfl (by decide) rfl rfl q7 ?_
        refine Ok.goto (tgt := 13) dX9_howMany_65 rfl ?_
        exact K
theorem sX9_isFast_0 {r s0 : Int} {h : Hp} {Post : Int → Hp → Prop}
    (K : inR ((3 * s0)) ∧ (∃ k2 : Nat, (3 * s0) = (k2 : Int) ∧ k2 < 1800 ∧ (∃ k3 : Nat, h.1 3 k2 = (k3 : Int) ∧ k3 < 600 ∧ (((¬ h.1 1 k3 = 4) → Post 0 h) ∧ ((h.1 1 k3 = 4) → inR ((3 * h.1 3 k2)) ∧ (∃ k6 : Nat, (3 * h.1 3 k2) = (k6 : Int) ∧ k6 < 1800 ∧ (Cl shM mX9_isNumber [pR 0, pI (h.1 3 k6)] h (fun r1 h1 => ((r1 = 0) → Post 0 h1) ∧ ((¬ r1 = 0) → ∃ k8 : Nat, r = (k8 : Int) ∧ k8 < 10 ∧ (((h1.1 6 k8 ≤ h1.1 2 k3) → Cl shM mX9_howMany [pR 0, pI (h1.1 7 k8), pI 4, pI (h1.1 2 k3)] h1 (fun r2 h2 => ((¬ r2 = 1) → Post 0 h2) ∧ ((r2 = 1) → Cl shM mX9_howMany [pR 0, pI (h2.1 7 k8), pI 1, pI (h1.1 2 k3)] h2 (fun r3 h3 => inR (((3 * s0) + 1)) ∧ (∃ k12 : Nat, ((3 * s0) + 1) = (k12 : Int) ∧ k12 < 1800 ∧ (Cl shM mX9_howMany [pR 0, pI (h3.1 3 k12), pI 1, pI (h1.1 2 k3)] h3 (fun r4 h4 => ((¬ r3 = r4) → Post 0 h4) ∧ ((r3 = r4) → Post 1 h4)))))))) ∧ ((¬ h1.1 6 k8 ≤ h1.1 2 k3) → Post 0 h1))))))))))) :
    Cl shM mX9_isFast [pR 0, pI r, pI s0] h Post := by
  show Ok shM 0 0 mX9_isFast 0 [some (pR 0), some (pI r), some (pI s0), none, none] [] h Post
  refine Ok.aload_n (pc' := 1) rfl dX9_isFast_0 rfl ?_
  refine Ok.getR (pc' := 4) (k := 3) dX9_isFast_1 rfl (shM_0 _) rfl inX9 (by decide) rfl wd_984 rfl ?_
  refine Ok.iconst (pc' := 5) in_3 dX9_isFast_4 rfl ?_
  refine Ok.iload_n (pc' := 6) rfl dX9_isFast_5 rfl ?_
  obtain ⟨q1, K⟩ := K
  refine Ok.imul (pc' := 7) dX9_isFast_6 rfl q1 ?_
  obtain ⟨k2, e2, q2, K⟩ := K
  refine Ok.iald (pc' := 8) (z := h.1 3 k2) dX9_isFast_7 rfl (shM_3 _) (by decide) e2 q2 rfl ?_
  refine Ok.istore_n (pc' := 9) (ls' := [some (pR 0), some (pI r), some (pI s0), some (pI (h.1 3 k2)), none]) dX9_isFast_8 rfl (by decide) rfl rfl ?_
  refine Ok.aload_n (pc' := 10) rfl dX9_isFast_9 rfl ?_
  refine Ok.getR (pc' := 13) (k := 1) dX9_isFast_10 rfl (shM_0 _) rfl inX9 (by decide) rfl wd_982 rfl ?_
  refine Ok.iload_n (pc' := 14) rfl dX9_isFast_13 rfl ?_
  obtain ⟨k3, e3, q3, K⟩ := K
  refine Ok.iald (pc' := 15) (z := h.1 1 k3) dX9_isFast_14 rfl (shM_1 _) (by decide) e3 q3 rfl ?_
  refine Ok.iconst (pc' := 16) in_4 dX9_isFast_15 rfl ?_
  refine Ok.icmp_ne (tgt := 49) dX9_isFast_16 rfl rfl (fun c4 => ?_) (fun c4 => ?_)
  · replace K := K.1 c4
    refine Ok.iconst (pc' := 50) in_0 dX9_isFast_49 rfl ?_
    exact Ok.zret dX9_isFast_50 rfl (by decide) (Or.inl rfl) K
  · replace K := K.2 c4
    refine Ok.aload_n (pc' := 20) rfl dX9_isFast_19 rfl ?_
    refine Ok.aload_n (pc' := 21) rfl dX9_isFast_20 rfl ?_
    refine Ok.getR (pc' := 24) (k := 3) dX9_isFast_21 rfl (shM_0 _) rfl inX9 (by decide) rfl wd_984 rfl ?_
    refine Ok.iconst (pc' := 25) in_3 dX9_isFast_24 rfl ?_
    refine Ok.iload_n (pc' := 26) rfl dX9_isFast_25 rfl ?_
    obtain ⟨q5, K⟩ := K
    refine Ok.imul (pc' := 27) dX9_isFast_26 rfl q5 ?_
    obtain ⟨k6, e6, q6, K⟩ := K
    refine Ok.iald (pc' := 28) (z := h.1 3 k6) dX9_isFast_27 rfl (shM_3 _) (by decide) e6 q6 rfl ?_
    refine Ok.callV (pc' := 31) (av := [pI (h.1 3 k6)]) (rest := []) dX9_isFast_28 rfl (by decide) cvX9_isFast_275 (shM_0 _) rfl rfl rfl (leb rfl) (leb rfl) K (fun r1 h1 K => ?_)
    show Ok shM 0 0 mX9_isFast 31 [some (pR 0), some (pI r), some (pI s0), some (pI (h.1 3 k2)), none] [pI r1] h1 Post
    refine Ok.if_eq (tgt := 49) dX9_isFast_31 rfl rfl (fun c7 => ?_) (fun c7 => ?_)
    · replace K := K.1 c7
      refine Ok.iconst (pc' := 50) in_0 dX9_isFast_49 rfl ?_
      exact Ok.zret dX9_isFast_50 rfl (by decide) (Or.inl rfl) K
    · replace K := K.2 c7
      refine Ok.aload_n (pc' := 35) rfl dX9_isFast_34 rfl ?_
      refine Ok.getR (pc' := 38) (k := 2) dX9_isFast_35 rfl (shM_0 _) rfl inX9 (by decide) rfl wd_983 rfl ?_
      refine Ok.iload_n (pc' := 39) rfl dX9_isFast_38 rfl ?_
      refine Ok.iald (pc' := 40) (z := h1.1 2 k3) dX9_isFast_39 rfl (shM_2 _) (by decide) e3 q3 rfl ?_
      refine Ok.aload_n (pc' := 41) rfl dX9_isFast_40 rfl ?_
      refine Ok.getR (pc' := 44) (k := 7) dX9_isFast_41 rfl (shM_0 _) rfl inX9 (by decide) rfl wd_988 rfl ?_
      refine Ok.iload_n (pc' := 45) rfl dX9_isFast_44 rfl ?_
      obtain ⟨k8, e8, q8, K⟩ := K
      refine Ok.iald (pc' := 46) (z := h1.1 6 k8) dX9_isFast_45 rfl (shM_6 _) (by decide) e8 q8 rfl ?_
      refine Ok.icmp_ge (tgt := 51) dX9_isFast_46 rfl rfl (fun c9 => ?_) (fun c9 => ?_)
      · replace K := K.1 c9
        refine Ok.aload_n (pc' := 52) rfl dX9_isFast_51 rfl ?_
        refine Ok.getR (pc' := 55) (k := 2) dX9_isFast_52 rfl (shM_0 _) rfl inX9 (by decide) rfl wd_983 rfl ?_
        refine Ok.iload_n (pc' := 56) rfl dX9_isFast_55 rfl ?_
        refine Ok.iald (pc' := 57) (z := h1.1 2 k3) dX9_isFast_56 rfl (shM_2 _) (by decide) e3 q3 rfl ?_
        refine Ok.istore (pc' := 59) (ls' := [some (pR 0), some (pI r), some (pI s0), some (pI (h.1 3 k2)), some (pI (h1.1 2 k3))]) dX9_isFast_57 rfl (by decide) rfl rfl ?_
        refine Ok.aload_n (pc' := 60) rfl dX9_isFast_59 rfl ?_
        refine Ok.aload_n (pc' := 61) rfl dX9_isFast_60 rfl ?_
        refine Ok.getR (pc' := 64) (k := 8) dX9_isFast_61 rfl (shM_0 _) rfl inX9 (by decide) rfl wd_989 rfl ?_
        refine Ok.iload_n (pc' := 65) rfl dX9_isFast_64 rfl ?_
        refine Ok.iald (pc' := 66) (z := h1.1 7 k8) dX9_isFast_65 rfl (shM_7 _) (by decide) e8 q8 rfl ?_
        refine Ok.iconst (pc' := 67) in_4 dX9_isFast_66 rfl ?_
        refine Ok.iload (pc' := 69) rfl dX9_isFast_67 rfl ?_
        refine Ok.callV (pc' := 72) (av := [pI (h1.1 7 k8), pI 4, pI (h1.1 2 k3)]) (rest := []) dX9_isFast_69 rfl (by decide) cvX9_isFast_278 (shM_0 _) rfl rfl rfl (leb rfl) (leb rfl) K (fun r2 h2 K => ?_)
        show Ok shM 0 0 mX9_isFast 72 [some (pR 0), some (pI r), some (pI s0), some (pI (h.1 3 k2)), some (pI (h1.1 2 k3))] [pI r2] h2 Post
        refine Ok.iconst (pc' := 73) in_1 dX9_isFast_72 rfl ?_
        refine Ok.icmp_ne (tgt := 113) dX9_isFast_73 rfl rfl (fun c10 => ?_) (fun c10 => ?_)
        · replace K := K.1 c10
          refine Ok.iconst (pc' := 114) in_0 dX9_isFast_113 rfl ?_
          exact Ok.zret dX9_isFast_114 rfl (by decide) (Or.inl rfl) K
        · replace K := K.2 c10
          refine Ok.aload_n (pc' := 77) rfl dX9_isFast_76 rfl ?_
          refine Ok.aload_n (pc' := 78) rfl dX9_isFast_77 rfl ?_
          refine Ok.getR (pc' := 81) (k := 8) dX9_isFast_78 rfl (shM_0 _) rfl inX9 (by decide) rfl wd_989 rfl ?_
          refine Ok.iload_n (pc' := 82) rfl dX9_isFast_81 rfl ?_
          refine Ok.iald (pc' := 83) (z := h2.1 7 k8) dX9_isFast_82 rfl (shM_7 _) (by decide) e8 q8 rfl ?_
          refine Ok.iconst (pc' := 84) in_1 dX9_isFast_83 rfl ?_
          refine Ok.iload (pc' := 86) rfl dX9_isFast_84 rfl ?_
          refine Ok.callV (pc' := 89) (av := [pI (h2.1 7 k8), pI 1, pI (h1.1 2 k3)]) (rest := []) dX9_isFast_86 rfl (by decide) cvX9_isFast_278 (shM_0 _) rfl rfl rfl (leb rfl) (leb rfl) K (fun r3 h3 K => ?_)
          show Ok shM 0 0 mX9_isFast 89 [some (pR 0), some (pI r), some (pI s0), some (pI (h.1 3 k2)), some (pI (h1.1 2 k3))] [pI r3] h3 Post
          refine Ok.aload_n (pc' := 90) rfl dX9_isFast_89 rfl ?_
          refine Ok.aload_n (pc' := 91) rfl dX9_isFast_90 rfl ?_
          refine Ok.getR (pc' := 94) (k := 3) dX9_isFast_91 rfl (shM_0 _) rfl inX9 (by decide) rfl wd_984 rfl ?_
          refine Ok.iconst (pc' := 95) in_3 dX9_isFast_94 rfl ?_
          refine Ok.iload_n (pc' := 96) rfl dX9_isFast_95 rfl ?_
          refine Ok.imul (pc' := 97) dX9_isFast_96 rfl q1 ?_
          refine Ok.iconst (pc' := 98) in_1 dX9_isFast_97 rfl ?_
          obtain ⟨q11, K⟩ := K
          refine Ok.iadd (pc' := 99) dX9_isFast_98 rfl q11 ?_
          obtain ⟨k12, e12, q12, K⟩ := K
          refine Ok.iald (pc' := 100) (z := h3.1 3 k12) dX9_isFast_99 rfl (shM_3 _) (by decide) e12 q12 rfl ?_
          refine Ok.iconst (pc' := 101) in_1 dX9_isFast_100 rfl ?_
          refine Ok.iload (pc' := 103) rfl dX9_isFast_101 rfl ?_
          refine Ok.callV (pc' := 106) (av := [pI (h3.1 3 k12), pI 1, pI (h1.1 2 k3)]) (rest := [pI r3]) dX9_isFast_103 rfl (by decide) cvX9_isFast_278 (shM_0 _) rfl rfl rfl (leb rfl) (leb rfl) K (fun r4 h4 K => ?_)
          show Ok shM 0 0 mX9_isFast 106 [some (pR 0), some (pI r), some (pI s0), some (pI (h.1 3 k2)), some (pI (h1.1 2 k3))] [pI r4, pI r3] h4 Post
          refine Ok.icmp_ne (tgt := 113) dX9_isFast_106 rfl rfl (fun c13 => ?_) (fun c13 => ?_)
          · replace K := K.1 c13
            refine Ok.iconst (pc' := 114) in_0 dX9_isFast_113 rfl ?_
            exact Ok.zret dX9_isFast_114 rfl (by decide) (Or.inl rfl) K
          · replace K := K.2 c13
            refine Ok.iconst (pc' := 110) in_1 dX9_isFast_109 rfl ?_
            refine Ok.goto (tgt := 114) dX9_isFast_110 rfl ?_
            exact Ok.zret dX9_isFast_114 rfl (by decide) (Or.inr rfl) K
      · replace K := K.2 c9
        refine Ok.iconst (pc' := 50) in_0 dX9_isFast_49 rfl ?_
        exact Ok.zret dX9_isFast_50 rfl (by decide) (Or.inl rfl) K
theorem sX9_holds_0 {r s0 : Int} {h : Hp} {Post : Int → Hp → Prop}
    (K : inR ((3 * s0)) ∧ (∃ k2 : Nat, (3 * s0) = (k2 : Int) ∧ k2 < 1800 ∧ (inR (((3 * s0) + 1)) ∧ (∃ k4 : Nat, ((3 * s0) + 1) = (k4 : Int) ∧ k4 < 1800 ∧ (∃ k5 : Nat, s0 = (k5 : Int) ∧ k5 < 600 ∧ (((h.1 1 k5 = 2) → Cl shM mX9_isNumber [pR 0, pI (h.1 3 k2)] h (fun r1 h1 => ((r1 = 0) → Post 0 h1) ∧ ((¬ r1 = 0) → Cl shM mX9_isNumber [pR 0, pI (h.1 3 k4)] h1 (fun r2 h2 => ((r2 = 0) → Post 0 h2) ∧ ((¬ r2 = 0) → ((¬ h2.1 2 k5 = 3) → Post 1 h2) ∧ ((h2.1 2 k5 = 3) → ∃ k10 : Nat, h.1 3 k4 = (k10 : Int) ∧ k10 < 600 ∧ (((h2.1 2 k10 = 0) → Post 0 h2) ∧ ((¬ h2.1 2 k10 = 0) → Post 1 h2)))))))) ∧ ((h.1 1 k5 = 3) → Cl shM mX9_isNumber [pR 0, pI (h.1 3 k2)] h (fun r3 h3 => ((r3 = 0) → Post 0 h3) ∧ ((¬ r3 = 0) → Post 2 h3))) ∧ ((h.1 1 k5 = 5) → Cl shM mX9_isNumber [pR 0, pI (h.1 3 k2)] h (fun r4 h4 => ((¬ r4 = 0) → Post 4 h4) ∧ ((r4 = 0) → ∃ k8 : Nat, h.1 3 k2 = (k8 : Int) ∧ k8 < 600 ∧ (((¬ h4.1 1 k8 = 1) → Cl shM mX9_isFast [pR 0, pI r, pI s0] h4 (fun r5 h5 => ((r5 = 0) → Post 0 h5) ∧ ((¬ r5 = 0) → Post 6 h5))) ∧ ((h4.1 1 k8 = 1) → Post 4 h4))))) ∧ ((h.1 1 k5 = 8) → Cl shM mX9_isNumber [pR 0, pI (h.1 3 k2)] h (fun r6 h6 => ((r6 = 0) → Post 0 h6) ∧ ((¬ r6 = 0) → ∃ k8 : Nat, h.1 3 k2 = (k8 : Int) ∧ k8 < 600 ∧ (((¬ h6.1 2 k8 = 0) → Post 0 h6) ∧ ((h6.1 2 k8 = 0) → Post 3 h6))))) ∧ ((h.1 1 k5 = 11) → Cl shM mX9_hasLeave [pR 0, pI s0] h (fun r7 h7 => ((r7 = 0) → Post 5 h7) ∧ ((¬ r7 = 0) → Post 0 h7))) ∧ ((h.1 1 k5 < 2 ∨ 11 < h.1 1 k5 ∨ h.1 1 k5 = 4 ∨ h.1 1 k5 = 6 ∨ h.1 1 k5 = 7 ∨ h.1 1 k5 = 9 ∨ h.1 1 k5 = 10) → Post 0 h))))))) :
    Cl shM mX9_holds [pR 0, pI r, pI s0] h Post := by
  show Ok shM 0 0 mX9_holds 0 [some (pR 0), some (pI r), some (pI s0), none, none] [] h Post
  refine Ok.aload_n (pc' := 1) rfl dX9_holds_0 rfl ?_
  refine Ok.getR (pc' := 4) (k := 3) dX9_holds_1 rfl (shM_0 _) rfl inX9 (by decide) rfl wd_984 rfl ?_
  refine Ok.iconst (pc' := 5) in_3 dX9_holds_4 rfl ?_
  refine Ok.iload_n (pc' := 6) rfl dX9_holds_5 rfl ?_
  obtain ⟨q1, K⟩ := K
  refine Ok.imul (pc' := 7) dX9_holds_6 rfl q1 ?_
  obtain ⟨k2, e2, q2, K⟩ := K
  refine Ok.iald (pc' := 8) (z := h.1 3 k2) dX9_holds_7 rfl (shM_3 _) (by decide) e2 q2 rfl ?_
  refine Ok.istore_n (pc' := 9) (ls' := [some (pR 0), some (pI r), some (pI s0), some (pI (h.1 3 k2)), none]) dX9_holds_8 rfl (by decide) rfl rfl ?_
  refine Ok.aload_n (pc' := 10) rfl dX9_holds_9 rfl ?_
  refine Ok.getR (pc' := 13) (k := 3) dX9_holds_10 rfl (shM_0 _) rfl inX9 (by decide) rfl wd_984 rfl ?_
  refine Ok.iconst (pc' := 14) in_3 dX9_holds_13 rfl ?_
  refine Ok.iload_n (pc' := 15) rfl dX9_holds_14 rfl ?_
  refine Ok.imul (pc' := 16) dX9_holds_15 rfl q1 ?_
  refine Ok.iconst (pc' := 17) in_1 dX9_holds_16 rfl ?_
  obtain ⟨q3, K⟩ := K
  refine Ok.iadd (pc' := 18) dX9_holds_17 rfl q3 ?_
  obtain ⟨k4, e4, q4, K⟩ := K
  refine Ok.iald (pc' := 19) (z := h.1 3 k4) dX9_holds_18 rfl (shM_3 _) (by decide) e4 q4 rfl ?_
  refine Ok.istore (pc' := 21) (ls' := [some (pR 0), some (pI r), some (pI s0), some (pI (h.1 3 k2)), some (pI (h.1 3 k4))]) dX9_holds_19 rfl (by decide) rfl rfl ?_
  refine Ok.aload_n (pc' := 22) rfl dX9_holds_21 rfl ?_
  refine Ok.getR (pc' := 25) (k := 1) dX9_holds_22 rfl (shM_0 _) rfl inX9 (by decide) rfl wd_982 rfl ?_
  refine Ok.iload_n (pc' := 26) rfl dX9_holds_25 rfl ?_
  obtain ⟨k5, e5, q5, K⟩ := K
  refine Ok.iald (pc' := 27) (z := h.1 1 k5) dX9_holds_26 rfl (shM_1 _) (by decide) e5 q5 rfl ?_
  obtain ⟨Kc6_0, Kc6_1, Kc6_2, Kc6_3, Kc6_4, Kc6_5⟩ := K
  refine Ok.tsw dX9_holds_27 rfl ⟨by decide, by decide⟩ (fun tgt ht => ?_)
  have hx : (h.1 1 k5 = 2) ∨ (h.1 1 k5 = 3) ∨ (h.1 1 k5 = 5) ∨ (h.1 1 k5 = 8) ∨ (h.1 1 k5 = 11) ∨ (h.1 1 k5 < 2 ∨ 11 < h.1 1 k5 ∨ h.1 1 k5 = 4 ∨ h.1 1 k5 = 6 ∨ h.1 1 k5 = 7 ∨ h.1 1 k5 = 9 ∨ h.1 1 k5 = 10) := by omega
  rcases hx with c6 | c6 | c6 | c6 | c6 | c6
  · obtain rfl : 80 = tgt := by rw [c6] at ht; exact Int.ofNat.inj ht
    have K := Kc6_0 c6
    refine Ok.aload_n (pc' := 81) rfl dX9_holds_80 rfl ?_
    refine Ok.iload_n (pc' := 82) rfl dX9_holds_81 rfl ?_
    refine Ok.callV (pc' := 85) (av := [pI (h.1 3 k2)]) (rest := []) dX9_holds_82 rfl (by decide) cvX9_holds_275 (shM_0 _) rfl rfl rfl (leb rfl) (leb rfl) K (fun r1 h1 K => ?_)
    show Ok shM 0 0 mX9_holds 85 [some (pR 0), some (pI r), some (pI s0), some (pI (h.1 3 k2)), some (pI (h.1 3 k4))] [pI r1] h1 Post
    refine Ok.if_eq (tgt := 121) dX9_holds_85 rfl rfl (fun c7 => ?_) (fun c7 => ?_)
    · replace K := K.1 c7
      refine Ok.iconst (pc' := 122) in_0 dX9_holds_121 rfl ?_
      exact Ok.iret dX9_holds_122 rfl (by decide) K
    · replace K := K.2 c7
      refine Ok.aload_n (pc' := 89) rfl dX9_holds_88 rfl ?_
      refine Ok.iload (pc' := 91) rfl dX9_holds_89 rfl ?_
      refine Ok.callV (pc' := 94) (av := [pI (h.1 3 k4)]) (rest := []) dX9_holds_91 rfl (by decide) cvX9_holds_275 (shM_0 _) rfl rfl rfl (leb rfl) (leb rfl) K (fun r2 h2 K => ?_)
      show Ok shM 0 0 mX9_holds 94 [some (pR 0), some (pI r), some (pI s0), some (pI (h.1 3 k2)), some (pI (h.1 3 k4))] [pI r2] h2 Post
      refine Ok.if_eq (tgt := 121) dX9_holds_94 rfl rfl (fun c8 => ?_) (fun c8 => ?_)
      · replace K := K.1 c8
        refine Ok.iconst (pc' := 122) in_0 dX9_holds_121 rfl ?_
        exact Ok.iret dX9_holds_122 rfl (by decide) K
      · replace K := K.2 c8
        refine Ok.aload_n (pc' := 98) rfl dX9_holds_97 rfl ?_
        refine Ok.getR (pc' := 101) (k := 2) dX9_holds_98 rfl (shM_0 _) rfl inX9 (by decide) rfl wd_983 rfl ?_
        refine Ok.iload_n (pc' := 102) rfl dX9_holds_101 rfl ?_
        refine Ok.iald (pc' := 103) (z := h2.1 2 k5) dX9_holds_102 rfl (shM_2 _) (by decide) e5 q5 rfl ?_
        refine Ok.iconst (pc' := 104) in_3 dX9_holds_103 rfl ?_
        refine Ok.icmp_ne (tgt := 117) dX9_holds_104 rfl rfl (fun c9 => ?_) (fun c9 => ?_)
        · replace K := K.1 c9
          refine Ok.iconst (pc' := 118) in_1 dX9_holds_117 rfl ?_
          refine Ok.goto (tgt := 122) dX9_holds_118 rfl ?_
          exact Ok.iret dX9_holds_122 rfl (by decide) K
        · replace K := K.2 c9
          refine Ok.aload_n (pc' := 108) rfl dX9_holds_107 rfl ?_
          refine Ok.getR (pc' := 111) (k := 2) dX9_holds_108 rfl (shM_0 _) rfl inX9 (by decide) rfl wd_983 rfl ?_
          refine Ok.iload (pc' := 113) rfl dX9_holds_111 rfl ?_
          obtain ⟨k10, e10, q10, K⟩ := K
          refine Ok.iald (pc' := 114) (z := h2.1 2 k10) dX9_holds_113 rfl (shM_2 _) (by decide) e10 q10 rfl ?_
          refine Ok.if_eq (tgt := 121) dX9_holds_114 rfl rfl (fun c11 => ?_) (fun c11 => ?_)
          · replace K := K.1 c11
            refine Ok.iconst (pc' := 122) in_0 dX9_holds_121 rfl ?_
            exact Ok.iret dX9_holds_122 rfl (by decide) K
          · replace K := K.2 c11
            refine Ok.iconst (pc' := 118) in_1 dX9_holds_117 rfl ?_
            refine Ok.goto (tgt := 122) dX9_holds_118 rfl ?_
            exact Ok.iret dX9_holds_122 rfl (by decide) K
  · obtain rfl : 123 = tgt := by rw [c6] at ht; exact Int.ofNat.inj ht
    have K := Kc6_1 c6
    refine Ok.aload_n (pc' := 124) rfl dX9_holds_123 rfl ?_
    refine Ok.iload_n (pc' := 125) rfl dX9_holds_124 rfl ?_
    refine Ok.callV (pc' := 128) (av := [pI (h.1 3 k2)]) (rest := []) dX9_holds_125 rfl (by decide) cvX9_holds_275 (shM_0 _) rfl rfl rfl (leb rfl) (leb rfl) K (fun r3 h3 K => ?_)
    show Ok shM 0 0 mX9_holds 128 [some (pR 0), some (pI r), some (pI s0), some (pI (h.1 3 k2)), some (pI (h.1 3 k4))] [pI r3] h3 Post
    refine Ok.if_eq (tgt := 135) dX9_holds_128 rfl rfl (fun c7 => ?_) (fun c7 => ?_)
    · replace K := K.1 c7
      refine Ok.iconst (pc' := 136) in_0 dX9_holds_135 rfl ?_
      exact Ok.iret dX9_holds_136 rfl (by decide) K
    · replace K := K.2 c7
      refine Ok.iconst (pc' := 132) in_2 dX9_holds_131 rfl ?_
      refine Ok.goto (tgt := 136) dX9_holds_132 rfl ?_
      exact Ok.iret dX9_holds_136 rfl (by decide) K
  · obtain rfl : 160 = tgt := by rw [c6] at ht; exact Int.ofNat.inj ht
    have K := Kc6_2 c6
    refine Ok.aload_n (pc' := 161) rfl dX9_holds_160 rfl ?_
    refine Ok.iload_n (pc' := 162) rfl dX9_holds_161 rfl ?_
    refine Ok.callV (pc' := 165) (av := [pI (h.1 3 k2)]) (rest := []) dX9_holds_162 rfl (by decide) cvX9_holds_275 (shM_0 _) rfl rfl rfl (leb rfl) (leb rfl) K (fun r4 h4 K => ?_)
    show Ok shM 0 0 mX9_holds 165 [some (pR 0), some (pI r), some (pI s0), some (pI (h.1 3 k2)), some (pI (h.1 3 k4))] [pI r4] h4 Post
    refine Ok.if_ne (tgt := 178) dX9_holds_165 rfl rfl (fun c7 => ?_) (fun c7 => ?_)
    · replace K := K.1 c7
      refine Ok.iconst (pc' := 179) in_4 dX9_holds_178 rfl ?_
      refine Ok.goto (tgt := 197) dX9_holds_179 rfl ?_
      exact Ok.iret dX9_holds_197 rfl (by decide) K
    · replace K := K.2 c7
      refine Ok.aload_n (pc' := 169) rfl dX9_holds_168 rfl ?_
      refine Ok.getR (pc' := 172) (k := 1) dX9_holds_169 rfl (shM_0 _) rfl inX9 (by decide) rfl wd_982 rfl ?_
      refine Ok.iload_n (pc' := 173) rfl dX9_holds_172 rfl ?_
      obtain ⟨k8, e8, q8, K⟩ := K
      refine Ok.iald (pc' := 174) (z := h4.1 1 k8) dX9_holds_173 rfl (shM_1 _) (by decide) e8 q8 rfl ?_
      refine Ok.iconst (pc' := 175) in_1 dX9_holds_174 rfl ?_
      refine Ok.icmp_ne (tgt := 182) dX9_holds_175 rfl rfl (fun c9 => ?_) (fun c9 => ?_)
      · replace K := K.1 c9
        refine Ok.aload_n (pc' := 183) rfl dX9_holds_182 rfl ?_
        refine Ok.iload_n (pc' := 184) rfl dX9_holds_183 rfl ?_
        refine Ok.iload_n (pc' := 185) rfl dX9_holds_184 rfl ?_
        refine Ok.callV (pc' := 188) (av := [pI r, pI s0]) (rest := []) dX9_holds_185 rfl (by decide) cvX9_holds_281 (shM_0 _) rfl rfl rfl (leb rfl) (leb rfl) K (fun r5 h5 K => ?_)
        show Ok shM 0 0 mX9_holds 188 [some (pR 0), some (pI r), some (pI s0), some (pI (h.1 3 k2)), some (pI (h.1 3 k4))] [pI r5] h5 Post
        refine Ok.if_eq (tgt := 196) dX9_holds_188 rfl rfl (fun c10 => ?_) (fun c10 => ?_)
        · replace K := K.1 c10
          refine Ok.iconst (pc' := 197) in_0 dX9_holds_196 rfl ?_
          exact Ok.iret dX9_holds_197 rfl (by decide) K
        · replace K := K.2 c10
          refine Ok.bipush (pc' := 193) ⟨by decide, by decide⟩ dX9_holds_191 rfl ?_
          refine Ok.goto (tgt := 197) dX9_holds_193 rfl ?_
          exact Ok.iret dX9_holds_197 rfl (by decide) K
      · replace K := K.2 c9
        refine Ok.iconst (pc' := 179) in_4 dX9_holds_178 rfl ?_
        refine Ok.goto (tgt := 197) dX9_holds_179 rfl ?_
        exact Ok.iret dX9_holds_197 rfl (by decide) K
  · obtain rfl : 137 = tgt := by rw [c6] at ht; exact Int.ofNat.inj ht
    have K := Kc6_3 c6
    refine Ok.aload_n (pc' := 138) rfl dX9_holds_137 rfl ?_
    refine Ok.iload_n (pc' := 139) rfl dX9_holds_138 rfl ?_
    refine Ok.callV (pc' := 142) (av := [pI (h.1 3 k2)]) (rest := []) dX9_holds_139 rfl (by decide) cvX9_holds_275 (shM_0 _) rfl rfl rfl (leb rfl) (leb rfl) K (fun r6 h6 K => ?_)
    show Ok shM 0 0 mX9_holds 142 [some (pR 0), some (pI r), some (pI s0), some (pI (h.1 3 k2)), some (pI (h.1 3 k4))] [pI r6] h6 Post
    refine Ok.if_eq (tgt := 158) dX9_holds_142 rfl rfl (fun c7 => ?_) (fun c7 => ?_)
    · replace K := K.1 c7
      refine Ok.iconst (pc' := 159) in_0 dX9_holds_158 rfl ?_
      exact Ok.iret dX9_holds_159 rfl (by decide) K
    · replace K := K.2 c7
      refine Ok.aload_n (pc' := 146) rfl dX9_holds_145 rfl ?_
      refine Ok.getR (pc' := 149) (k := 2) dX9_holds_146 rfl (shM_0 _) rfl inX9 (by decide) rfl wd_983 rfl ?_
      refine Ok.iload_n (pc' := 150) rfl dX9_holds_149 rfl ?_
      obtain ⟨k8, e8, q8, K⟩ := K
      refine Ok.iald (pc' := 151) (z := h6.1 2 k8) dX9_holds_150 rfl (shM_2 _) (by decide) e8 q8 rfl ?_
      refine Ok.if_ne (tgt := 158) dX9_holds_151 rfl rfl (fun c9 => ?_) (fun c9 => ?_)
      · replace K := K.1 c9
        refine Ok.iconst (pc' := 159) in_0 dX9_holds_158 rfl ?_
        exact Ok.iret dX9_holds_159 rfl (by decide) K
      · replace K := K.2 c9
        refine Ok.iconst (pc' := 155) in_3 dX9_holds_154 rfl ?_
        refine Ok.goto (tgt := 159) dX9_holds_155 rfl ?_
        exact Ok.iret dX9_holds_159 rfl (by decide) K
  · obtain rfl : 198 = tgt := by rw [c6] at ht; exact Int.ofNat.inj ht
    have K := Kc6_4 c6
    refine Ok.aload_n (pc' := 199) rfl dX9_holds_198 rfl ?_
    refine Ok.iload_n (pc' := 200) rfl dX9_holds_199 rfl ?_
    refine Ok.callV (pc' := 203) (av := [pI s0]) (rest := []) dX9_holds_200 rfl (by decide) cvX9_holds_284 (shM_0 _) rfl rfl rfl (leb rfl) (leb rfl) K (fun r7 h7 K => ?_)
    show Ok shM 0 0 mX9_holds 203 [some (pR 0), some (pI r), some (pI s0), some (pI (h.1 3 k2)), some (pI (h.1 3 k4))] [pI r7] h7 Post
    refine Ok.if_eq (tgt := 210) dX9_holds_203 rfl rfl (fun c7 => ?_) (fun c7 => ?_)
    · replace K := K.1 c7
      refine Ok.iconst (pc' := 211) in_5 dX9_holds_210 rfl ?_
      exact Ok.iret dX9_holds_211 rfl (by decide) K
    · replace K := K.2 c7
      refine Ok.iconst (pc' := 207) in_0 dX9_holds_206 rfl ?_
      refine Ok.goto (tgt := 211) dX9_holds_207 rfl ?_
      exact Ok.iret dX9_holds_211 rfl (by decide) K
  · obtain rfl : 212 = tgt := by
      rcases c6 with q | q | q | q | q | q | q
      · rw [swT_out (Or.inl q)] at ht; exact Int.ofNat.inj ht
      · rw [swT_out (Or.inr q)] at ht; exact Int.ofNat.inj ht
      · rw [q] at ht; exact Int.ofNat.inj ht
      · rw [q] at ht; exact Int.ofNat.inj ht
      · rw [q] at ht; exact Int.ofNat.inj ht
      · rw [q] at ht; exact Int.ofNat.inj ht
      · rw [q] at ht; exact Int.ofNat.inj ht
    have K := Kc6_5 c6
    refine Ok.iconst (pc' := 213) in_0 dX9_holds_212 rfl ?_
    exact Ok.iret dX9_holds_213 rfl (by decide) K
theorem sX9_becomes_0 {s0 p : Int} {h : Hp} {Post : Int → Hp → Prop}
    (K : ∃ k1 : Nat, p = (k1 : Int) ∧ k1 < 600 ∧ (Ok shM 0 0 mX9_becomes 10 [some (pR 0), some (pI s0), some (pI p), some (pI (h.1 4 k1)), some (pI 0)] [] h Post)) :
    Cl shM mX9_becomes [pR 0, pI s0, pI p] h Post := by
  show Ok shM 0 0 mX9_becomes 0 [some (pR 0), some (pI s0), some (pI p), none, none] [] h Post
  refine Ok.aload_n (pc' := 1) rfl dX9_becomes_0 rfl ?_
  refine Ok.getR (pc' := 4) (k := 4) dX9_becomes_1 rfl (shM_0 _) rfl inX9 (by decide) rfl wd_985 rfl ?_
  refine Ok.iload_n (pc' := 5) rfl dX9_becomes_4 rfl ?_
  obtain ⟨k1, e1, q1, K⟩ := K
  refine Ok.iald (pc' := 6) (z := h.1 4 k1) dX9_becomes_5 rfl (shM_4 _) (by decide) e1 q1 rfl ?_
  refine Ok.istore_n (pc' := 7) (ls' := [some (pR 0), some (pI s0), some (pI p), some (pI (h.1 4 k1)), none]) dX9_becomes_6 rfl (by decide) rfl rfl ?_
  refine Ok.iconst (pc' := 8) in_0 dX9_becomes_7 rfl ?_
  refine Ok.istore (pc' := 10) (ls' := [some (pR 0), some (pI s0), some (pI p), some (pI (h.1 4 k1)), some (pI 0)]) dX9_becomes_8 rfl (by decide) rfl rfl ?_
  exact K
theorem sX9_becomes_10 {s0 p v3 v4 : Int} {h : Hp} {Post : Int → Hp → Prop}
    (K : ((3 ≤ v4) → Cl shM mX9_puts [pR 0, pI s0, pI p] h (fun _ h1 => Cl shM mX9_goesRest [pR 0, pI s0] h1 (fun _ h2 => Post 0 h2))) ∧ ((¬ 3 ≤ v4) → inR ((3 * v3)) ∧ (inR (((3 * v3) + v4)) ∧ (∃ k4 : Nat, ((3 * v3) + v4) = (k4 : Int) ∧ k4 < 1800 ∧ (((¬ h.1 3 k4 = p) → inR ((v4 + 1)) ∧ (Ok shM 0 0 mX9_becomes 10 [some (pR 0), some (pI s0), some (pI p), some (pI v3), some (pI (v4 + 1))] [] h Post)) ∧ ((h.1 3 k4 = p) → inR ((v4 + 1)) ∧ (Ok shM 0 0 mX9_becomes 10 [some (pR 0), some (pI s0), some (pI p), some (pI v3), some (pI (v4 + 1))] [] (hA h 3 k4 (-4)) Post))))))) :
    Ok shM 0 0 mX9_becomes 10 [some (pR 0), some (pI s0), some (pI p), some (pI v3), some (pI v4)] [] h Post := by
  show Ok shM 0 0 mX9_becomes 10 [some (pR 0), some (pI s0), some (pI p), some (pI v3), some (pI v4)] [] h Post
  refine Ok.iload (pc' := 12) rfl dX9_becomes_10 rfl ?_
  refine Ok.iconst (pc' := 13) in_3 dX9_becomes_12 rfl ?_
  refine Ok.icmp_ge (tgt := 50) dX9_becomes_13 rfl rfl (fun c1 => ?_) (fun c1 => ?_)
  · replace K := K.1 c1
    refine Ok.aload_n (pc' := 51) rfl dX9_becomes_50 rfl ?_
    refine Ok.iload_n (pc' := 52) rfl dX9_becomes_51 rfl ?_
    refine Ok.iload_n (pc' := 53) rfl dX9_becomes_52 rfl ?_
    refine Ok.callV (pc' := 56) (av := [pI s0, pI p]) (rest := []) dX9_becomes_53 rfl (by decide) cvX9_becomes_269 (shM_0 _) rfl rfl rfl (leb rfl) (leb rfl) K (fun r_ h1 K => ?_)
    show Ok shM 0 0 mX9_becomes 56 [some (pR 0), some (pI s0), some (pI p), some (pI v3), some (pI v4)] [] h1 Post
    refine Ok.aload_n (pc' := 57) rfl dX9_becomes_56 rfl ?_
    refine Ok.iload_n (pc' := 58) rfl dX9_becomes_57 rfl ?_
    refine Ok.callV (pc' := 61) (av := [pI s0]) (rest := []) dX9_becomes_58 rfl (by decide) cvX9_becomes_287 (shM_0 _) rfl rfl rfl (leb rfl) (leb rfl) K (fun r_ h2 K => ?_)
    show Ok shM 0 0 mX9_becomes 61 [some (pR 0), some (pI s0), some (pI p), some (pI v3), some (pI v4)] [] h2 Post
    exact Ok.vret dX9_becomes_61 rfl (by decide) K
  · replace K := K.2 c1
    refine Ok.aload_n (pc' := 17) rfl dX9_becomes_16 rfl ?_
    refine Ok.getR (pc' := 20) (k := 3) dX9_becomes_17 rfl (shM_0 _) rfl inX9 (by decide) rfl wd_984 rfl ?_
    refine Ok.iconst (pc' := 21) in_3 dX9_becomes_20 rfl ?_
    refine Ok.iload_n (pc' := 22) rfl dX9_becomes_21 rfl ?_
    obtain ⟨q2, K⟩ := K
    refine Ok.imul (pc' := 23) dX9_becomes_22 rfl q2 ?_
    refine Ok.iload (pc' := 25) rfl dX9_becomes_23 rfl ?_
    obtain ⟨q3, K⟩ := K
    refine Ok.iadd (pc' := 26) dX9_becomes_25 rfl q3 ?_
    obtain ⟨k4, e4, q4, K⟩ := K
    refine Ok.iald (pc' := 27) (z := h.1 3 k4) dX9_becomes_26 rfl (shM_3 _) (by decide) e4 q4 rfl ?_
    refine Ok.iload_n (pc' := 28) rfl dX9_becomes_27 rfl ?_
    refine Ok.icmp_ne (tgt := 44) dX9_becomes_28 rfl rfl (fun c5 => ?_) (fun c5 => ?_)
    · replace K := K.1 c5
      obtain ⟨q6, K⟩ := K
      refine Ok.iinc (pc' := 47) (ls' := [some (pR 0), some (pI s0), some (pI p), some (pI v3), some (pI (v4 + 1))]) dX9_becomes_44 rfl rfl (by decide) rfl rfl q6 ?_
      refine Ok.goto (tgt := 10) dX9_becomes_47 rfl ?_
      exact K
    · replace K := K.2 c5
      refine Ok.aload_n (pc' := 32) rfl dX9_becomes_31 rfl ?_
      refine Ok.getR (pc' := 35) (k := 3) dX9_becomes_32 rfl (shM_0 _) rfl inX9 (by decide) rfl wd_984 rfl ?_
      refine Ok.iconst (pc' := 36) in_3 dX9_becomes_35 rfl ?_
      refine Ok.iload_n (pc' := 37) rfl dX9_becomes_36 rfl ?_
      refine Ok.imul (pc' := 38) dX9_becomes_37 rfl q2 ?_
      refine Ok.iload (pc' := 40) rfl dX9_becomes_38 rfl ?_
      refine Ok.iadd (pc' := 41) dX9_becomes_40 rfl q3 ?_
      refine Ok.bipush (pc' := 43) ⟨by decide, by decide⟩ dX9_becomes_41 rfl ?_
      refine Ok.iast (pc' := 44) dX9_becomes_43 rfl (shM_3 _) (by decide) e4 q4 ?_
      obtain ⟨q6, K⟩ := K
      refine Ok.iinc (pc' := 47) (ls' := [some (pR 0), some (pI s0), some (pI p), some (pI v3), some (pI (v4 + 1))]) dX9_becomes_44 rfl rfl (by decide) rfl rfl q6 ?_
      refine Ok.goto (tgt := 10) dX9_becomes_47 rfl ?_
      exact K
theorem sX9_goesRest_0 {root : Int} {h : Hp} {Post : Int → Hp → Prop}
    (K : Ok shM 0 0 mX9_goesRest 9 [some (pR 0), none, some (pI 1), none, none, none] [] (hA h 11 0 root) Post) :
    Cl shM mX9_goesRest [pR 0, pI root] h Post := by
  show Ok shM 0 0 mX9_goesRest 0 [some (pR 0), some (pI root), none, none, none, none] [] h Post
  refine Ok.iconst (pc' := 1) in_1 dX9_goesRest_0 rfl ?_
  refine Ok.istore_n (pc' := 2) (ls' := [some (pR 0), some (pI root), some (pI 1), none, none, none]) dX9_goesRest_1 rfl (by decide) rfl rfl ?_
  refine Ok.aload_n (pc' := 3) rfl dX9_goesRest_2 rfl ?_
  refine Ok.getR (pc' := 6) (k := 12) dX9_goesRest_3 rfl (shM_0 _) rfl inX9 (by decide) rfl wd_993 rfl ?_
  refine Ok.iconst (pc' := 7) in_0 dX9_goesRest_6 rfl ?_
  refine Ok.iload_n (pc' := 8) rfl dX9_goesRest_7 rfl ?_
  refine Ok.iast (pc' := 9) dX9_goesRest_8 rfl (shM_11 _) (by decide) rfl (by decide) ?_
  exact Ok.fl (ls' := [some (pR 0), none, some (pI 1), none, none, none]) K ⟨rfl, rfl, trivial⟩
theorem sX9_goesRest_9 {v2 : Int} {h : Hp} {Post : Int → Hp → Prop}
    (K : ((v2 ≤ 0) → Post 0 h) ∧ ((¬ v2 ≤ 0) → inR ((v2 + (-1))) ∧ (∃ k3 : Nat, (v2 + (-1)) = (k3 : Int) ∧ k3 < 1300 ∧ (Cl shM mX9_partsOf [pR 0, pI (h.1 11 k3)] h (fun r1 h1 => Ok shM 0 0 mX9_goesRest 33 [some (pR 0), none, some (pI (v2 + (-1))), some (pI (h.1 11 k3)), some (pI r1), some (pI 0)] [] h1 Post))))) :
    Ok shM 0 0 mX9_goesRest 9 [some (pR 0), none, some (pI v2), none, none, none] [] h Post := by
  show Ok shM 0 0 mX9_goesRest 9 [some (pR 0), none, some (pI v2), none, none, none] [] h Post
  refine Ok.iload_n (pc' := 10) rfl dX9_goesRest_9 rfl ?_
  refine Ok.if_le (tgt := 90) dX9_goesRest_10 rfl rfl (fun c1 => ?_) (fun c1 => ?_)
  · replace K := K.1 c1
    exact Ok.vret dX9_goesRest_90 rfl (by decide) K
  · replace K := K.2 c1
    obtain ⟨q2, K⟩ := K
    refine Ok.iinc (pc' := 16) (ls' := [some (pR 0), none, some (pI (v2 + (-1))), none, none, none]) dX9_goesRest_13 rfl rfl (by decide) rfl rfl q2 ?_
    refine Ok.aload_n (pc' := 17) rfl dX9_goesRest_16 rfl ?_
    refine Ok.getR (pc' := 20) (k := 12) dX9_goesRest_17 rfl (shM_0 _) rfl inX9 (by decide) rfl wd_993 rfl ?_
    refine Ok.iload_n (pc' := 21) rfl dX9_goesRest_20 rfl ?_
    obtain ⟨k3, e3, q3, K⟩ := K
    refine Ok.iald (pc' := 22) (z := h.1 11 k3) dX9_goesRest_21 rfl (shM_11 _) (by decide) e3 q3 rfl ?_
    refine Ok.istore_n (pc' := 23) (ls' := [some (pR 0), none, some (pI (v2 + (-1))), some (pI (h.1 11 k3)), none, none]) dX9_goesRest_22 rfl (by decide) rfl rfl ?_
    refine Ok.aload_n (pc' := 24) rfl dX9_goesRest_23 rfl ?_
    refine Ok.iload_n (pc' := 25) rfl dX9_goesRest_24 rfl ?_
    refine Ok.callV (pc' := 28) (av := [pI (h.1 11 k3)]) (rest := []) dX9_goesRest_25 rfl (by decide) cvX9_goesRest_96 (shM_0 _) rfl rfl rfl (leb rfl) (leb rfl) K (fun r1 h1 K => ?_)
    show Ok shM 0 0 mX9_goesRest 28 [some (pR 0), none, some (pI (v2 + (-1))), some (pI (h.1 11 k3)), none, none] [pI r1] h1 Post
    refine Ok.istore (pc' := 30) (ls' := [some (pR 0), none, some (pI (v2 + (-1))), some (pI (h.1 11 k3)), some (pI r1), none]) dX9_goesRest_28 rfl (by decide) rfl rfl ?_
    refine Ok.iconst (pc' := 31) in_0 dX9_goesRest_30 rfl ?_
    refine Ok.istore (pc' := 33) (ls' := [some (pR 0), none, some (pI (v2 + (-1))), some (pI (h.1 11 k3)), some (pI r1), some (pI 0)]) dX9_goesRest_31 rfl (by decide) rfl rfl ?_
    exact K
theorem sX9_goesRest_33 {v2 v3 v4 v5 : Int} {h : Hp} {Post : Int → Hp → Prop}
    (K : ((v4 ≤ v5) → Cl shM mX9_goneAlone [pR 0, pI v3] h (fun _ h1 => Ok shM 0 0 mX9_goesRest 9 [some (pR 0), none, some (pI v2), none, none, none] [] h1 Post)) ∧ ((¬ v4 ≤ v5) → inR ((3 * v3)) ∧ (inR (((3 * v3) + v5)) ∧ (∃ k4 : Nat, ((3 * v3) + v5) = (k4 : Int) ∧ k4 < 1800 ∧ (((h.1 3 k4 = (-4)) → inR ((v5 + 1)) ∧ (Ok shM 0 0 mX9_goesRest 33 [some (pR 0), none, some (pI v2), some (pI v3), some (pI v4), some (pI (v5 + 1))] [] h Post)) ∧ ((¬ h.1 3 k4 = (-4)) → ∃ k6 : Nat, v2 = (k6 : Int) ∧ k6 < 1300 ∧ (inR ((v2 + 1)) ∧ (inR ((v5 + 1)) ∧ (Ok shM 0 0 mX9_goesRest 33 [some (pR 0), none, some (pI (v2 + 1)), some (pI v3), some (pI v4), some (pI (v5 + 1))] [] (hA h 11 k6 (h.1 3 k4)) Post))))))))) :
    Ok shM 0 0 mX9_goesRest 33 [some (pR 0), none, some (pI v2), some (pI v3), some (pI v4), some (pI v5)] [] h Post := by
  show Ok shM 0 0 mX9_goesRest 33 [some (pR 0), none, some (pI v2), some (pI v3), some (pI v4), some (pI v5)] [] h Post
  refine Ok.iload (pc' := 35) rfl dX9_goesRest_33 rfl ?_
  refine Ok.iload (pc' := 37) rfl dX9_goesRest_35 rfl ?_
  refine Ok.icmp_ge (tgt := 82) dX9_goesRest_37 rfl rfl (fun c1 => ?_) (fun c1 => ?_)
  · replace K := K.1 c1
    refine Ok.aload_n (pc' := 83) rfl dX9_goesRest_82 rfl ?_
    refine Ok.iload_n (pc' := 84) rfl dX9_goesRest_83 rfl ?_
    refine Ok.callV (pc' := 87) (av := [pI v3]) (rest := []) dX9_goesRest_84 rfl (by decide) cvX9_goesRest_272 (shM_0 _) rfl rfl rfl (leb rfl) (leb rfl) K (fun r_ h1 K => ?_)
    show Ok shM 0 0 mX9_goesRest 87 [some (pR 0), none, some (pI v2), some (pI v3), some (pI v4), some (pI v5)] [] h1 Post
    refine Ok.goto (tgt := 9) dX9_goesRest_87 rfl ?_
    exact Ok.fl (ls' := [some (pR 0), none, some (pI v2), none, none, none]) K ⟨rfl, rfl, trivial⟩
  · replace K := K.2 c1
    refine Ok.aload_n (pc' := 41) rfl dX9_goesRest_40 rfl ?_
    refine Ok.getR (pc' := 44) (k := 3) dX9_goesRest_41 rfl (shM_0 _) rfl inX9 (by decide) rfl wd_984 rfl ?_
    refine Ok.iconst (pc' := 45) in_3 dX9_goesRest_44 rfl ?_
    refine Ok.iload_n (pc' := 46) rfl dX9_goesRest_45 rfl ?_
    obtain ⟨q2, K⟩ := K
    refine Ok.imul (pc' := 47) dX9_goesRest_46 rfl q2 ?_
    refine Ok.iload (pc' := 49) rfl dX9_goesRest_47 rfl ?_
    obtain ⟨q3, K⟩ := K
    refine Ok.iadd (pc' := 50) dX9_goesRest_49 rfl q3 ?_
    obtain ⟨k4, e4, q4, K⟩ := K
    refine Ok.iald (pc' := 51) (z := h.1 3 k4) dX9_goesRest_50 rfl (shM_3 _) (by decide) e4 q4 rfl ?_
    refine Ok.bipush (pc' := 53) ⟨by decide, by decide⟩ dX9_goesRest_51 rfl ?_
    refine Ok.icmp_eq (tgt := 76) dX9_goesRest_53 rfl rfl (fun c5 => ?_) (fun c5 => ?_)
    · replace K := K.1 c5
      obtain ⟨q6, K⟩ := K
      refine Ok.iinc (pc' := 79) (ls' := [some (pR 0), none, some (pI v2), some (pI v3), some (pI v4), some (pI (v5 + 1))]) dX9_goesRest_76 rfl rfl (by decide) rfl rfl q6 ?_
      refine Ok.goto (tgt := 33) dX9_goesRest_79 rfl ?_
      exact K
    · replace K := K.2 c5
      refine Ok.aload_n (pc' := 57) rfl dX9_goesRest_56 rfl ?_
      refine Ok.getR (pc' := 60) (k := 12) dX9_goesRest_57 rfl (shM_0 _) rfl inX9 (by decide) rfl wd_993 rfl ?_
      refine Ok.iload_n (pc' := 61) rfl dX9_goesRest_60 rfl ?_
      refine Ok.aload_n (pc' := 62) rfl dX9_goesRest_61 rfl ?_
      refine Ok.getR (pc' := 65) (k := 3) dX9_goesRest_62 rfl (shM_0 _) rfl inX9 (by decide) rfl wd_984 rfl ?_
      refine Ok.iconst (pc' := 66) in_3 dX9_goesRest_65 rfl ?_
      refine Ok.iload_n (pc' := 67) rfl dX9_goesRest_66 rfl ?_
      refine Ok.imul (pc' := 68) dX9_goesRest_67 rfl q2 ?_
      refine Ok.iload (pc' := 70) rfl dX9_goesRest_68 rfl ?_
      refine Ok.iadd (pc' := 71) dX9_goesRest_70 rfl q3 ?_
      refine Ok.iald (pc' := 72) (z := h.1 3 k4) dX9_goesRest_71 rfl (shM_3 _) (by decide) e4 q4 rfl ?_
      obtain ⟨k6, e6, q6, K⟩ := K
      refine Ok.iast (pc' := 73) dX9_goesRest_72 rfl (shM_11 _) (by decide) e6 q6 ?_
      obtain ⟨q7, K⟩ := K
      refine Ok.iinc (pc' := 76) (ls' := [some (pR 0), none, some (pI (v2 + 1)), some (pI v3), some (pI v4), some (pI v5)]) dX9_goesRest_73 rfl rfl (by decide) rfl rfl q7 ?_
      obtain ⟨q8, K⟩ := K
      refine Ok.iinc (pc' := 79) (ls' := [some (pR 0), none, some (pI (v2 + 1)), some (pI v3), some (pI v4), some (pI (v5 + 1))]) dX9_goesRest_76 rfl rfl (by decide) rfl rfl q8 ?_
      refine Ok.goto (tgt := 33) dX9_goesRest_79 rfl ?_
      exact K
theorem sX9_isRoomFor_0 {n : Int} {h : Hp} {Post : Int → Hp → Prop}
    (K : inR ((h.2.1 0 0 + n)) ∧ (((600 < (h.2.1 0 0 + n)) → Post 0 h) ∧ ((¬ 600 < (h.2.1 0 0 + n)) → Post 1 h))) :
    Cl shM mX9_isRoomFor [pR 0, pI n] h Post := by
  show Ok shM 0 0 mX9_isRoomFor 0 [some (pR 0), some (pI n)] [] h Post
  refine Ok.aload_n (pc' := 1) rfl dX9_isRoomFor_0 rfl ?_
  refine Ok.getI (pc' := 4) (z := h.2.1 0 0) (k := 0) dX9_isRoomFor_1 rfl (shM_0 _) rfl inX9 (by decide) rfl rfl wd_981 rfl ?_
  refine Ok.iload_n (pc' := 5) rfl dX9_isRoomFor_4 rfl ?_
  obtain ⟨q1, K⟩ := K
  refine Ok.iadd (pc' := 6) dX9_isRoomFor_5 rfl q1 ?_
  refine Ok.sipush (pc' := 9) ⟨by decide, by decide⟩ dX9_isRoomFor_6 rfl ?_
  refine Ok.icmp_gt (tgt := 16) dX9_isRoomFor_9 rfl rfl (fun c2 => ?_) (fun c2 => ?_)
  · replace K := K.1 c2
    refine Ok.iconst (pc' := 17) in_0 dX9_isRoomFor_16 rfl ?_
    exact Ok.zret dX9_isRoomFor_17 rfl (by decide) (Or.inl rfl) K
  · replace K := K.2 c2
    refine Ok.iconst (pc' := 13) in_1 dX9_isRoomFor_12 rfl ?_
    refine Ok.goto (tgt := 17) dX9_isRoomFor_13 rfl ?_
    exact Ok.zret dX9_isRoomFor_17 rfl (by decide) (Or.inr rfl) K
theorem sX9_works_0 {how s0 : Int} {h : Hp} {Post : Int → Hp → Prop}
    (K : ((how = 1) → Cl shM mX9_isRoomFor [pR 0, pI 1] h (fun r1 h1 => ((¬ r1 = 0) → inR ((3 * s0)) ∧ (∃ k4 : Nat, (3 * s0) = (k4 : Int) ∧ k4 < 1800 ∧ (((¬ how = 3) → ∃ k6 : Nat, s0 = (k6 : Int) ∧ k6 < 600 ∧ (∃ k7 : Nat, h1.1 3 k4 = (k7 : Int) ∧ k7 < 600 ∧ (inR (((3 * s0) + 1)) ∧ (∃ k9 : Nat, ((3 * s0) + 1) = (k9 : Int) ∧ k9 < 1800 ∧ (∃ k10 : Nat, h1.1 3 k9 = (k10 : Int) ∧ k10 < 600 ∧ (Cl shM mX9_worked [pI (h1.1 2 k6), pI (h1.1 2 k7), pI (h1.1 2 k10)] h1 (fun r2 h2 => Cl shM mX9_make [pR 0, pI 0, pI r2] h2 (fun r3 h3 => Cl shM mX9_puts [pR 0, pI s0, pI r3] h3 (fun _ h4 => Cl shM mX9_goesRest [pR 0, pI s0] h4 (fun _ h5 => Post 1 h5)))))))))) ∧ ((how = 3) → Cl shM mX9_make [pR 0, pI 0, pI 0] h1 (fun r6 h6 => Cl shM mX9_puts [pR 0, pI s0, pI r6] h6 (fun _ h7 => Cl shM mX9_goesRest [pR 0, pI s0] h7 (fun _ h8 => Post 1 h8))))))) ∧ ((r1 = 0) → Post 0 h1))) ∧ ((¬ how = 1) → ((¬ how = 3) → ((¬ how = 6) → ((¬ how = 2) → ((¬ how = 4) → inR ((3 * s0)) ∧ (∃ k7 : Nat, (3 * s0) = (k7 : Int) ∧ k7 < 1800 ∧ (Cl shM mX9_becomes [pR 0, pI s0, pI (h.1 3 k7)] h (fun _ h9 => Post 1 h9)))) ∧ ((how = 4) → inR ((3 * s0)) ∧ (inR (((3 * s0) + 1)) ∧ (∃ k8 : Nat, ((3 * s0) + 1) = (k8 : Int) ∧ k8 < 1800 ∧ (Cl shM mX9_becomes [pR 0, pI s0, pI (h.1 3 k8)] h (fun _ h10 => Post 1 h10)))))) ∧ ((how = 2) → inR ((3 * s0)) ∧ (∃ k6 : Nat, (3 * s0) = (k6 : Int) ∧ k6 < 1800 ∧ (∃ k7 : Nat, h.1 3 k6 = (k7 : Int) ∧ k7 < 600 ∧ (((h.1 2 k7 = 0) → inR (((3 * s0) + 2)) ∧ (∃ k10 : Nat, ((3 * s0) + 2) = (k10 : Int) ∧ k10 < 1800 ∧ (Cl shM mX9_becomes [pR 0, pI s0, pI (h.1 3 k10)] h (fun _ h11 => Post 1 h11)))) ∧ ((¬ h.1 2 k7 = 0) → inR (((3 * s0) + 1)) ∧ (∃ k10 : Nat, ((3 * s0) + 1) = (k10 : Int) ∧ k10 < 1800 ∧ (Cl shM mX9_becomes [pR 0, pI s0, pI (h.1 3 k10)] h (fun _ h12 => Post 1 h12))))))))) ∧ ((how = 6) → inR ((3 * s0)) ∧ (∃ k5 : Nat, (3 * s0) = (k5 : Int) ∧ k5 < 1800 ∧ (inR (((3 * s0) + 1)) ∧ (∃ k7 : Nat, ((3 * s0) + 1) = (k7 : Int) ∧ k7 < 1800 ∧ (∃ k8 : Nat, h.1 3 k5 = (k8 : Int) ∧ k8 < 600 ∧ (inR ((3 * h.1 3 k5)) ∧ (∃ k10 : Nat, (3 * h.1 3 k5) = (k10 : Int) ∧ k10 < 1800 ∧ (∃ k11 : Nat, h.1 3 k10 = (k11 : Int) ∧ k11 < 600 ∧ (Cl shM mX9_howMany [pR 0, pI (h.1 3 k7), pI 1, pI (h.1 2 k8)] h (fun r13 h13 => Cl shM mX9_isRoomFor [pR 0, pI r13] h13 (fun r14 h14 => ((¬ r14 = 0) → Cl shM mX9_becomes [pR 0, pI s0, pI (h.1 3 k7)] h14 (fun _ h15 => Cl shM mX9_names [pR 0, pI (h.1 3 k7), pI (h.1 2 k8), pI (h.1 2 k11)] h15 (fun _ h16 => Post 1 h16))) ∧ ((r14 = 0) → Post 0 h14))))))))))))) ∧ ((how = 3) → Cl shM mX9_isRoomFor [pR 0, pI 1] h (fun r17 h17 => ((¬ r17 = 0) → inR ((3 * s0)) ∧ (∃ k5 : Nat, (3 * s0) = (k5 : Int) ∧ k5 < 1800 ∧ (Cl shM mX9_make [pR 0, pI 0, pI 0] h17 (fun r18 h18 => Cl shM mX9_puts [pR 0, pI s0, pI r18] h18 (fun _ h19 => Cl shM mX9_goesRest [pR 0, pI s0] h19 (fun _ h20 => Post 1 h20)))))) ∧ ((r17 = 0) → Post 0 h17))))) :
    Cl shM mX9_works [pR 0, pI how, pI s0] h Post := by
  show Ok shM 0 0 mX9_works 0 [some (pR 0), some (pI how), some (pI s0), none, none, none, none] [] h Post
  refine Ok.iload_n (pc' := 1) rfl dX9_works_0 rfl ?_
  refine Ok.iconst (pc' := 2) in_1 dX9_works_1 rfl ?_
  refine Ok.icmp_eq (tgt := 10) dX9_works_2 rfl rfl (fun c1 => ?_) (fun c1 => ?_)
  · replace K := K.1 c1
    refine Ok.aload_n (pc' := 11) rfl dX9_works_10 rfl ?_
    refine Ok.iconst (pc' := 12) in_1 dX9_works_11 rfl ?_
    refine Ok.callV (pc' := 15) (av := [pI 1]) (rest := []) dX9_works_12 rfl (by decide) cvX9_works_290 (shM_0 _) rfl rfl rfl (leb rfl) (leb rfl) K (fun r1 h1 K => ?_)
    show Ok shM 0 0 mX9_works 15 [some (pR 0), some (pI how), some (pI s0), none, none, none, none] [pI r1] h1 Post
    refine Ok.if_ne (tgt := 20) dX9_works_15 rfl rfl (fun c2 => ?_) (fun c2 => ?_)
    · replace K := K.1 c2
      refine Ok.aload_n (pc' := 21) rfl dX9_works_20 rfl ?_
      refine Ok.getR (pc' := 24) (k := 3) dX9_works_21 rfl (shM_0 _) rfl inX9 (by decide) rfl wd_984 rfl ?_
      refine Ok.iconst (pc' := 25) in_3 dX9_works_24 rfl ?_
      refine Ok.iload_n (pc' := 26) rfl dX9_works_25 rfl ?_
      obtain ⟨q3, K⟩ := K
      refine Ok.imul (pc' := 27) dX9_works_26 rfl q3 ?_
      obtain ⟨k4, e4, q4, K⟩ := K
      refine Ok.iald (pc' := 28) (z := h1.1 3 k4) dX9_works_27 rfl (shM_3 _) (by decide) e4 q4 rfl ?_
      refine Ok.istore_n (pc' := 29) (ls' := [some (pR 0), some (pI how), some (pI s0), some (pI (h1.1 3 k4)), none, none, none]) dX9_works_28 rfl (by decide) rfl rfl ?_
      refine Ok.aload_n (pc' := 30) rfl dX9_works_29 rfl ?_
      refine Ok.iconst (pc' := 31) in_0 dX9_works_30 rfl ?_
      refine Ok.iload_n (pc' := 32) rfl dX9_works_31 rfl ?_
      refine Ok.iconst (pc' := 33) in_3 dX9_works_32 rfl ?_
      refine Ok.icmp_ne (tgt := 40) dX9_works_33 rfl rfl (fun c5 => ?_) (fun c5 => ?_)
      · replace K := K.1 c5
        refine Ok.aload_n (pc' := 41) rfl dX9_works_40 rfl ?_
        refine Ok.getR (pc' := 44) (k := 2) dX9_works_41 rfl (shM_0 _) rfl inX9 (by decide) rfl wd_983 rfl ?_
        refine Ok.iload_n (pc' := 45) rfl dX9_works_44 rfl ?_
        obtain ⟨k6, e6, q6, K⟩ := K
        refine Ok.iald (pc' := 46) (z := h1.1 2 k6) dX9_works_45 rfl (shM_2 _) (by decide) e6 q6 rfl ?_
        refine Ok.aload_n (pc' := 47) rfl dX9_works_46 rfl ?_
        refine Ok.getR (pc' := 50) (k := 2) dX9_works_47 rfl (shM_0 _) rfl inX9 (by decide) rfl wd_983 rfl ?_
        refine Ok.iload_n (pc' := 51) rfl dX9_works_50 rfl ?_
        obtain ⟨k7, e7, q7, K⟩ := K
        refine Ok.iald (pc' := 52) (z := h1.1 2 k7) dX9_works_51 rfl (shM_2 _) (by decide) e7 q7 rfl ?_
        refine Ok.aload_n (pc' := 53) rfl dX9_works_52 rfl ?_
        refine Ok.getR (pc' := 56) (k := 2) dX9_works_53 rfl (shM_0 _) rfl inX9 (by decide) rfl wd_983 rfl ?_
        refine Ok.aload_n (pc' := 57) rfl dX9_works_56 rfl ?_
        refine Ok.getR (pc' := 60) (k := 3) dX9_works_57 rfl (shM_0 _) rfl inX9 (by decide) rfl wd_984 rfl ?_
        refine Ok.iconst (pc' := 61) in_3 dX9_works_60 rfl ?_
        refine Ok.iload_n (pc' := 62) rfl dX9_works_61 rfl ?_
        refine Ok.imul (pc' := 63) dX9_works_62 rfl q3 ?_
        refine Ok.iconst (pc' := 64) in_1 dX9_works_63 rfl ?_
        obtain ⟨q8, K⟩ := K
        refine Ok.iadd (pc' := 65) dX9_works_64 rfl q8 ?_
        obtain ⟨k9, e9, q9, K⟩ := K
        refine Ok.iald (pc' := 66) (z := h1.1 3 k9) dX9_works_65 rfl (shM_3 _) (by decide) e9 q9 rfl ?_
        obtain ⟨k10, e10, q10, K⟩ := K
        refine Ok.iald (pc' := 67) (z := h1.1 2 k10) dX9_works_66 rfl (shM_2 _) (by decide) e10 q10 rfl ?_
        refine Ok.callS (pc' := 70) (av := [pI (h1.1 2 k6), pI (h1.1 2 k7), pI (h1.1 2 k10)]) (rest := [pI 0, pR 0]) dX9_works_67 rfl (by decide) cvX9_works_224 rfl rfl (leb rfl) (leb rfl) K (fun r2 h2 K => ?_)
        show Ok shM 0 0 mX9_works 70 [some (pR 0), some (pI how), some (pI s0), some (pI (h1.1 3 k4)), none, none, none] [pI r2, pI 0, pR 0] h2 Post
        refine Ok.callV (pc' := 73) (av := [pI 0, pI r2]) (rest := []) dX9_works_70 rfl (by decide) cvX9_works_123 (shM_0 _) rfl rfl rfl (leb rfl) (leb rfl) K (fun r3 h3 K => ?_)
        show Ok shM 0 0 mX9_works 73 [some (pR 0), some (pI how), some (pI s0), some (pI (h1.1 3 k4)), none, none, none] [pI r3] h3 Post
        refine Ok.istore (pc' := 75) (ls' := [some (pR 0), some (pI how), some (pI s0), some (pI (h1.1 3 k4)), some (pI r3), none, none]) dX9_works_73 rfl (by decide) rfl rfl ?_
        refine Ok.aload_n (pc' := 76) rfl dX9_works_75 rfl ?_
        refine Ok.iload_n (pc' := 77) rfl dX9_works_76 rfl ?_
        refine Ok.iload (pc' := 79) rfl dX9_works_77 rfl ?_
        refine Ok.callV (pc' := 82) (av := [pI s0, pI r3]) (rest := []) dX9_works_79 rfl (by decide) cvX9_works_269 (shM_0 _) rfl rfl rfl (leb rfl) (leb rfl) K (fun r_ h4 K => ?_)
        show Ok shM 0 0 mX9_works 82 [some (pR 0), some (pI how), some (pI s0), some (pI (h1.1 3 k4)), some (pI r3), none, none] [] h4 Post
        refine Ok.aload_n (pc' := 83) rfl dX9_works_82 rfl ?_
        refine Ok.iload_n (pc' := 84) rfl dX9_works_83 rfl ?_
        refine Ok.callV (pc' := 87) (av := [pI s0]) (rest := []) dX9_works_84 rfl (by decide) cvX9_works_287 (shM_0 _) rfl rfl rfl (leb rfl) (leb rfl) K (fun r_ h5 K => ?_)
        show Ok shM 0 0 mX9_works 87 [some (pR 0), some (pI how), some (pI s0), some (pI (h1.1 3 k4)), some (pI r3), none, none] [] h5 Post
        refine Ok.iconst (pc' := 88) in_1 dX9_works_87 rfl ?_
        exact Ok.zret dX9_works_88 rfl (by decide) (Or.inr rfl) K
      · replace K := K.2 c5
        refine Ok.iconst (pc' := 37) in_0 dX9_works_36 rfl ?_
        refine Ok.goto (tgt := 70) dX9_works_37 rfl ?_
        refine Ok.callV (pc' := 73) (av := [pI 0, pI 0]) (rest := []) dX9_works_70 rfl (by decide) cvX9_works_123 (shM_0 _) rfl rfl rfl (leb rfl) (leb rfl) K (fun r6 h6 K => ?_)
        show Ok shM 0 0 mX9_works 73 [some (pR 0), some (pI how), some (pI s0), some (pI (h1.1 3 k4)), none, none, none] [pI r6] h6 Post
        refine Ok.istore (pc' := 75) (ls' := [some (pR 0), some (pI how), some (pI s0), some (pI (h1.1 3 k4)), some (pI r6), none, none]) dX9_works_73 rfl (by decide) rfl rfl ?_
        refine Ok.aload_n (pc' := 76) rfl dX9_works_75 rfl ?_
        refine Ok.iload_n (pc' := 77) rfl dX9_works_76 rfl ?_
        refine Ok.iload (pc' := 79) rfl dX9_works_77 rfl ?_
        refine Ok.callV (pc' := 82) (av := [pI s0, pI r6]) (rest := []) dX9_works_79 rfl (by decide) cvX9_works_269 (shM_0 _) rfl rfl rfl (leb rfl) (leb rfl) K (fun r_ h7 K => ?_)
        show Ok shM 0 0 mX9_works 82 [some (pR 0), some (pI how), some (pI s0), some (pI (h1.1 3 k4)), some (pI r6), none, none] [] h7 Post
        refine Ok.aload_n (pc' := 83) rfl dX9_works_82 rfl ?_
        refine Ok.iload_n (pc' := 84) rfl dX9_works_83 rfl ?_
        refine Ok.callV (pc' := 87) (av := [pI s0]) (rest := []) dX9_works_84 rfl (by decide) cvX9_works_287 (shM_0 _) rfl rfl rfl (leb rfl) (leb rfl) K (fun r_ h8 K => ?_)
        show Ok shM 0 0 mX9_works 87 [some (pR 0), some (pI how), some (pI s0), some (pI (h1.1 3 k4)), some (pI r6), none, none] [] h8 Post
        refine Ok.iconst (pc' := 88) in_1 dX9_works_87 rfl ?_
        exact Ok.zret dX9_works_88 rfl (by decide) (Or.inr rfl) K
    · replace K := K.2 c2
      refine Ok.iconst (pc' := 19) in_0 dX9_works_18 rfl ?_
      exact Ok.zret dX9_works_19 rfl (by decide) (Or.inl rfl) K
  · replace K := K.2 c1
    refine Ok.iload_n (pc' := 6) rfl dX9_works_5 rfl ?_
    refine Ok.iconst (pc' := 7) in_3 dX9_works_6 rfl ?_
    refine Ok.icmp_ne (tgt := 89) dX9_works_7 rfl rfl (fun c2 => ?_) (fun c2 => ?_)
    · replace K := K.1 c2
      refine Ok.iload_n (pc' := 90) rfl dX9_works_89 rfl ?_
      refine Ok.bipush (pc' := 92) ⟨by decide, by decide⟩ dX9_works_90 rfl ?_
      refine Ok.icmp_ne (tgt := 176) dX9_works_92 rfl rfl (fun c3 => ?_) (fun c3 => ?_)
      · replace K := K.1 c3
        refine Ok.aload_n (pc' := 177) rfl dX9_works_176 rfl ?_
        refine Ok.iload_n (pc' := 178) rfl dX9_works_177 rfl ?_
        refine Ok.iload_n (pc' := 179) rfl dX9_works_178 rfl ?_
        refine Ok.iconst (pc' := 180) in_2 dX9_works_179 rfl ?_
        refine Ok.icmp_ne (tgt := 216) dX9_works_180 rfl rfl (fun c4 => ?_) (fun c4 => ?_)
        · replace K := K.1 c4
          refine Ok.iload_n (pc' := 217) rfl dX9_works_216 rfl ?_
          refine Ok.iconst (pc' := 218) in_4 dX9_works_217 rfl ?_
          refine Ok.icmp_ne (tgt := 234) dX9_works_218 rfl rfl (fun c5 => ?_) (fun c5 => ?_)
          · replace K := K.1 c5
            refine Ok.aload_n (pc' := 235) rfl dX9_works_234 rfl ?_
            refine Ok.getR (pc' := 238) (k := 3) dX9_works_235 rfl (shM_0 _) rfl inX9 (by decide) rfl wd_984 rfl ?_
            refine Ok.iconst (pc' := 239) in_3 dX9_works_238 rfl ?_
            refine Ok.iload_n (pc' := 240) rfl dX9_works_239 rfl ?_
            obtain ⟨q6, K⟩ := K
            refine Ok.imul (pc' := 241) dX9_works_240 rfl q6 ?_
            obtain ⟨k7, e7, q7, K⟩ := K
            refine Ok.iald (pc' := 242) (z := h.1 3 k7) dX9_works_241 rfl (shM_3 _) (by decide) e7 q7 rfl ?_
            refine Ok.callV (pc' := 245) (av := [pI s0, pI (h.1 3 k7)]) (rest := []) dX9_works_242 rfl (by decide) cvX9_works_293 (shM_0 _) rfl rfl rfl (leb rfl) (leb rfl) K (fun r_ h9 K => ?_)
            show Ok shM 0 0 mX9_works 245 [some (pR 0), some (pI how), some (pI s0), none, none, none, none] [] h9 Post
            refine Ok.iconst (pc' := 246) in_1 dX9_works_245 rfl ?_
            exact Ok.zret dX9_works_246 rfl (by decide) (Or.inr rfl) K
          · replace K := K.2 c5
            refine Ok.aload_n (pc' := 222) rfl dX9_works_221 rfl ?_
            refine Ok.getR (pc' := 225) (k := 3) dX9_works_222 rfl (shM_0 _) rfl inX9 (by decide) rfl wd_984 rfl ?_
            refine Ok.iconst (pc' := 226) in_3 dX9_works_225 rfl ?_
            refine Ok.iload_n (pc' := 227) rfl dX9_works_226 rfl ?_
            obtain ⟨q6, K⟩ := K
            refine Ok.imul (pc' := 228) dX9_works_227 rfl q6 ?_
            refine Ok.iconst (pc' := 229) in_1 dX9_works_228 rfl ?_
            obtain ⟨q7, K⟩ := K
            refine Ok.iadd (pc' := 230) dX9_works_229 rfl q7 ?_
            obtain ⟨k8, e8, q8, K⟩ := K
            refine Ok.iald (pc' := 231) (z := h.1 3 k8) dX9_works_230 rfl (shM_3 _) (by decide) e8 q8 rfl ?_
            refine Ok.goto (tgt := 242) dX9_works_231 rfl ?_
            refine Ok.callV (pc' := 245) (av := [pI s0, pI (h.1 3 k8)]) (rest := []) dX9_works_242 rfl (by decide) cvX9_works_293 (shM_0 _) rfl rfl rfl (leb rfl) (leb rfl) K (fun r_ h10 K => ?_)
            show Ok shM 0 0 mX9_works 245 [some (pR 0), some (pI how), some (pI s0), none, none, none, none] [] h10 Post
            refine Ok.iconst (pc' := 246) in_1 dX9_works_245 rfl ?_
            exact Ok.zret dX9_works_246 rfl (by decide) (Or.inr rfl) K
        · replace K := K.2 c4
          refine Ok.aload_n (pc' := 184) rfl dX9_works_183 rfl ?_
          refine Ok.getR (pc' := 187) (k := 3) dX9_works_184 rfl (shM_0 _) rfl inX9 (by decide) rfl wd_984 rfl ?_
          refine Ok.iconst (pc' := 188) in_3 dX9_works_187 rfl ?_
          refine Ok.iload_n (pc' := 189) rfl dX9_works_188 rfl ?_
          obtain ⟨q5, K⟩ := K
          refine Ok.imul (pc' := 190) dX9_works_189 rfl q5 ?_
          refine Ok.aload_n (pc' := 191) rfl dX9_works_190 rfl ?_
          refine Ok.getR (pc' := 194) (k := 2) dX9_works_191 rfl (shM_0 _) rfl inX9 (by decide) rfl wd_983 rfl ?_
          refine Ok.aload_n (pc' := 195) rfl dX9_works_194 rfl ?_
          refine Ok.getR (pc' := 198) (k := 3) dX9_works_195 rfl (shM_0 _) rfl inX9 (by decide) rfl wd_984 rfl ?_
          refine Ok.iconst (pc' := 199) in_3 dX9_works_198 rfl ?_
          refine Ok.iload_n (pc' := 200) rfl dX9_works_199 rfl ?_
          refine Ok.imul (pc' := 201) dX9_works_200 rfl q5 ?_
          obtain ⟨k6, e6, q6, K⟩ := K
          refine Ok.iald (pc' := 202) (z := h.1 3 k6) dX9_works_201 rfl (shM_3 _) (by decide) e6 q6 rfl ?_
          obtain ⟨k7, e7, q7, K⟩ := K
          refine Ok.iald (pc' := 203) (z := h.1 2 k7) dX9_works_202 rfl (shM_2 _) (by decide) e7 q7 rfl ?_
          refine Ok.if_eq (tgt := 210) dX9_works_203 rfl rfl (fun c8 => ?_) (fun c8 => ?_)
          · replace K := K.1 c8
            refine Ok.iconst (pc' := 211) in_2 dX9_works_210 rfl ?_
            obtain ⟨q9, K⟩ := K
            refine Ok.iadd (pc' := 212) dX9_works_211 rfl q9 ?_
            obtain ⟨k10, e10, q10, K⟩ := K
            refine Ok.iald (pc' := 213) (z := h.1 3 k10) dX9_works_212 rfl (shM_3 _) (by decide) e10 q10 rfl ?_
            refine Ok.goto (tgt := 242) dX9_works_213 rfl ?_
            refine Ok.callV (pc' := 245) (av := [pI s0, pI (h.1 3 k10)]) (rest := []) dX9_works_242 rfl (by decide) cvX9_works_293 (shM_0 _) rfl rfl rfl (leb rfl) (leb rfl) K (fun r_ h11 K => ?_)
            show Ok shM 0 0 mX9_works 245 [some (pR 0), some (pI how), some (pI s0), none, none, none, none] [] h11 Post
            refine Ok.iconst (pc' := 246) in_1 dX9_works_245 rfl ?_
            exact Ok.zret dX9_works_246 rfl (by decide) (Or.inr rfl) K
          · replace K := K.2 c8
            refine Ok.iconst (pc' := 207) in_1 dX9_works_206 rfl ?_
            refine Ok.goto (tgt := 211) dX9_works_207 rfl ?_
            obtain ⟨q9, K⟩ := K
            refine Ok.iadd (pc' := 212) dX9_works_211 rfl q9 ?_
            obtain ⟨k10, e10, q10, K⟩ := K
            refine Ok.iald (pc' := 213) (z := h.1 3 k10) dX9_works_212 rfl (shM_3 _) (by decide) e10 q10 rfl ?_
            refine Ok.goto (tgt := 242) dX9_works_213 rfl ?_
            refine Ok.callV (pc' := 245) (av := [pI s0, pI (h.1 3 k10)]) (rest := []) dX9_works_242 rfl (by decide) cvX9_works_293 (shM_0 _) rfl rfl rfl (leb rfl) (leb rfl) K (fun r_ h12 K => ?_)
            show Ok shM 0 0 mX9_works 245 [some (pR 0), some (pI how), some (pI s0), none, none, none, none] [] h12 Post
            refine Ok.iconst (pc' := 246) in_1 dX9_works_245 rfl ?_
            exact Ok.zret dX9_works_246 rfl (by decide) (Or.inr rfl) K
      · replace K := K.2 c3
        refine Ok.aload_n (pc' := 96) rfl dX9_works_95 rfl ?_
        refine Ok.getR (pc' := 99) (k := 3) dX9_works_96 rfl (shM_0 _) rfl inX9 (by decide) rfl wd_984 rfl ?_
        refine Ok.iconst (pc' := 100) in_3 dX9_works_99 rfl ?_
        refine Ok.iload_n (pc' := 101) rfl dX9_works_100 rfl ?_
        obtain ⟨q4, K⟩ := K
        refine Ok.imul (pc' := 102) dX9_works_101 rfl q4 ?_
        obtain ⟨k5, e5, q5, K⟩ := K
        refine Ok.iald (pc' := 103) (z := h.1 3 k5) dX9_works_102 rfl (shM_3 _) (by decide) e5 q5 rfl ?_
        refine Ok.istore_n (pc' := 104) (ls' := [some (pR 0), some (pI how), some (pI s0), some (pI (h.1 3 k5)), none, none, none]) dX9_works_103 rfl (by decide) rfl rfl ?_
        refine Ok.aload_n (pc' := 105) rfl dX9_works_104 rfl ?_
        refine Ok.getR (pc' := 108) (k := 3) dX9_works_105 rfl (shM_0 _) rfl inX9 (by decide) rfl wd_984 rfl ?_
        refine Ok.iconst (pc' := 109) in_3 dX9_works_108 rfl ?_
        refine Ok.iload_n (pc' := 110) rfl dX9_works_109 rfl ?_
        refine Ok.imul (pc' := 111) dX9_works_110 rfl q4 ?_
        refine Ok.iconst (pc' := 112) in_1 dX9_works_111 rfl ?_
        obtain ⟨q6, K⟩ := K
        refine Ok.iadd (pc' := 113) dX9_works_112 rfl q6 ?_
        obtain ⟨k7, e7, q7, K⟩ := K
        refine Ok.iald (pc' := 114) (z := h.1 3 k7) dX9_works_113 rfl (shM_3 _) (by decide) e7 q7 rfl ?_
        refine Ok.istore (pc' := 116) (ls' := [some (pR 0), some (pI how), some (pI s0), some (pI (h.1 3 k5)), some (pI (h.1 3 k7)), none, none]) dX9_works_114 rfl (by decide) rfl rfl ?_
        refine Ok.aload_n (pc' := 117) rfl dX9_works_116 rfl ?_
        refine Ok.getR (pc' := 120) (k := 2) dX9_works_117 rfl (shM_0 _) rfl inX9 (by decide) rfl wd_983 rfl ?_
        refine Ok.iload_n (pc' := 121) rfl dX9_works_120 rfl ?_
        obtain ⟨k8, e8, q8, K⟩ := K
        refine Ok.iald (pc' := 122) (z := h.1 2 k8) dX9_works_121 rfl (shM_2 _) (by decide) e8 q8 rfl ?_
        refine Ok.istore (pc' := 124) (ls' := [some (pR 0), some (pI how), some (pI s0), some (pI (h.1 3 k5)), some (pI (h.1 3 k7)), some (pI (h.1 2 k8)), none]) dX9_works_122 rfl (by decide) rfl rfl ?_
        refine Ok.aload_n (pc' := 125) rfl dX9_works_124 rfl ?_
        refine Ok.getR (pc' := 128) (k := 2) dX9_works_125 rfl (shM_0 _) rfl inX9 (by decide) rfl wd_983 rfl ?_
        refine Ok.aload_n (pc' := 129) rfl dX9_works_128 rfl ?_
        refine Ok.getR (pc' := 132) (k := 3) dX9_works_129 rfl (shM_0 _) rfl inX9 (by decide) rfl wd_984 rfl ?_
        refine Ok.iconst (pc' := 133) in_3 dX9_works_132 rfl ?_
        refine Ok.iload_n (pc' := 134) rfl dX9_works_133 rfl ?_
        obtain ⟨q9, K⟩ := K
        refine Ok.imul (pc' := 135) dX9_works_134 rfl q9 ?_
        obtain ⟨k10, e10, q10, K⟩ := K
        refine Ok.iald (pc' := 136) (z := h.1 3 k10) dX9_works_135 rfl (shM_3 _) (by decide) e10 q10 rfl ?_
        obtain ⟨k11, e11, q11, K⟩ := K
        refine Ok.iald (pc' := 137) (z := h.1 2 k11) dX9_works_136 rfl (shM_2 _) (by decide) e11 q11 rfl ?_
        refine Ok.istore (pc' := 139) (ls' := [some (pR 0), some (pI how), some (pI s0), some (pI (h.1 3 k5)), some (pI (h.1 3 k7)), some (pI (h.1 2 k8)), some (pI (h.1 2 k11))]) dX9_works_137 rfl (by decide) rfl rfl ?_
        refine Ok.aload_n (pc' := 140) rfl dX9_works_139 rfl ?_
        refine Ok.aload_n (pc' := 141) rfl dX9_works_140 rfl ?_
        refine Ok.iload (pc' := 143) rfl dX9_works_141 rfl ?_
        refine Ok.iconst (pc' := 144) in_1 dX9_works_143 rfl ?_
        refine Ok.iload (pc' := 146) rfl dX9_works_144 rfl ?_
        refine Ok.callV (pc' := 149) (av := [pI (h.1 3 k7), pI 1, pI (h.1 2 k8)]) (rest := [pR 0]) dX9_works_146 rfl (by decide) cvX9_works_278 (shM_0 _) rfl rfl rfl (leb rfl) (leb rfl) K (fun r13 h13 K => ?_)
        show Ok shM 0 0 mX9_works 149 [some (pR 0), some (pI how), some (pI s0), some (pI (h.1 3 k5)), some (pI (h.1 3 k7)), some (pI (h.1 2 k8)), some (pI (h.1 2 k11))] [pI r13, pR 0] h13 Post
        refine Ok.callV (pc' := 152) (av := [pI r13]) (rest := []) dX9_works_149 rfl (by decide) cvX9_works_290 (shM_0 _) rfl rfl rfl (leb rfl) (leb rfl) K (fun r14 h14 K => ?_)
        show Ok shM 0 0 mX9_works 152 [some (pR 0), some (pI how), some (pI s0), some (pI (h.1 3 k5)), some (pI (h.1 3 k7)), some (pI (h.1 2 k8)), some (pI (h.1 2 k11))] [pI r14] h14 Post
        refine Ok.if_ne (tgt := 157) dX9_works_152 rfl rfl (fun c12 => ?_) (fun c12 => ?_)
        · replace K := K.1 c12
          refine Ok.aload_n (pc' := 158) rfl dX9_works_157 rfl ?_
          refine Ok.iload_n (pc' := 159) rfl dX9_works_158 rfl ?_
          refine Ok.iload (pc' := 161) rfl dX9_works_159 rfl ?_
          refine Ok.callV (pc' := 164) (av := [pI s0, pI (h.1 3 k7)]) (rest := []) dX9_works_161 rfl (by decide) cvX9_works_293 (shM_0 _) rfl rfl rfl (leb rfl) (leb rfl) K (fun r_ h15 K => ?_)
          show Ok shM 0 0 mX9_works 164 [some (pR 0), some (pI how), some (pI s0), some (pI (h.1 3 k5)), some (pI (h.1 3 k7)), some (pI (h.1 2 k8)), some (pI (h.1 2 k11))] [] h15 Post
          refine Ok.aload_n (pc' := 165) rfl dX9_works_164 rfl ?_
          refine Ok.iload (pc' := 167) rfl dX9_works_165 rfl ?_
          refine Ok.iload (pc' := 169) rfl dX9_works_167 rfl ?_
          refine Ok.iload (pc' := 171) rfl dX9_works_169 rfl ?_
          refine Ok.callV (pc' := 174) (av := [pI (h.1 3 k7), pI (h.1 2 k8), pI (h.1 2 k11)]) (rest := []) dX9_works_171 rfl (by decide) cvX9_works_296 (shM_0 _) rfl rfl rfl (leb rfl) (leb rfl) K (fun r_ h16 K => ?_)
          show Ok shM 0 0 mX9_works 174 [some (pR 0), some (pI how), some (pI s0), some (pI (h.1 3 k5)), some (pI (h.1 3 k7)), some (pI (h.1 2 k8)), some (pI (h.1 2 k11))] [] h16 Post
          refine Ok.iconst (pc' := 175) in_1 dX9_works_174 rfl ?_
          exact Ok.zret dX9_works_175 rfl (by decide) (Or.inr rfl) K
        · replace K := K.2 c12
          refine Ok.iconst (pc' := 156) in_0 dX9_works_155 rfl ?_
          exact Ok.zret dX9_works_156 rfl (by decide) (Or.inl rfl) K
    · replace K := K.2 c2
      refine Ok.aload_n (pc' := 11) rfl dX9_works_10 rfl ?_
      refine Ok.iconst (pc' := 12) in_1 dX9_works_11 rfl ?_
      refine Ok.callV (pc' := 15) (av := [pI 1]) (rest := []) dX9_works_12 rfl (by decide) cvX9_works_290 (shM_0 _) rfl rfl rfl (leb rfl) (leb rfl) K (fun r17 h17 K => ?_)
      show Ok shM 0 0 mX9_works 15 [some (pR 0), some (pI how), some (pI s0), none, none, none, none] [pI r17] h17 Post
      refine Ok.if_ne (tgt := 20) dX9_works_15 rfl rfl (fun c3 => ?_) (fun c3 => ?_)
      · replace K := K.1 c3
        refine Ok.aload_n (pc' := 21) rfl dX9_works_20 rfl ?_
        refine Ok.getR (pc' := 24) (k := 3) dX9_works_21 rfl (shM_0 _) rfl inX9 (by decide) rfl wd_984 rfl ?_
        refine Ok.iconst (pc' := 25) in_3 dX9_works_24 rfl ?_
        refine Ok.iload_n (pc' := 26) rfl dX9_works_25 rfl ?_
        obtain ⟨q4, K⟩ := K
        refine Ok.imul (pc' := 27) dX9_works_26 rfl q4 ?_
        obtain ⟨k5, e5, q5, K⟩ := K
        refine Ok.iald (pc' := 28) (z := h17.1 3 k5) dX9_works_27 rfl (shM_3 _) (by decide) e5 q5 rfl ?_
        refine Ok.istore_n (pc' := 29) (ls' := [some (pR 0), some (pI how), some (pI s0), some (pI (h17.1 3 k5)), none, none, none]) dX9_works_28 rfl (by decide) rfl rfl ?_
        refine Ok.aload_n (pc' := 30) rfl dX9_works_29 rfl ?_
        refine Ok.iconst (pc' := 31) in_0 dX9_works_30 rfl ?_
        refine Ok.iload_n (pc' := 32) rfl dX9_works_31 rfl ?_
        refine Ok.iconst (pc' := 33) in_3 dX9_works_32 rfl ?_
        refine Ok.icmp_ne (tgt := 40) dX9_works_33 rfl rfl (fun z => absurd c2 z) (fun _ => ?_)
        refine Ok.iconst (pc' := 37) in_0 dX9_works_36 rfl ?_
        refine Ok.goto (tgt := 70) dX9_works_37 rfl ?_
        refine Ok.callV (pc' := 73) (av := [pI 0, pI 0]) (rest := []) dX9_works_70 rfl (by decide) cvX9_works_123 (shM_0 _) rfl rfl rfl (leb rfl) (leb rfl) K (fun r18 h18 K => ?_)
        show Ok shM 0 0 mX9_works 73 [some (pR 0), some (pI how), some (pI s0), some (pI (h17.1 3 k5)), none, none, none] [pI r18] h18 Post
        refine Ok.istore (pc' := 75) (ls' := [some (pR 0), some (pI how), some (pI s0), some (pI (h17.1 3 k5)), some (pI r18), none, none]) dX9_works_73 rfl (by decide) rfl rfl ?_
        refine Ok.aload_n (pc' := 76) rfl dX9_works_75 rfl ?_
        refine Ok.iload_n (pc' := 77) rfl dX9_works_76 rfl ?_
        refine Ok.iload (pc' := 79) rfl dX9_works_77 rfl ?_
        refine Ok.callV (pc' := 82) (av := [pI s0, pI r18]) (rest := []) dX9_works_79 rfl (by decide) cvX9_works_269 (shM_0 _) rfl rfl rfl (leb rfl) (leb rfl) K (fun r_ h19 K => ?_)
        show Ok shM 0 0 mX9_works 82 [some (pR 0), some (pI how), some (pI s0), some (pI (h17.1 3 k5)), some (pI r18), none, none] [] h19 Post
        refine Ok.aload_n (pc' := 83) rfl dX9_works_82 rfl ?_
        refine Ok.iload_n (pc' := 84) rfl dX9_works_83 rfl ?_
        refine Ok.callV (pc' := 87) (av := [pI s0]) (rest := []) dX9_works_84 rfl (by decide) cvX9_works_287 (shM_0 _) rfl rfl rfl (leb rfl) (leb rfl) K (fun r_ h20 K => ?_)
        show Ok shM 0 0 mX9_works 87 [some (pR 0), some (pI how), some (pI s0), some (pI (h17.1 3 k5)), some (pI r18), none, none] [] h20 Post
        refine Ok.iconst (pc' := 88) in_1 dX9_works_87 rfl ?_
        exact Ok.zret dX9_works_88 rfl (by decide) (Or.inr rfl) K
      · replace K := K.2 c3
        refine Ok.iconst (pc' := 19) in_0 dX9_works_18 rfl ?_
        exact Ok.zret dX9_works_19 rfl (by decide) (Or.inl rfl) K
theorem sX9_names_0 {root k0 v : Int} {h : Hp} {Post : Int → Hp → Prop}
    (K : Cl shM mX9_goes [pR 0, pI root] h (fun r1 h1 => Ok shM 0 0 mX9_names 10 [some (pR 0), none, some (pI k0), some (pI v), some (pI r1), some (pI 0), none, none] [] h1 Post)) :
    Cl shM mX9_names [pR 0, pI root, pI k0, pI v] h Post := by
  show Ok shM 0 0 mX9_names 0 [some (pR 0), some (pI root), some (pI k0), some (pI v), none, none, none, none] [] h Post
  refine Ok.aload_n (pc' := 1) rfl dX9_names_0 rfl ?_
  refine Ok.iload_n (pc' := 2) rfl dX9_names_1 rfl ?_
  refine Ok.callV (pc' := 5) (av := [pI root]) (rest := []) dX9_names_2 rfl (by decide) cvX9_names_100 (shM_0 _) rfl rfl rfl (leb rfl) (leb rfl) K (fun r1 h1 K => ?_)
  show Ok shM 0 0 mX9_names 5 [some (pR 0), some (pI root), some (pI k0), some (pI v), none, none, none, none] [pI r1] h1 Post
  refine Ok.istore (pc' := 7) (ls' := [some (pR 0), some (pI root), some (pI k0), some (pI v), some (pI r1), none, none, none]) dX9_names_5 rfl (by decide) rfl rfl ?_
  refine Ok.iconst (pc' := 8) in_0 dX9_names_7 rfl ?_
  refine Ok.istore (pc' := 10) (ls' := [some (pR 0), some (pI root), some (pI k0), some (pI v), some (pI r1), some (pI 0), none, none]) dX9_names_8 rfl (by decide) rfl rfl ?_
  exact Ok.fl (ls' := [some (pR 0), none, some (pI k0), some (pI v), some (pI r1), some (pI 0), none, none]) K ⟨rfl, rfl, rfl, rfl, rfl, trivial⟩
theorem sX9_names_10 {k0 v v4 v5 : Int} {h : Hp} {Post : Int → Hp → Prop}
    (K : ((v4 ≤ v5) → Ok shM 0 0 mX9_names 40 [some (pR 0), none, some (pI k0), some (pI v), some (pI v4), some (pI 0), none, none] [] h Post) ∧ ((¬ v4 ≤ v5) → ∃ k2 : Nat, v5 = (k2 : Int) ∧ k2 < 600 ∧ (inR ((v5 + 1)) ∧ (Ok shM 0 0 mX9_names 10 [some (pR 0), none, some (pI k0), some (pI v), some (pI v4), some (pI (v5 + 1)), none, none] [] (hA h 13 k2 (h.1 9 k2)) Post)))) :
    Ok shM 0 0 mX9_names 10 [some (pR 0), none, some (pI k0), some (pI v), some (pI v4), some (pI v5), none, none] [] h Post := by
  show Ok shM 0 0 mX9_names 10 [some (pR 0), none, some (pI k0), some (pI v), some (pI v4), some (pI v5), none, none] [] h Post
  refine Ok.iload (pc' := 12) rfl dX9_names_10 rfl ?_
  refine Ok.iload (pc' := 14) rfl dX9_names_12 rfl ?_
  refine Ok.icmp_ge (tgt := 37) dX9_names_14 rfl rfl (fun c1 => ?_) (fun c1 => ?_)
  · replace K := K.1 c1
    refine Ok.iconst (pc' := 38) in_0 dX9_names_37 rfl ?_
    refine Ok.istore (pc' := 40) (ls' := [some (pR 0), none, some (pI k0), some (pI v), some (pI v4), some (pI 0), none, none]) dX9_names_38 rfl (by decide) rfl rfl ?_
    exact K
  · replace K := K.2 c1
    refine Ok.aload_n (pc' := 18) rfl dX9_names_17 rfl ?_
    refine Ok.getR (pc' := 21) (k := 15) dX9_names_18 rfl (shM_0 _) rfl inX9 (by decide) rfl wd_996 rfl ?_
    refine Ok.iload (pc' := 23) rfl dX9_names_21 rfl ?_
    refine Ok.aload_n (pc' := 24) rfl dX9_names_23 rfl ?_
    refine Ok.getR (pc' := 27) (k := 10) dX9_names_24 rfl (shM_0 _) rfl inX9 (by decide) rfl wd_991 rfl ?_
    refine Ok.iload (pc' := 29) rfl dX9_names_27 rfl ?_
    obtain ⟨k2, e2, q2, K⟩ := K
    refine Ok.iald (pc' := 30) (z := h.1 9 k2) dX9_names_29 rfl (shM_9 _) (by decide) e2 q2 rfl ?_
    refine Ok.iast (pc' := 31) dX9_names_30 rfl (shM_13 _) (by decide) e2 q2 ?_
    obtain ⟨q3, K⟩ := K
    refine Ok.iinc (pc' := 34) (ls' := [some (pR 0), none, some (pI k0), some (pI v), some (pI v4), some (pI (v5 + 1)), none, none]) dX9_names_31 rfl rfl (by decide) rfl rfl q3 ?_
    refine Ok.goto (tgt := 10) dX9_names_34 rfl ?_
    exact K
theorem sX9_names_40 {k0 v v4 v5 : Int} {h : Hp} {Post : Int → Hp → Prop}
    (K : ((v4 ≤ v5) → Post 0 h) ∧ ((¬ v4 ≤ v5) → ∃ k2 : Nat, v5 = (k2 : Int) ∧ k2 < 600 ∧ (∃ k3 : Nat, h.1 13 k2 = (k3 : Int) ∧ k3 < 600 ∧ (((¬ h.1 1 k3 = 1) → inR ((v5 + 1)) ∧ (Ok shM 0 0 mX9_names 40 [some (pR 0), none, some (pI k0), some (pI v), some (pI v4), some (pI (v5 + 1)), none, none] [] h Post)) ∧ ((h.1 1 k3 = 1) → ((¬ h.1 2 k3 = k0) → inR ((v5 + 1)) ∧ (Ok shM 0 0 mX9_names 40 [some (pR 0), none, some (pI k0), some (pI v), some (pI v4), some (pI (v5 + 1)), none, none] [] h Post)) ∧ ((h.1 2 k3 = k0) → Cl shM mX9_make [pR 0, pI 0, pI v] h (fun r1 h1 => Cl shM mX9_puts [pR 0, pI (h.1 13 k2), pI r1] h1 (fun _ h2 => Cl shM mX9_goneAlone [pR 0, pI (h.1 13 k2)] h2 (fun _ h3 => inR ((v5 + 1)) ∧ (Ok shM 0 0 mX9_names 40 [some (pR 0), none, some (pI k0), some (pI v), some (pI v4), some (pI (v5 + 1)), none, none] [] h3 Post)))))))))) :
    Ok shM 0 0 mX9_names 40 [some (pR 0), none, some (pI k0), some (pI v), some (pI v4), some (pI v5), none, none] [] h Post := by
  show Ok shM 0 0 mX9_names 40 [some (pR 0), none, some (pI k0), some (pI v), some (pI v4), some (pI v5), none, none] [] h Post
  refine Ok.iload (pc' := 42) rfl dX9_names_40 rfl ?_
  refine Ok.iload (pc' := 44) rfl dX9_names_42 rfl ?_
  refine Ok.icmp_ge (tgt := 106) dX9_names_44 rfl rfl (fun c1 => ?_) (fun c1 => ?_)
  · replace K := K.1 c1
    exact Ok.vret dX9_names_106 rfl (by decide) K
  · replace K := K.2 c1
    refine Ok.aload_n (pc' := 48) rfl dX9_names_47 rfl ?_
    refine Ok.getR (pc' := 51) (k := 15) dX9_names_48 rfl (shM_0 _) rfl inX9 (by decide) rfl wd_996 rfl ?_
    refine Ok.iload (pc' := 53) rfl dX9_names_51 rfl ?_
    obtain ⟨k2, e2, q2, K⟩ := K
    refine Ok.iald (pc' := 54) (z := h.1 13 k2) dX9_names_53 rfl (shM_13 _) (by decide) e2 q2 rfl ?_
    refine Ok.istore (pc' := 56) (ls' := [some (pR 0), none, some (pI k0), some (pI v), some (pI v4), some (pI v5), some (pI (h.1 13 k2)), none]) dX9_names_54 rfl (by decide) rfl rfl ?_
    refine Ok.aload_n (pc' := 57) rfl dX9_names_56 rfl ?_
    refine Ok.getR (pc' := 60) (k := 1) dX9_names_57 rfl (shM_0 _) rfl inX9 (by decide) rfl wd_982 rfl ?_
    refine Ok.iload (pc' := 62) rfl dX9_names_60 rfl ?_
    obtain ⟨k3, e3, q3, K⟩ := K
    refine Ok.iald (pc' := 63) (z := h.1 1 k3) dX9_names_62 rfl (shM_1 _) (by decide) e3 q3 rfl ?_
    refine Ok.iconst (pc' := 64) in_1 dX9_names_63 rfl ?_
    refine Ok.icmp_ne (tgt := 100) dX9_names_64 rfl rfl (fun c4 => ?_) (fun c4 => ?_)
    · replace K := K.1 c4
      obtain ⟨q5, K⟩ := K
      refine Ok.iinc (pc' := 103) (ls' := [some (pR 0), none, some (pI k0), some (pI v), some (pI v4), some (pI (v5 + 1)), some (pI (h.1 13 k2)), none]) dX9_names_100 rfl rfl (by decide) rfl rfl q5 ?_
      refine Ok.goto (tgt := 40) dX9_names_103 rfl ?_
      exact Ok.fl (ls' := [some (pR 0), none, some (pI k0), some (pI v), some (pI v4), some (pI (v5 + 1)), none, none]) K ⟨rfl, rfl, rfl, rfl, rfl, trivial⟩
    · replace K := K.2 c4
      refine Ok.aload_n (pc' := 68) rfl dX9_names_67 rfl ?_
      refine Ok.getR (pc' := 71) (k := 2) dX9_names_68 rfl (shM_0 _) rfl inX9 (by decide) rfl wd_983 rfl ?_
      refine Ok.iload (pc' := 73) rfl dX9_names_71 rfl ?_
      refine Ok.iald (pc' := 74) (z := h.1 2 k3) dX9_names_73 rfl (shM_2 _) (by decide) e3 q3 rfl ?_
      refine Ok.iload_n (pc' := 75) rfl dX9_names_74 rfl ?_
      refine Ok.icmp_ne (tgt := 100) dX9_names_75 rfl rfl (fun c5 => ?_) (fun c5 => ?_)
      · replace K := K.1 c5
        obtain ⟨q6, K⟩ := K
        refine Ok.iinc (pc' := 103) (ls' := [some (pR 0), none, some (pI k0), some (pI v), some (pI v4), some (pI (v5 + 1)), some (pI (h.1 13 k2)), none]) dX9_names_100 rfl rfl (by decide) rfl rfl q6 ?_
        refine Ok.goto (tgt := 40) dX9_names_103 rfl ?_
        exact Ok.fl (ls' := [some (pR 0), none, some (pI k0), some (pI v), some (pI v4), some (pI (v5 + 1)), none, none]) K ⟨rfl, rfl, rfl, rfl, rfl, trivial⟩
      · replace K := K.2 c5
        refine Ok.aload_n (pc' := 79) rfl dX9_names_78 rfl ?_
        refine Ok.iconst (pc' := 80) in_0 dX9_names_79 rfl ?_
        refine Ok.iload_n (pc' := 81) rfl dX9_names_80 rfl ?_
        refine Ok.callV (pc' := 84) (av := [pI 0, pI v]) (rest := []) dX9_names_81 rfl (by decide) cvX9_names_123 (shM_0 _) rfl rfl rfl (leb rfl) (leb rfl) K (fun r1 h1 K => ?_)
        show Ok shM 0 0 mX9_names 84 [some (pR 0), none, some (pI k0), some (pI v), some (pI v4), some (pI v5), some (pI (h.1 13 k2)), none] [pI r1] h1 Post
        refine Ok.istore (pc' := 86) (ls' := [some (pR 0), none, some (pI k0), some (pI v), some (pI v4), some (pI v5), some (pI (h.1 13 k2)), some (pI r1)]) dX9_names_84 rfl (by decide) rfl rfl ?_
        refine Ok.aload_n (pc' := 87) rfl dX9_names_86 rfl ?_
        refine Ok.iload (pc' := 89) rfl dX9_names_87 rfl ?_
        refine Ok.iload (pc' := 91) rfl dX9_names_89 rfl ?_
        refine Ok.callV (pc' := 94) (av := [pI (h.1 13 k2), pI r1]) (rest := []) dX9_names_91 rfl (by decide) cvX9_names_269 (shM_0 _) rfl rfl rfl (leb rfl) (leb rfl) K (fun r_ h2 K => ?_)
        show Ok shM 0 0 mX9_names 94 [some (pR 0), none, some (pI k0), some (pI v), some (pI v4), some (pI v5), some (pI (h.1 13 k2)), some (pI r1)] [] h2 Post
        refine Ok.aload_n (pc' := 95) rfl dX9_names_94 rfl ?_
        refine Ok.iload (pc' := 97) rfl dX9_names_95 rfl ?_
        refine Ok.callV (pc' := 100) (av := [pI (h.1 13 k2)]) (rest := []) dX9_names_97 rfl (by decide) cvX9_names_272 (shM_0 _) rfl rfl rfl (leb rfl) (leb rfl) K (fun r_ h3 K => ?_)
        show Ok shM 0 0 mX9_names 100 [some (pR 0), none, some (pI k0), some (pI v), some (pI v4), some (pI v5), some (pI (h.1 13 k2)), some (pI r1)] [] h3 Post
        obtain ⟨q6, K⟩ := K
        refine Ok.iinc (pc' := 103) (ls' := [some (pR 0), none, some (pI k0), some (pI v), some (pI v4), some (pI (v5 + 1)), some (pI (h.1 13 k2)), some (pI r1)]) dX9_names_100 rfl rfl (by decide) rfl rfl q6 ?_
        refine Ok.goto (tgt := 40) dX9_names_103 rfl ?_
        exact Ok.fl (ls' := [some (pR 0), none, some (pI k0), some (pI v), some (pI v4), some (pI (v5 + 1)), none, none]) K ⟨rfl, rfl, rfl, rfl, rfl, trivial⟩
theorem sX9_ahead_0 {r : Int} {h : Hp} {Post : Int → Hp → Prop}
    (K : Cl shM mX9_isRoutine [pR 0, pI r] h (fun r1 h1 => ((¬ r1 = 0) → ∃ k2 : Nat, r = (k2 : Int) ∧ k2 < 10 ∧ (((¬ h1.1 7 k2 = (-4)) → Cl shM mX9_writesDown [pR 0] h1 (fun _ h2 => Cl shM mX9_goes [pR 0, pI (h2.1 7 k2)] h2 (fun r3 h3 => Ok shM 0 0 mX9_ahead 47 [some (pR 0), some (pI r), some (pI r3), some (pI (h3.2.1 0 0)), some (pI 1), none, none, none] [] h3 Post))) ∧ ((h1.1 7 k2 = (-4)) → Post (-2) h1))) ∧ ((r1 = 0) → Post (-1) h1))) :
    Cl shM mX9_ahead [pR 0, pI r] h Post := by
  show Ok shM 0 0 mX9_ahead 0 [some (pR 0), some (pI r), none, none, none, none, none, none] [] h Post
  refine Ok.aload_n (pc' := 1) rfl dX9_ahead_0 rfl ?_
  refine Ok.iload_n (pc' := 2) rfl dX9_ahead_1 rfl ?_
  refine Ok.callV (pc' := 5) (av := [pI r]) (rest := []) dX9_ahead_2 rfl (by decide) cvX9_ahead_145 (shM_0 _) rfl rfl rfl (leb rfl) (leb rfl) K (fun r1 h1 K => ?_)
  show Ok shM 0 0 mX9_ahead 5 [some (pR 0), some (pI r), none, none, none, none, none, none] [pI r1] h1 Post
  refine Ok.if_ne (tgt := 10) dX9_ahead_5 rfl rfl (fun c1 => ?_) (fun c1 => ?_)
  · replace K := K.1 c1
    refine Ok.aload_n (pc' := 11) rfl dX9_ahead_10 rfl ?_
    refine Ok.getR (pc' := 14) (k := 8) dX9_ahead_11 rfl (shM_0 _) rfl inX9 (by decide) rfl wd_989 rfl ?_
    refine Ok.iload_n (pc' := 15) rfl dX9_ahead_14 rfl ?_
    obtain ⟨k2, e2, q2, K⟩ := K
    refine Ok.iald (pc' := 16) (z := h1.1 7 k2) dX9_ahead_15 rfl (shM_7 _) (by decide) e2 q2 rfl ?_
    refine Ok.bipush (pc' := 18) ⟨by decide, by decide⟩ dX9_ahead_16 rfl ?_
    refine Ok.icmp_ne (tgt := 24) dX9_ahead_18 rfl rfl (fun c3 => ?_) (fun c3 => ?_)
    · replace K := K.1 c3
      refine Ok.aload_n (pc' := 25) rfl dX9_ahead_24 rfl ?_
      refine Ok.callV (pc' := 28) (av := []) (rest := []) dX9_ahead_25 rfl (by decide) cvX9_ahead_244 (shM_0 _) rfl rfl rfl (leb rfl) (leb rfl) K (fun r_ h2 K => ?_)
      show Ok shM 0 0 mX9_ahead 28 [some (pR 0), some (pI r), none, none, none, none, none, none] [] h2 Post
      refine Ok.aload_n (pc' := 29) rfl dX9_ahead_28 rfl ?_
      refine Ok.aload_n (pc' := 30) rfl dX9_ahead_29 rfl ?_
      refine Ok.getR (pc' := 33) (k := 8) dX9_ahead_30 rfl (shM_0 _) rfl inX9 (by decide) rfl wd_989 rfl ?_
      refine Ok.iload_n (pc' := 34) rfl dX9_ahead_33 rfl ?_
      refine Ok.iald (pc' := 35) (z := h2.1 7 k2) dX9_ahead_34 rfl (shM_7 _) (by decide) e2 q2 rfl ?_
      refine Ok.callV (pc' := 38) (av := [pI (h2.1 7 k2)]) (rest := []) dX9_ahead_35 rfl (by decide) cvX9_ahead_100 (shM_0 _) rfl rfl rfl (leb rfl) (leb rfl) K (fun r3 h3 K => ?_)
      show Ok shM 0 0 mX9_ahead 38 [some (pR 0), some (pI r), none, none, none, none, none, none] [pI r3] h3 Post
      refine Ok.istore_n (pc' := 39) (ls' := [some (pR 0), some (pI r), some (pI r3), none, none, none, none, none]) dX9_ahead_38 rfl (by decide) rfl rfl ?_
      refine Ok.aload_n (pc' := 40) rfl dX9_ahead_39 rfl ?_
      refine Ok.getI (pc' := 43) (z := h3.2.1 0 0) (k := 0) dX9_ahead_40 rfl (shM_0 _) rfl inX9 (by decide) rfl rfl wd_981 rfl ?_
      refine Ok.istore_n (pc' := 44) (ls' := [some (pR 0), some (pI r), some (pI r3), some (pI (h3.2.1 0 0)), none, none, none, none]) dX9_ahead_43 rfl (by decide) rfl rfl ?_
      refine Ok.iconst (pc' := 45) in_1 dX9_ahead_44 rfl ?_
      refine Ok.istore (pc' := 47) (ls' := [some (pR 0), some (pI r), some (pI r3), some (pI (h3.2.1 0 0)), some (pI 1), none, none, none]) dX9_ahead_45 rfl (by decide) rfl rfl ?_
      exact K
    · replace K := K.2 c3
      refine Ok.bipush (pc' := 23) ⟨by decide, by decide⟩ dX9_ahead_21 rfl ?_
      exact Ok.iret dX9_ahead_23 rfl (by decide) K
  · replace K := K.2 c1
    refine Ok.iconst (pc' := 9) in_m1 dX9_ahead_8 rfl ?_
    exact Ok.iret dX9_ahead_9 rfl (by decide) K
theorem sX9_ahead_47 {r v2 v3 v4 : Int} {h : Hp} {Post : Int → Hp → Prop}
    (K : ((v4 = 0) → Cl shM mX9_keepIt [pR 0] h (fun _ h1 => ∃ k2 : Nat, r = (k2 : Int) ∧ k2 < 10 ∧ (Cl shM mX9_goes [pR 0, pI (h1.1 7 k2)] h1 (fun r2 h2 => inR ((v2 - r2)) ∧ (Post (v2 - r2) h2))))) ∧ ((¬ v4 = 0) → ∃ k2 : Nat, r = (k2 : Int) ∧ k2 < 10 ∧ (Cl shM mX9_goes [pR 0, pI (h.1 7 k2)] h (fun r3 h3 => Ok shM 0 0 mX9_ahead 70 [some (pR 0), some (pI r), some (pI v2), some (pI v3), some (pI 0), some (pI r3), some (pI 0), none] [] h3 Post)))) :
    Ok shM 0 0 mX9_ahead 47 [some (pR 0), some (pI r), some (pI v2), some (pI v3), some (pI v4), none, none, none] [] h Post := by
  show Ok shM 0 0 mX9_ahead 47 [some (pR 0), some (pI r), some (pI v2), some (pI v3), some (pI v4), none, none, none] [] h Post
  refine Ok.iload (pc' := 49) rfl dX9_ahead_47 rfl ?_
  refine Ok.if_eq (tgt := 173) dX9_ahead_49 rfl rfl (fun c1 => ?_) (fun c1 => ?_)
  · replace K := K.1 c1
    refine Ok.aload_n (pc' := 174) rfl dX9_ahead_173 rfl ?_
    refine Ok.callV (pc' := 177) (av := []) (rest := []) dX9_ahead_174 rfl (by decide) cvX9_ahead_247 (shM_0 _) rfl rfl rfl (leb rfl) (leb rfl) K (fun r_ h1 K => ?_)
    show Ok shM 0 0 mX9_ahead 177 [some (pR 0), some (pI r), some (pI v2), some (pI v3), some (pI v4), none, none, none] [] h1 Post
    refine Ok.iload_n (pc' := 178) rfl dX9_ahead_177 rfl ?_
    refine Ok.aload_n (pc' := 179) rfl dX9_ahead_178 rfl ?_
    refine Ok.aload_n (pc' := 180) rfl dX9_ahead_179 rfl ?_
    refine Ok.getR (pc' := 183) (k := 8) dX9_ahead_180 rfl (shM_0 _) rfl inX9 (by decide) rfl wd_989 rfl ?_
    refine Ok.iload_n (pc' := 184) rfl dX9_ahead_183 rfl ?_
    obtain ⟨k2, e2, q2, K⟩ := K
    refine Ok.iald (pc' := 185) (z := h1.1 7 k2) dX9_ahead_184 rfl (shM_7 _) (by decide) e2 q2 rfl ?_
    refine Ok.callV (pc' := 188) (av := [pI (h1.1 7 k2)]) (rest := [pI v2]) dX9_ahead_185 rfl (by decide) cvX9_ahead_100 (shM_0 _) rfl rfl rfl (leb rfl) (leb rfl) K (fun r2 h2 K => ?_)
    show Ok shM 0 0 mX9_ahead 188 [some (pR 0), some (pI r), some (pI v2), some (pI v3), some (pI v4), none, none, none] [pI r2, pI v2] h2 Post
    obtain ⟨q3, K⟩ := K
    refine Ok.isub (pc' := 189) dX9_ahead_188 rfl q3 ?_
    exact Ok.iret dX9_ahead_189 rfl (by decide) K
  · replace K := K.2 c1
    refine Ok.iconst (pc' := 53) in_0 dX9_ahead_52 rfl ?_
    refine Ok.istore (pc' := 55) (ls' := [some (pR 0), some (pI r), some (pI v2), some (pI v3), some (pI 0), none, none, none]) dX9_ahead_53 rfl (by decide) rfl rfl ?_
    refine Ok.aload_n (pc' := 56) rfl dX9_ahead_55 rfl ?_
    refine Ok.aload_n (pc' := 57) rfl dX9_ahead_56 rfl ?_
    refine Ok.getR (pc' := 60) (k := 8) dX9_ahead_57 rfl (shM_0 _) rfl inX9 (by decide) rfl wd_989 rfl ?_
    refine Ok.iload_n (pc' := 61) rfl dX9_ahead_60 rfl ?_
    obtain ⟨k2, e2, q2, K⟩ := K
    refine Ok.iald (pc' := 62) (z := h.1 7 k2) dX9_ahead_61 rfl (shM_7 _) (by decide) e2 q2 rfl ?_
    refine Ok.callV (pc' := 65) (av := [pI (h.1 7 k2)]) (rest := []) dX9_ahead_62 rfl (by decide) cvX9_ahead_100 (shM_0 _) rfl rfl rfl (leb rfl) (leb rfl) K (fun r3 h3 K => ?_)
    show Ok shM 0 0 mX9_ahead 65 [some (pR 0), some (pI r), some (pI v2), some (pI v3), some (pI 0), none, none, none] [pI r3] h3 Post
    refine Ok.istore (pc' := 67) (ls' := [some (pR 0), some (pI r), some (pI v2), some (pI v3), some (pI 0), some (pI r3), none, none]) dX9_ahead_65 rfl (by decide) rfl rfl ?_
    refine Ok.iconst (pc' := 68) in_0 dX9_ahead_67 rfl ?_
    refine Ok.istore (pc' := 70) (ls' := [some (pR 0), some (pI r), some (pI v2), some (pI v3), some (pI 0), some (pI r3), some (pI 0), none]) dX9_ahead_68 rfl (by decide) rfl rfl ?_
    exact K
theorem sX9_ahead_70 {r v2 v3 v4 v5 v6 : Int} {h : Hp} {Post : Int → Hp → Prop}
    (K : ((v5 ≤ v6) → Ok shM 0 0 mX9_ahead 100 [some (pR 0), some (pI r), some (pI v2), some (pI v3), some (pI v4), some (pI v5), some (pI 0), none] [] h Post) ∧ ((¬ v5 ≤ v6) → ∃ k2 : Nat, v6 = (k2 : Int) ∧ k2 < 600 ∧ (inR ((v6 + 1)) ∧ (Ok shM 0 0 mX9_ahead 70 [some (pR 0), some (pI r), some (pI v2), some (pI v3), some (pI v4), some (pI v5), some (pI (v6 + 1)), none] [] (hA h 23 k2 (h.1 9 k2)) Post)))) :
    Ok shM 0 0 mX9_ahead 70 [some (pR 0), some (pI r), some (pI v2), some (pI v3), some (pI v4), some (pI v5), some (pI v6), none] [] h Post := by
  show Ok shM 0 0 mX9_ahead 70 [some (pR 0), some (pI r), some (pI v2), some (pI v3), some (pI v4), some (pI v5), some (pI v6), none] [] h Post
  refine Ok.iload (pc' := 72) rfl dX9_ahead_70 rfl ?_
  refine Ok.iload (pc' := 74) rfl dX9_ahead_72 rfl ?_
  refine Ok.icmp_ge (tgt := 97) dX9_ahead_74 rfl rfl (fun c1 => ?_) (fun c1 => ?_)
  · replace K := K.1 c1
    refine Ok.iconst (pc' := 98) in_0 dX9_ahead_97 rfl ?_
    refine Ok.istore (pc' := 100) (ls' := [some (pR 0), some (pI r), some (pI v2), some (pI v3), some (pI v4), some (pI v5), some (pI 0), none]) dX9_ahead_98 rfl (by decide) rfl rfl ?_
    exact K
  · replace K := K.2 c1
    refine Ok.aload_n (pc' := 78) rfl dX9_ahead_77 rfl ?_
    refine Ok.getR (pc' := 81) (k := 36) dX9_ahead_78 rfl (shM_0 _) rfl inX9 (by decide) rfl wd_1017 rfl ?_
    refine Ok.iload (pc' := 83) rfl dX9_ahead_81 rfl ?_
    refine Ok.aload_n (pc' := 84) rfl dX9_ahead_83 rfl ?_
    refine Ok.getR (pc' := 87) (k := 10) dX9_ahead_84 rfl (shM_0 _) rfl inX9 (by decide) rfl wd_991 rfl ?_
    refine Ok.iload (pc' := 89) rfl dX9_ahead_87 rfl ?_
    obtain ⟨k2, e2, q2, K⟩ := K
    refine Ok.iald (pc' := 90) (z := h.1 9 k2) dX9_ahead_89 rfl (shM_9 _) (by decide) e2 q2 rfl ?_
    refine Ok.iast (pc' := 91) dX9_ahead_90 rfl (shM_23 _) (by decide) e2 q2 ?_
    obtain ⟨q3, K⟩ := K
    refine Ok.iinc (pc' := 94) (ls' := [some (pR 0), some (pI r), some (pI v2), some (pI v3), some (pI v4), some (pI v5), some (pI (v6 + 1)), none]) dX9_ahead_91 rfl rfl (by decide) rfl rfl q3 ?_
    refine Ok.goto (tgt := 70) dX9_ahead_94 rfl ?_
    exact K
theorem sX9_ahead_100 {r v2 v3 v4 v5 v6 : Int} {h : Hp} {Post : Int → Hp → Prop}
    (K : ((v5 ≤ v6) → Ok shM 0 0 mX9_ahead 47 [some (pR 0), some (pI r), some (pI v2), some (pI v3), some (pI v4), none, none, none] [] h Post) ∧ ((¬ v5 ≤ v6) → ((¬ v4 = 0) → Ok shM 0 0 mX9_ahead 47 [some (pR 0), some (pI r), some (pI v2), some (pI v3), some (pI v4), none, none, none] [] h Post) ∧ ((v4 = 0) → ∃ k3 : Nat, v6 = (k3 : Int) ∧ k3 < 600 ∧ (Cl shM mX9_holds [pR 0, pI r, pI (h.1 23 k3)] h (fun r1 h1 => ((r1 ≤ 0) → inR ((v6 + 1)) ∧ (Ok shM 0 0 mX9_ahead 100 [some (pR 0), some (pI r), some (pI v2), some (pI v3), some (pI v4), some (pI v5), some (pI (v6 + 1)), none] [] h1 Post)) ∧ ((¬ r1 ≤ 0) → Cl shM mX9_works [pR 0, pI r1, pI (h1.1 23 k3)] h1 (fun r2 h2 => ((¬ r2 = 0) → inR ((v6 + 1)) ∧ (Ok shM 0 0 mX9_ahead 100 [some (pR 0), some (pI r), some (pI v2), some (pI v3), some (pI 1), some (pI v5), some (pI (v6 + 1)), none] [] h2 Post)) ∧ ((r2 = 0) → Cl shM mX9_back [pR 0, pI 12] h2 (fun _ h3 => Post (-3) (hI h3 0 0 v3)))))))))) :
    Ok shM 0 0 mX9_ahead 100 [some (pR 0), some (pI r), some (pI v2), some (pI v3), some (pI v4), some (pI v5), some (pI v6), none] [] h Post := by
  show Ok shM 0 0 mX9_ahead 100 [some (pR 0), some (pI r), some (pI v2), some (pI v3), some (pI v4), some (pI v5), some (pI v6), none] [] h Post
  refine Ok.iload (pc' := 102) rfl dX9_ahead_100 rfl ?_
  refine Ok.iload (pc' := 104) rfl dX9_ahead_102 rfl ?_
  refine Ok.icmp_ge (tgt := 170) dX9_ahead_104 rfl rfl (fun c1 => ?_) (fun c1 => ?_)
  · replace K := K.1 c1
    refine Ok.goto (tgt := 47) dX9_ahead_170 rfl ?_
    exact Ok.fl (ls' := [some (pR 0), some (pI r), some (pI v2), some (pI v3), some (pI v4), none, none, none]) K ⟨rfl, rfl, rfl, rfl, rfl, trivial⟩
  · replace K := K.2 c1
    refine Ok.iload (pc' := 109) rfl dX9_ahead_107 rfl ?_
    refine Ok.if_ne (tgt := 170) dX9_ahead_109 rfl rfl (fun c2 => ?_) (fun c2 => ?_)
    · replace K := K.1 c2
      refine Ok.goto (tgt := 47) dX9_ahead_170 rfl ?_
      exact Ok.fl (ls' := [some (pR 0), some (pI r), some (pI v2), some (pI v3), some (pI v4), none, none, none]) K ⟨rfl, rfl, rfl, rfl, rfl, trivial⟩
    · replace K := K.2 c2
      refine Ok.aload_n (pc' := 113) rfl dX9_ahead_112 rfl ?_
      refine Ok.iload_n (pc' := 114) rfl dX9_ahead_113 rfl ?_
      refine Ok.aload_n (pc' := 115) rfl dX9_ahead_114 rfl ?_
      refine Ok.getR (pc' := 118) (k := 36) dX9_ahead_115 rfl (shM_0 _) rfl inX9 (by decide) rfl wd_1017 rfl ?_
      refine Ok.iload (pc' := 120) rfl dX9_ahead_118 rfl ?_
      obtain ⟨k3, e3, q3, K⟩ := K
      refine Ok.iald (pc' := 121) (z := h.1 23 k3) dX9_ahead_120 rfl (shM_23 _) (by decide) e3 q3 rfl ?_
      refine Ok.callV (pc' := 124) (av := [pI r, pI (h.1 23 k3)]) (rest := []) dX9_ahead_121 rfl (by decide) cvX9_ahead_298 (shM_0 _) rfl rfl rfl (leb rfl) (leb rfl) K (fun r1 h1 K => ?_)
      show Ok shM 0 0 mX9_ahead 124 [some (pR 0), some (pI r), some (pI v2), some (pI v3), some (pI v4), some (pI v5), some (pI v6), none] [pI r1] h1 Post
      refine Ok.istore (pc' := 126) (ls' := [some (pR 0), some (pI r), some (pI v2), some (pI v3), some (pI v4), some (pI v5), some (pI v6), some (pI r1)]) dX9_ahead_124 rfl (by decide) rfl rfl ?_
      refine Ok.iload (pc' := 128) rfl dX9_ahead_126 rfl ?_
      refine Ok.if_le (tgt := 164) dX9_ahead_128 rfl rfl (fun c4 => ?_) (fun c4 => ?_)
      · replace K := K.1 c4
        obtain ⟨q5, K⟩ := K
        refine Ok.iinc (pc' := 167) (ls' := [some (pR 0), some (pI r), some (pI v2), some (pI v3), some (pI v4), some (pI v5), some (pI (v6 + 1)), some (pI r1)]) dX9_ahead_164 rfl rfl (by decide) rfl rfl q5 ?_
        refine Ok.goto (tgt := 100) dX9_ahead_167 rfl ?_
        exact Ok.fl (ls' := [some (pR 0), some (pI r), some (pI v2), some (pI v3), some (pI v4), some (pI v5), some (pI (v6 + 1)), none]) K ⟨rfl, rfl, rfl, rfl, rfl, rfl, rfl, trivial⟩
      · replace K := K.2 c4
        refine Ok.iconst (pc' := 132) in_1 dX9_ahead_131 rfl ?_
        refine Ok.istore (pc' := 134) (ls' := [some (pR 0), some (pI r), some (pI v2), some (pI v3), some (pI 1), some (pI v5), some (pI v6), some (pI r1)]) dX9_ahead_132 rfl (by decide) rfl rfl ?_
        refine Ok.aload_n (pc' := 135) rfl dX9_ahead_134 rfl ?_
        refine Ok.iload (pc' := 137) rfl dX9_ahead_135 rfl ?_
        refine Ok.aload_n (pc' := 138) rfl dX9_ahead_137 rfl ?_
        refine Ok.getR (pc' := 141) (k := 36) dX9_ahead_138 rfl (shM_0 _) rfl inX9 (by decide) rfl wd_1017 rfl ?_
        refine Ok.iload (pc' := 143) rfl dX9_ahead_141 rfl ?_
        refine Ok.iald (pc' := 144) (z := h1.1 23 k3) dX9_ahead_143 rfl (shM_23 _) (by decide) e3 q3 rfl ?_
        refine Ok.callV (pc' := 147) (av := [pI r1, pI (h1.1 23 k3)]) (rest := []) dX9_ahead_144 rfl (by decide) cvX9_ahead_301 (shM_0 _) rfl rfl rfl (leb rfl) (leb rfl) K (fun r2 h2 K => ?_)
        show Ok shM 0 0 mX9_ahead 147 [some (pR 0), some (pI r), some (pI v2), some (pI v3), some (pI 1), some (pI v5), some (pI v6), some (pI r1)] [pI r2] h2 Post
        refine Ok.if_ne (tgt := 164) dX9_ahead_147 rfl rfl (fun c5 => ?_) (fun c5 => ?_)
        · replace K := K.1 c5
          obtain ⟨q6, K⟩ := K
          refine Ok.iinc (pc' := 167) (ls' := [some (pR 0), some (pI r), some (pI v2), some (pI v3), some (pI 1), some (pI v5), some (pI (v6 + 1)), some (pI r1)]) dX9_ahead_164 rfl rfl (by decide) rfl rfl q6 ?_
          refine Ok.goto (tgt := 100) dX9_ahead_167 rfl ?_
          exact Ok.fl (ls' := [some (pR 0), some (pI r), some (pI v2), some (pI v3), some (pI 1), some (pI v5), some (pI (v6 + 1)), none]) K ⟨rfl, rfl, rfl, rfl, rfl, rfl, rfl, trivial⟩
        · replace K := K.2 c5
          refine Ok.aload_n (pc' := 151) rfl dX9_ahead_150 rfl ?_
          refine Ok.bipush (pc' := 153) ⟨by decide, by decide⟩ dX9_ahead_151 rfl ?_
          refine Ok.callV (pc' := 156) (av := [pI 12]) (rest := []) dX9_ahead_153 rfl (by decide) cvX9_ahead_254 (shM_0 _) rfl rfl rfl (leb rfl) (leb rfl) K (fun r_ h3 K => ?_)
          show Ok shM 0 0 mX9_ahead 156 [some (pR 0), some (pI r), some (pI v2), some (pI v3), some (pI 1), some (pI v5), some (pI v6), some (pI r1)] [] h3 Post
          refine Ok.aload_n (pc' := 157) rfl dX9_ahead_156 rfl ?_
          refine Ok.iload_n (pc' := 158) rfl dX9_ahead_157 rfl ?_
          refine Ok.putI (pc' := 161) (k := 0) dX9_ahead_158 rfl (shM_0 _) rfl inX9 tyX9 tyX9_ok nmX9 (by decide) rfl wd_981 rfl rfl (Or.inl rfl) ?_
          refine Ok.bipush (pc' := 163) ⟨by decide, by decide⟩ dX9_ahead_161 rfl ?_
          exact Ok.iret dX9_ahead_163 rfl (by decide) K
theorem sX9_drop_0 {h : Hp} {Post : Int → Hp → Prop}
    (K : ((¬ h.2.1 0 6 = 0) → Cl shM mX9_keep [pR 0] h (fun _ h1 => Ok shM 0 0 mX9_drop 18 [some (pR 0), some (pI 1), some (pI 0), none, none, none] [] h1 Post)) ∧ ((h.2.1 0 6 = 0) → Post (-2) h)) :
    Cl shM mX9_drop [pR 0] h Post := by
  show Ok shM 0 0 mX9_drop 0 [some (pR 0), none, none, none, none, none] [] h Post
  refine Ok.aload_n (pc' := 1) rfl dX9_drop_0 rfl ?_
  refine Ok.getI (pc' := 4) (z := h.2.1 0 6) (k := 6) dX9_drop_1 rfl (shM_0 _) rfl inX9 (by decide) rfl rfl wd_987 rfl ?_
  refine Ok.if_ne (tgt := 10) dX9_drop_4 rfl rfl (fun c1 => ?_) (fun c1 => ?_)
  · replace K := K.1 c1
    refine Ok.aload_n (pc' := 11) rfl dX9_drop_10 rfl ?_
    refine Ok.callV (pc' := 14) (av := []) (rest := []) dX9_drop_11 rfl (by decide) cvX9_drop_150 (shM_0 _) rfl rfl rfl (leb rfl) (leb rfl) K (fun r_ h1 K => ?_)
    show Ok shM 0 0 mX9_drop 14 [some (pR 0), none, none, none, none, none] [] h1 Post
    refine Ok.iconst (pc' := 15) in_1 dX9_drop_14 rfl ?_
    refine Ok.istore_n (pc' := 16) (ls' := [some (pR 0), some (pI 1), none, none, none, none]) dX9_drop_15 rfl (by decide) rfl rfl ?_
    refine Ok.iconst (pc' := 17) in_0 dX9_drop_16 rfl ?_
    refine Ok.istore_n (pc' := 18) (ls' := [some (pR 0), some (pI 1), some (pI 0), none, none, none]) dX9_drop_17 rfl (by decide) rfl rfl ?_
    exact K
  · replace K := K.2 c1
    refine Ok.bipush (pc' := 9) ⟨by decide, by decide⟩ dX9_drop_7 rfl ?_
    exact Ok.iret dX9_drop_9 rfl (by decide) K
theorem sX9_drop_18 {v1 v2 : Int} {h : Hp} {Post : Int → Hp → Prop}
    (K : ((v1 = v2) → Ok shM 0 0 mX9_drop 135 [some (pR 0), some (pI v1), none, some (pI 0), some (pI 0), none] [] h Post) ∧ ((¬ v1 = v2) → Ok shM 0 0 mX9_drop 27 [some (pR 0), some (pI v1), some (pI v1), some (pI 0), none, none] [] h Post)) :
    Ok shM 0 0 mX9_drop 18 [some (pR 0), some (pI v1), some (pI v2), none, none, none] [] h Post := by
  show Ok shM 0 0 mX9_drop 18 [some (pR 0), some (pI v1), some (pI v2), none, none, none] [] h Post
  refine Ok.iload_n (pc' := 19) rfl dX9_drop_18 rfl ?_
  refine Ok.iload_n (pc' := 20) rfl dX9_drop_19 rfl ?_
  refine Ok.icmp_eq (tgt := 130) dX9_drop_20 rfl rfl (fun c1 => ?_) (fun c1 => ?_)
  · replace K := K.1 c1
    refine Ok.iconst (pc' := 131) in_0 dX9_drop_130 rfl ?_
    refine Ok.istore_n (pc' := 132) (ls' := [some (pR 0), some (pI v1), some (pI v2), some (pI 0), none, none]) dX9_drop_131 rfl (by decide) rfl rfl ?_
    refine Ok.iconst (pc' := 133) in_0 dX9_drop_132 rfl ?_
    refine Ok.istore (pc' := 135) (ls' := [some (pR 0), some (pI v1), some (pI v2), some (pI 0), some (pI 0), none]) dX9_drop_133 rfl (by decide) rfl rfl ?_
    exact Ok.fl (ls' := [some (pR 0), some (pI v1), none, some (pI 0), some (pI 0), none]) K ⟨rfl, rfl, rfl, rfl, trivial⟩
  · replace K := K.2 c1
    refine Ok.iload_n (pc' := 24) rfl dX9_drop_23 rfl ?_
    refine Ok.istore_n (pc' := 25) (ls' := [some (pR 0), some (pI v1), some (pI v1), none, none, none]) dX9_drop_24 rfl (by decide) rfl rfl ?_
    refine Ok.iconst (pc' := 26) in_0 dX9_drop_25 rfl ?_
    refine Ok.istore_n (pc' := 27) (ls' := [some (pR 0), some (pI v1), some (pI v1), some (pI 0), none, none]) dX9_drop_26 rfl (by decide) rfl rfl ?_
    exact K
theorem sX9_drop_27 {v1 v2 v3 : Int} {h : Hp} {Post : Int → Hp → Prop}
    (K : ((h.2.1 0 6 ≤ v3) → Ok shM 0 0 mX9_drop 18 [some (pR 0), some (pI v1), some (pI v2), none, none, none] [] h Post) ∧ ((¬ h.2.1 0 6 ≤ v3) → ((¬ (b_iand (b_ishr v1 v3) 1) = 1) → inR ((v3 + 1)) ∧ (Ok shM 0 0 mX9_drop 27 [some (pR 0), some (pI v1), some (pI v2), some (pI (v3 + 1)), none, none] [] h Post)) ∧ (((b_iand (b_ishr v1 v3) 1) = 1) → ∃ k3 : Nat, v3 = (k3 : Int) ∧ k3 < 10 ∧ (((h.1 7 k3 = (-4)) → inR ((v3 + 1)) ∧ (Ok shM 0 0 mX9_drop 27 [some (pR 0), some (pI v1), some (pI v2), some (pI (v3 + 1)), none, none] [] h Post)) ∧ ((¬ h.1 7 k3 = (-4)) → Cl shM mX9_goes [pR 0, pI (h.1 7 k3)] h (fun r1 h1 => Ok shM 0 0 mX9_drop 70 [some (pR 0), some (pI v1), some (pI v2), some (pI v3), some (pI r1), some (pI 0)] [] h1 Post)))))) :
    Ok shM 0 0 mX9_drop 27 [some (pR 0), some (pI v1), some (pI v2), some (pI v3), none, none] [] h Post := by
  show Ok shM 0 0 mX9_drop 27 [some (pR 0), some (pI v1), some (pI v2), some (pI v3), none, none] [] h Post
  refine Ok.iload_n (pc' := 28) rfl dX9_drop_27 rfl ?_
  refine Ok.aload_n (pc' := 29) rfl dX9_drop_28 rfl ?_
  refine Ok.getI (pc' := 32) (z := h.2.1 0 6) (k := 6) dX9_drop_29 rfl (shM_0 _) rfl inX9 (by decide) rfl rfl wd_987 rfl ?_
  refine Ok.icmp_ge (tgt := 127) dX9_drop_32 rfl rfl (fun c1 => ?_) (fun c1 => ?_)
  · replace K := K.1 c1
    refine Ok.goto (tgt := 18) dX9_drop_127 rfl ?_
    exact Ok.fl (ls' := [some (pR 0), some (pI v1), some (pI v2), none, none, none]) K ⟨rfl, rfl, rfl, trivial⟩
  · replace K := K.2 c1
    refine Ok.iload_n (pc' := 36) rfl dX9_drop_35 rfl ?_
    refine Ok.iload_n (pc' := 37) rfl dX9_drop_36 rfl ?_
    refine Ok.ishr (pc' := 38) dX9_drop_37 rfl ?_
    refine Ok.iconst (pc' := 39) in_1 dX9_drop_38 rfl ?_
    refine Ok.iand (pc' := 40) dX9_drop_39 rfl ?_
    refine Ok.iconst (pc' := 41) in_1 dX9_drop_40 rfl ?_
    refine Ok.icmp_ne (tgt := 121) dX9_drop_41 rfl rfl (fun c2 => ?_) (fun c2 => ?_)
    · replace K := K.1 c2
      obtain ⟨q3, K⟩ := K
      refine Ok.iinc (pc' := 124) (ls' := [some (pR 0), some (pI v1), some (pI v2), some (pI (v3 + 1)), none, none]) dX9_drop_121 rfl rfl (by decide) rfl rfl q3 ?_
      refine Ok.goto (tgt := 27) dX9_drop_124 rfl ?_
      exact K
    · replace K := K.2 c2
      refine Ok.aload_n (pc' := 45) rfl dX9_drop_44 rfl ?_
      refine Ok.getR (pc' := 48) (k := 8) dX9_drop_45 rfl (shM_0 _) rfl inX9 (by decide) rfl wd_989 rfl ?_
      refine Ok.iload_n (pc' := 49) rfl dX9_drop_48 rfl ?_
      obtain ⟨k3, e3, q3, K⟩ := K
      refine Ok.iald (pc' := 50) (z := h.1 7 k3) dX9_drop_49 rfl (shM_7 _) (by decide) e3 q3 rfl ?_
      refine Ok.bipush (pc' := 52) ⟨by decide, by decide⟩ dX9_drop_50 rfl ?_
      refine Ok.icmp_eq (tgt := 121) dX9_drop_52 rfl rfl (fun c4 => ?_) (fun c4 => ?_)
      · replace K := K.1 c4
        obtain ⟨q5, K⟩ := K
        refine Ok.iinc (pc' := 124) (ls' := [some (pR 0), some (pI v1), some (pI v2), some (pI (v3 + 1)), none, none]) dX9_drop_121 rfl rfl (by decide) rfl rfl q5 ?_
        refine Ok.goto (tgt := 27) dX9_drop_124 rfl ?_
        exact K
      · replace K := K.2 c4
        refine Ok.aload_n (pc' := 56) rfl dX9_drop_55 rfl ?_
        refine Ok.aload_n (pc' := 57) rfl dX9_drop_56 rfl ?_
        refine Ok.getR (pc' := 60) (k := 8) dX9_drop_57 rfl (shM_0 _) rfl inX9 (by decide) rfl wd_989 rfl ?_
        refine Ok.iload_n (pc' := 61) rfl dX9_drop_60 rfl ?_
        refine Ok.iald (pc' := 62) (z := h.1 7 k3) dX9_drop_61 rfl (shM_7 _) (by decide) e3 q3 rfl ?_
        refine Ok.callV (pc' := 65) (av := [pI (h.1 7 k3)]) (rest := []) dX9_drop_62 rfl (by decide) cvX9_drop_100 (shM_0 _) rfl rfl rfl (leb rfl) (leb rfl) K (fun r1 h1 K => ?_)
        show Ok shM 0 0 mX9_drop 65 [some (pR 0), some (pI v1), some (pI v2), some (pI v3), none, none] [pI r1] h1 Post
        refine Ok.istore (pc' := 67) (ls' := [some (pR 0), some (pI v1), some (pI v2), some (pI v3), some (pI r1), none]) dX9_drop_65 rfl (by decide) rfl rfl ?_
        refine Ok.iconst (pc' := 68) in_0 dX9_drop_67 rfl ?_
        refine Ok.istore (pc' := 70) (ls' := [some (pR 0), some (pI v1), some (pI v2), some (pI v3), some (pI r1), some (pI 0)]) dX9_drop_68 rfl (by decide) rfl rfl ?_
        exact K
theorem sX9_drop_135 {v1 v3 v4 : Int} {h : Hp} {Post : Int → Hp → Prop}
    (K : ((h.2.1 0 6 ≤ v4) → Post v3 h) ∧ ((¬ h.2.1 0 6 ≤ v4) → ((¬ (b_iand (b_ishr v1 v4) 1) = 0) → inR ((v4 + 1)) ∧ (Ok shM 0 0 mX9_drop 135 [some (pR 0), some (pI v1), none, some (pI v3), some (pI (v4 + 1)), none] [] h Post)) ∧ (((b_iand (b_ishr v1 v4) 1) = 0) → ∃ k3 : Nat, v4 = (k3 : Int) ∧ k3 < 10 ∧ (((h.1 7 k3 = (-4)) → inR ((v4 + 1)) ∧ (Ok shM 0 0 mX9_drop 135 [some (pR 0), some (pI v1), none, some (pI v3), some (pI (v4 + 1)), none] [] h Post)) ∧ ((¬ h.1 7 k3 = (-4)) → inR ((v3 + 1)) ∧ (inR ((v4 + 1)) ∧ (Ok shM 0 0 mX9_drop 135 [some (pR 0), some (pI v1), none, some (pI (v3 + 1)), some (pI (v4 + 1)), none] [] (hA h 7 k3 (-4)) Post))))))) :
    Ok shM 0 0 mX9_drop 135 [some (pR 0), some (pI v1), none, some (pI v3), some (pI v4), none] [] h Post := by
  show Ok shM 0 0 mX9_drop 135 [some (pR 0), some (pI v1), none, some (pI v3), some (pI v4), none] [] h Post
  refine Ok.iload (pc' := 137) rfl dX9_drop_135 rfl ?_
  refine Ok.aload_n (pc' := 138) rfl dX9_drop_137 rfl ?_
  refine Ok.getI (pc' := 141) (z := h.2.1 0 6) (k := 6) dX9_drop_138 rfl (shM_0 _) rfl inX9 (by decide) rfl rfl wd_987 rfl ?_
  refine Ok.icmp_ge (tgt := 183) dX9_drop_141 rfl rfl (fun c1 => ?_) (fun c1 => ?_)
  · replace K := K.1 c1
    refine Ok.iload_n (pc' := 184) rfl dX9_drop_183 rfl ?_
    exact Ok.iret dX9_drop_184 rfl (by decide) K
  · replace K := K.2 c1
    refine Ok.iload_n (pc' := 145) rfl dX9_drop_144 rfl ?_
    refine Ok.iload (pc' := 147) rfl dX9_drop_145 rfl ?_
    refine Ok.ishr (pc' := 148) dX9_drop_147 rfl ?_
    refine Ok.iconst (pc' := 149) in_1 dX9_drop_148 rfl ?_
    refine Ok.iand (pc' := 150) dX9_drop_149 rfl ?_
    refine Ok.if_ne (tgt := 177) dX9_drop_150 rfl rfl (fun c2 => ?_) (fun c2 => ?_)
    · replace K := K.1 c2
      obtain ⟨q3, K⟩ := K
      refine Ok.iinc (pc' := 180) (ls' := [some (pR 0), some (pI v1), none, some (pI v3), some (pI (v4 + 1)), none]) dX9_drop_177 rfl rfl (by decide) rfl rfl q3 ?_
      refine Ok.goto (tgt := 135) dX9_drop_180 rfl ?_
      exact K
    · replace K := K.2 c2
      refine Ok.aload_n (pc' := 154) rfl dX9_drop_153 rfl ?_
      refine Ok.getR (pc' := 157) (k := 8) dX9_drop_154 rfl (shM_0 _) rfl inX9 (by decide) rfl wd_989 rfl ?_
      refine Ok.iload (pc' := 159) rfl dX9_drop_157 rfl ?_
      obtain ⟨k3, e3, q3, K⟩ := K
      refine Ok.iald (pc' := 160) (z := h.1 7 k3) dX9_drop_159 rfl (shM_7 _) (by decide) e3 q3 rfl ?_
      refine Ok.bipush (pc' := 162) ⟨by decide, by decide⟩ dX9_drop_160 rfl ?_
      refine Ok.icmp_eq (tgt := 177) dX9_drop_162 rfl rfl (fun c4 => ?_) (fun c4 => ?_)
      · replace K := K.1 c4
        obtain ⟨q5, K⟩ := K
        refine Ok.iinc (pc' := 180) (ls' := [some (pR 0), some (pI v1), none, some (pI v3), some (pI (v4 + 1)), none]) dX9_drop_177 rfl rfl (by decide) rfl rfl q5 ?_
        refine Ok.goto (tgt := 135) dX9_drop_180 rfl ?_
        exact K
      · replace K := K.2 c4
        refine Ok.aload_n (pc' := 166) rfl dX9_drop_165 rfl ?_
        refine Ok.getR (pc' := 169) (k := 8) dX9_drop_166 rfl (shM_0 _) rfl inX9 (by decide) rfl wd_989 rfl ?_
        refine Ok.iload (pc' := 171) rfl dX9_drop_169 rfl ?_
        refine Ok.bipush (pc' := 173) ⟨by decide, by decide⟩ dX9_drop_171 rfl ?_
        refine Ok.iast (pc' := 174) dX9_drop_173 rfl (shM_7 _) (by decide) e3 q3 ?_
        obtain ⟨q5, K⟩ := K
        refine Ok.iinc (pc' := 177) (ls' := [some (pR 0), some (pI v1), none, some (pI (v3 + 1)), some (pI v4), none]) dX9_drop_174 rfl rfl (by decide) rfl rfl q5 ?_
        obtain ⟨q6, K⟩ := K
        refine Ok.iinc (pc' := 180) (ls' := [some (pR 0), some (pI v1), none, some (pI (v3 + 1)), some (pI (v4 + 1)), none]) dX9_drop_177 rfl rfl (by decide) rfl rfl q6 ?_
        refine Ok.goto (tgt := 135) dX9_drop_180 rfl ?_
        exact K
theorem sX9_drop_70 {v1 v2 v3 v4 v5 : Int} {h : Hp} {Post : Int → Hp → Prop}
    (K : ((v4 ≤ v5) → inR ((v3 + 1)) ∧ (Ok shM 0 0 mX9_drop 27 [some (pR 0), some (pI v1), some (pI v2), some (pI (v3 + 1)), none, none] [] h Post)) ∧ ((¬ v4 ≤ v5) → ∃ k2 : Nat, v5 = (k2 : Int) ∧ k2 < 600 ∧ (∃ k3 : Nat, h.1 9 k2 = (k3 : Int) ∧ k3 < 600 ∧ (((¬ h.1 1 k3 = 6) → inR ((v5 + 1)) ∧ (Ok shM 0 0 mX9_drop 70 [some (pR 0), some (pI (b_ior v1 0)), some (pI v2), some (pI v3), some (pI v4), some (pI (v5 + 1))] [] h Post)) ∧ ((h.1 1 k3 = 6) → inR ((v5 + 1)) ∧ (Ok shM 0 0 mX9_drop 70 [some (pR 0), some (pI (b_ior v1 (b_ishl 1 (h.1 2 k3)))), some (pI v2), some (pI v3), some (pI v4), some (pI (v5 + 1))] [] h Post)))))) :
    Ok shM 0 0 mX9_drop 70 [some (pR 0), some (pI v1), some (pI v2), some (pI v3), some (pI v4), some (pI v5)] [] h Post := by
  show Ok shM 0 0 mX9_drop 70 [some (pR 0), some (pI v1), some (pI v2), some (pI v3), some (pI v4), some (pI v5)] [] h Post
  refine Ok.iload (pc' := 72) rfl dX9_drop_70 rfl ?_
  refine Ok.iload (pc' := 74) rfl dX9_drop_72 rfl ?_
  refine Ok.icmp_ge (tgt := 121) dX9_drop_74 rfl rfl (fun c1 => ?_) (fun c1 => ?_)
  · replace K := K.1 c1
    obtain ⟨q2, K⟩ := K
    refine Ok.iinc (pc' := 124) (ls' := [some (pR 0), some (pI v1), some (pI v2), some (pI (v3 + 1)), some (pI v4), some (pI v5)]) dX9_drop_121 rfl rfl (by decide) rfl rfl q2 ?_
    refine Ok.goto (tgt := 27) dX9_drop_124 rfl ?_
    exact Ok.fl (ls' := [some (pR 0), some (pI v1), some (pI v2), some (pI (v3 + 1)), none, none]) K ⟨rfl, rfl, rfl, rfl, trivial⟩
  · replace K := K.2 c1
    refine Ok.iload_n (pc' := 78) rfl dX9_drop_77 rfl ?_
    refine Ok.aload_n (pc' := 79) rfl dX9_drop_78 rfl ?_
    refine Ok.getR (pc' := 82) (k := 1) dX9_drop_79 rfl (shM_0 _) rfl inX9 (by decide) rfl wd_982 rfl ?_
    refine Ok.aload_n (pc' := 83) rfl dX9_drop_82 rfl ?_
    refine Ok.getR (pc' := 86) (k := 10) dX9_drop_83 rfl (shM_0 _) rfl inX9 (by decide) rfl wd_991 rfl ?_
    refine Ok.iload (pc' := 88) rfl dX9_drop_86 rfl ?_
    obtain ⟨k2, e2, q2, K⟩ := K
    refine Ok.iald (pc' := 89) (z := h.1 9 k2) dX9_drop_88 rfl (shM_9 _) (by decide) e2 q2 rfl ?_
    obtain ⟨k3, e3, q3, K⟩ := K
    refine Ok.iald (pc' := 90) (z := h.1 1 k3) dX9_drop_89 rfl (shM_1 _) (by decide) e3 q3 rfl ?_
    refine Ok.bipush (pc' := 92) ⟨by decide, by decide⟩ dX9_drop_90 rfl ?_
    refine Ok.icmp_ne (tgt := 112) dX9_drop_92 rfl rfl (fun c4 => ?_) (fun c4 => ?_)
    · replace K := K.1 c4
      refine Ok.iconst (pc' := 113) in_0 dX9_drop_112 rfl ?_
      refine Ok.ior (pc' := 114) dX9_drop_113 rfl ?_
      refine Ok.istore_n (pc' := 115) (ls' := [some (pR 0), some (pI (b_ior v1 0)), some (pI v2), some (pI v3), some (pI v4), some (pI v5)]) dX9_drop_114 rfl (by decide) rfl rfl ?_
      obtain ⟨q5, K⟩ := K
      refine Ok.iinc (pc' := 118) (ls' := [some (pR 0), some (pI (b_ior v1 0)), some (pI v2), some (pI v3), some (pI v4), some (pI (v5 + 1))]) dX9_drop_115 rfl rfl (by decide) rfl rfl q5 ?_
      refine Ok.goto (tgt := 70) dX9_drop_118 rfl ?_
      exact K
    · replace K := K.2 c4
      refine Ok.iconst (pc' := 96) in_1 dX9_drop_95 rfl ?_
      refine Ok.aload_n (pc' := 97) rfl dX9_drop_96 rfl ?_
      refine Ok.getR (pc' := 100) (k := 2) dX9_drop_97 rfl (shM_0 _) rfl inX9 (by decide) rfl wd_983 rfl ?_
      refine Ok.aload_n (pc' := 101) rfl dX9_drop_100 rfl ?_
      refine Ok.getR (pc' := 104) (k := 10) dX9_drop_101 rfl (shM_0 _) rfl inX9 (by decide) rfl wd_991 rfl ?_
      refine Ok.iload (pc' := 106) rfl dX9_drop_104 rfl ?_
      refine Ok.iald (pc' := 107) (z := h.1 9 k2) dX9_drop_106 rfl (shM_9 _) (by decide) e2 q2 rfl ?_
      refine Ok.iald (pc' := 108) (z := h.1 2 k3) dX9_drop_107 rfl (shM_2 _) (by decide) e3 q3 rfl ?_
      refine Ok.ishl (pc' := 109) dX9_drop_108 rfl ?_
      refine Ok.goto (tgt := 113) dX9_drop_109 rfl ?_
      refine Ok.ior (pc' := 114) dX9_drop_113 rfl ?_
      refine Ok.istore_n (pc' := 115) (ls' := [some (pR 0), some (pI (b_ior v1 (b_ishl 1 (h.1 2 k3)))), some (pI v2), some (pI v3), some (pI v4), some (pI v5)]) dX9_drop_114 rfl (by decide) rfl rfl ?_
      obtain ⟨q5, K⟩ := K
      refine Ok.iinc (pc' := 118) (ls' := [some (pR 0), some (pI (b_ior v1 (b_ishl 1 (h.1 2 k3)))), some (pI v2), some (pI v3), some (pI v4), some (pI (v5 + 1))]) dX9_drop_115 rfl rfl (by decide) rfl rfl q5 ?_
      refine Ok.goto (tgt := 70) dX9_drop_118 rfl ?_
      exact K
theorem sX9_looks_0 {r : Int} {h : Hp} {Post : Int → Hp → Prop}
    (K : Ok shM 0 0 mX9_looks 7 [some (pR 0), some (pI r), some (pI 0)] [] (hI h 0 37 0) Post) :
    Cl shM mX9_looks [pR 0, pI r] h Post := by
  show Ok shM 0 0 mX9_looks 0 [some (pR 0), some (pI r), none] [] h Post
  refine Ok.aload_n (pc' := 1) rfl dX9_looks_0 rfl ?_
  refine Ok.iconst (pc' := 2) in_0 dX9_looks_1 rfl ?_
  refine Ok.putI (pc' := 5) (k := 37) dX9_looks_2 rfl (shM_0 _) rfl inX9 tyX9 tyX9_ok nmX9 (by decide) rfl wd_1018 rfl rfl (Or.inl rfl) ?_
  refine Ok.iconst (pc' := 6) in_0 dX9_looks_5 rfl ?_
  refine Ok.istore_n (pc' := 7) (ls' := [some (pR 0), some (pI r), some (pI 0)]) dX9_looks_6 rfl (by decide) rfl rfl ?_
  exact K
theorem sX9_looks_7 {r v2 : Int} {h : Hp} {Post : Int → Hp → Prop}
    (K : ((h.2.1 0 0 ≤ v2) → Post 0 h) ∧ ((¬ h.2.1 0 0 ≤ v2) → ((12 ≤ h.2.1 0 37) → Post 0 h) ∧ ((¬ 12 ≤ h.2.1 0 37) → Cl shM mX9_isCall [pR 0, pI v2] h (fun r1 h1 => ((r1 = 0) → inR ((v2 + 1)) ∧ (Ok shM 0 0 mX9_looks 7 [some (pR 0), some (pI r), some (pI (v2 + 1))] [] h1 Post)) ∧ ((¬ r1 = 0) → Cl shM mX9_homeOf [pR 0, pI v2] h1 (fun r2 h2 => ((¬ r2 = r) → inR ((v2 + 1)) ∧ (Ok shM 0 0 mX9_looks 7 [some (pR 0), some (pI r), some (pI (v2 + 1))] [] h2 Post)) ∧ ((r2 = r) → ∃ k5 : Nat, v2 = (k5 : Int) ∧ k5 < 600 ∧ (((h2.1 2 k5 = r) → inR ((v2 + 1)) ∧ (Ok shM 0 0 mX9_looks 7 [some (pR 0), some (pI r), some (pI (v2 + 1))] [] h2 Post)) ∧ ((¬ h2.1 2 k5 = r) → ∃ k7 : Nat, h2.1 2 k5 = (k7 : Int) ∧ k7 < 10 ∧ (((h2.1 7 k7 = (-4)) → inR ((v2 + 1)) ∧ (Ok shM 0 0 mX9_looks 7 [some (pR 0), some (pI r), some (pI (v2 + 1))] [] h2 Post)) ∧ ((¬ h2.1 7 k7 = (-4)) → ∃ k9 : Nat, h2.2.1 0 37 = (k9 : Int) ∧ k9 < 12 ∧ (Cl shM mX9_weightOf [pR 0, pI v2] (hA (hA h2 24 k9 v2) 25 k9 (wr (4 * h2.1 5 k5))) (fun r3 h3 => inR ((h3.2.1 0 37 + 1)) ∧ (inR ((v2 + 1)) ∧ (Ok shM 0 0 mX9_looks 7 [some (pR 0), some (pI r), some (pI (v2 + 1))] [] (hI (hA h3 26 k9 r3) 0 37 (h3.2.1 0 37 + 1)) Post))))))))))))))) :
    Ok shM 0 0 mX9_looks 7 [some (pR 0), some (pI r), some (pI v2)] [] h Post := by
  show Ok shM 0 0 mX9_looks 7 [some (pR 0), some (pI r), some (pI v2)] [] h Post
  refine Ok.iload_n (pc' := 8) rfl dX9_looks_7 rfl ?_
  refine Ok.aload_n (pc' := 9) rfl dX9_looks_8 rfl ?_
  refine Ok.getI (pc' := 12) (z := h.2.1 0 0) (k := 0) dX9_looks_9 rfl (shM_0 _) rfl inX9 (by decide) rfl rfl wd_981 rfl ?_
  refine Ok.icmp_ge (tgt := 124) dX9_looks_12 rfl rfl (fun c1 => ?_) (fun c1 => ?_)
  · replace K := K.1 c1
    exact Ok.vret dX9_looks_124 rfl (by decide) K
  · replace K := K.2 c1
    refine Ok.aload_n (pc' := 16) rfl dX9_looks_15 rfl ?_
    refine Ok.getI (pc' := 19) (z := h.2.1 0 37) (k := 37) dX9_looks_16 rfl (shM_0 _) rfl inX9 (by decide) rfl rfl wd_1018 rfl ?_
    refine Ok.bipush (pc' := 21) ⟨by decide, by decide⟩ dX9_looks_19 rfl ?_
    refine Ok.icmp_ge (tgt := 124) dX9_looks_21 rfl rfl (fun c2 => ?_) (fun c2 => ?_)
    · replace K := K.1 c2
      exact Ok.vret dX9_looks_124 rfl (by decide) K
    · replace K := K.2 c2
      refine Ok.aload_n (pc' := 25) rfl dX9_looks_24 rfl ?_
      refine Ok.iload_n (pc' := 26) rfl dX9_looks_25 rfl ?_
      refine Ok.callV (pc' := 29) (av := [pI v2]) (rest := []) dX9_looks_26 rfl (by decide) cvX9_looks_257 (shM_0 _) rfl rfl rfl (leb rfl) (leb rfl) K (fun r1 h1 K => ?_)
      show Ok shM 0 0 mX9_looks 29 [some (pR 0), some (pI r), some (pI v2)] [pI r1] h1 Post
      refine Ok.if_eq (tgt := 118) dX9_looks_29 rfl rfl (fun c3 => ?_) (fun c3 => ?_)
      · replace K := K.1 c3
        obtain ⟨q4, K⟩ := K
        refine Ok.iinc (pc' := 121) (ls' := [some (pR 0), some (pI r), some (pI (v2 + 1))]) dX9_looks_118 rfl rfl (by decide) rfl rfl q4 ?_
        refine Ok.goto (tgt := 7) dX9_looks_121 rfl ?_
        exact K
      · replace K := K.2 c3
        refine Ok.aload_n (pc' := 33) rfl dX9_looks_32 rfl ?_
        refine Ok.iload_n (pc' := 34) rfl dX9_looks_33 rfl ?_
        refine Ok.callV (pc' := 37) (av := [pI v2]) (rest := []) dX9_looks_34 rfl (by decide) cvX9_looks_159 (shM_0 _) rfl rfl rfl (leb rfl) (leb rfl) K (fun r2 h2 K => ?_)
        show Ok shM 0 0 mX9_looks 37 [some (pR 0), some (pI r), some (pI v2)] [pI r2] h2 Post
        refine Ok.iload_n (pc' := 38) rfl dX9_looks_37 rfl ?_
        refine Ok.icmp_ne (tgt := 118) dX9_looks_38 rfl rfl (fun c4 => ?_) (fun c4 => ?_)
        · replace K := K.1 c4
          obtain ⟨q5, K⟩ := K
          refine Ok.iinc (pc' := 121) (ls' := [some (pR 0), some (pI r), some (pI (v2 + 1))]) dX9_looks_118 rfl rfl (by decide) rfl rfl q5 ?_
          refine Ok.goto (tgt := 7) dX9_looks_121 rfl ?_
          exact K
        · replace K := K.2 c4
          refine Ok.aload_n (pc' := 42) rfl dX9_looks_41 rfl ?_
          refine Ok.getR (pc' := 45) (k := 2) dX9_looks_42 rfl (shM_0 _) rfl inX9 (by decide) rfl wd_983 rfl ?_
          refine Ok.iload_n (pc' := 46) rfl dX9_looks_45 rfl ?_
          obtain ⟨k5, e5, q5, K⟩ := K
          refine Ok.iald (pc' := 47) (z := h2.1 2 k5) dX9_looks_46 rfl (shM_2 _) (by decide) e5 q5 rfl ?_
          refine Ok.iload_n (pc' := 48) rfl dX9_looks_47 rfl ?_
          refine Ok.icmp_eq (tgt := 118) dX9_looks_48 rfl rfl (fun c6 => ?_) (fun c6 => ?_)
          · replace K := K.1 c6
            obtain ⟨q7, K⟩ := K
            refine Ok.iinc (pc' := 121) (ls' := [some (pR 0), some (pI r), some (pI (v2 + 1))]) dX9_looks_118 rfl rfl (by decide) rfl rfl q7 ?_
            refine Ok.goto (tgt := 7) dX9_looks_121 rfl ?_
            exact K
          · replace K := K.2 c6
            refine Ok.aload_n (pc' := 52) rfl dX9_looks_51 rfl ?_
            refine Ok.getR (pc' := 55) (k := 8) dX9_looks_52 rfl (shM_0 _) rfl inX9 (by decide) rfl wd_989 rfl ?_
            refine Ok.aload_n (pc' := 56) rfl dX9_looks_55 rfl ?_
            refine Ok.getR (pc' := 59) (k := 2) dX9_looks_56 rfl (shM_0 _) rfl inX9 (by decide) rfl wd_983 rfl ?_
            refine Ok.iload_n (pc' := 60) rfl dX9_looks_59 rfl ?_
            refine Ok.iald (pc' := 61) (z := h2.1 2 k5) dX9_looks_60 rfl (shM_2 _) (by decide) e5 q5 rfl ?_
            obtain ⟨k7, e7, q7, K⟩ := K
            refine Ok.iald (pc' := 62) (z := h2.1 7 k7) dX9_looks_61 rfl (shM_7 _) (by decide) e7 q7 rfl ?_
            refine Ok.bipush (pc' := 64) ⟨by decide, by decide⟩ dX9_looks_62 rfl ?_
            refine Ok.icmp_eq (tgt := 118) dX9_looks_64 rfl rfl (fun c8 => ?_) (fun c8 => ?_)
            · replace K := K.1 c8
              obtain ⟨q9, K⟩ := K
              refine Ok.iinc (pc' := 121) (ls' := [some (pR 0), some (pI r), some (pI (v2 + 1))]) dX9_looks_118 rfl rfl (by decide) rfl rfl q9 ?_
              refine Ok.goto (tgt := 7) dX9_looks_121 rfl ?_
              exact K
            · replace K := K.2 c8
              refine Ok.aload_n (pc' := 68) rfl dX9_looks_67 rfl ?_
              refine Ok.getR (pc' := 71) (k := 38) dX9_looks_68 rfl (shM_0 _) rfl inX9 (by decide) rfl wd_1019 rfl ?_
              refine Ok.aload_n (pc' := 72) rfl dX9_looks_71 rfl ?_
              refine Ok.getI (pc' := 75) (z := h2.2.1 0 37) (k := 37) dX9_looks_72 rfl (shM_0 _) rfl inX9 (by decide) rfl rfl wd_1018 rfl ?_
              refine Ok.iload_n (pc' := 76) rfl dX9_looks_75 rfl ?_
              obtain ⟨k9, e9, q9, K⟩ := K
              refine Ok.iast (pc' := 77) dX9_looks_76 rfl (shM_24 _) (by decide) e9 q9 ?_
              refine Ok.aload_n (pc' := 78) rfl dX9_looks_77 rfl ?_
              refine Ok.getR (pc' := 81) (k := 39) dX9_looks_78 rfl (shM_0 _) rfl inX9 (by decide) rfl wd_1020 rfl ?_
              refine Ok.aload_n (pc' := 82) rfl dX9_looks_81 rfl ?_
              refine Ok.getI (pc' := 85) (z := h2.2.1 0 37) (k := 37) dX9_looks_82 rfl (shM_0 _) rfl inX9 (by decide) rfl rfl wd_1018 rfl ?_
              refine Ok.iconst (pc' := 86) in_4 dX9_looks_85 rfl ?_
              refine Ok.aload_n (pc' := 87) rfl dX9_looks_86 rfl ?_
              refine Ok.getR (pc' := 90) (k := 5) dX9_looks_87 rfl (shM_0 _) rfl inX9 (by decide) rfl wd_986 rfl ?_
              refine Ok.iload_n (pc' := 91) rfl dX9_looks_90 rfl ?_
              refine Ok.iald (pc' := 92) (z := h2.1 5 k5) dX9_looks_91 rfl (shM_5 _) (by decide) e5 q5 rfl ?_
              refine Ok.imulw (pc' := 93) dX9_looks_92 rfl ?_
              refine Ok.iast (pc' := 94) dX9_looks_93 rfl (shM_25 _) (by decide) e9 q9 ?_
              refine Ok.aload_n (pc' := 95) rfl dX9_looks_94 rfl ?_
              refine Ok.getR (pc' := 98) (k := 40) dX9_looks_95 rfl (shM_0 _) rfl inX9 (by decide) rfl wd_1021 rfl ?_
              refine Ok.aload_n (pc' := 99) rfl dX9_looks_98 rfl ?_
              refine Ok.getI (pc' := 102) (z := h2.2.1 0 37) (k := 37) dX9_looks_99 rfl (shM_0 _) rfl inX9 (by decide) rfl rfl wd_1018 rfl ?_
              refine Ok.aload_n (pc' := 103) rfl dX9_looks_102 rfl ?_
              refine Ok.iload_n (pc' := 104) rfl dX9_looks_103 rfl ?_
              refine Ok.callV (pc' := 107) (av := [pI v2]) (rest := [pI (h2.2.1 0 37), pR 26]) dX9_looks_104 rfl (by decide) cvX9_looks_260 (shM_0 _) rfl rfl rfl (leb rfl) (leb rfl) K (fun r3 h3 K => ?_)
              show Ok shM 0 0 mX9_looks 107 [some (pR 0), some (pI r), some (pI v2)] [pI r3, pI (h2.2.1 0 37), pR 26] h3 Post
              refine Ok.iast (pc' := 108) dX9_looks_107 rfl (shM_26 _) (by decide) e9 q9 ?_
              refine Ok.aload_n (pc' := 109) rfl dX9_looks_108 rfl ?_
              refine Ok.dup (pc' := 110) dX9_looks_109 rfl rfl ?_
              refine Ok.getI (pc' := 113) (z := h3.2.1 0 37) (k := 37) dX9_looks_110 rfl (shM_0 _) rfl inX9 (by decide) rfl rfl wd_1018 rfl ?_
              refine Ok.iconst (pc' := 114) in_1 dX9_looks_113 rfl ?_
              obtain ⟨q10, K⟩ := K
              refine Ok.iadd (pc' := 115) dX9_looks_114 rfl q10 ?_
              refine Ok.putI (pc' := 118) (k := 37) dX9_looks_115 rfl (shM_0 _) rfl inX9 tyX9 tyX9_ok nmX9 (by decide) rfl wd_1018 rfl rfl (Or.inl rfl) ?_
              obtain ⟨q11, K⟩ := K
              refine Ok.iinc (pc' := 121) (ls' := [some (pR 0), some (pI r), some (pI (v2 + 1))]) dX9_looks_118 rfl rfl (by decide) rfl rfl q11 ?_
              refine Ok.goto (tgt := 7) dX9_looks_121 rfl ?_
              exact K
theorem sX9_isAhead_0 {x y : Int} {h : Hp} {Post : Int → Hp → Prop}
    (K : (((b_iand x (b_iand (b_ixor x y) (b_ineg (b_ixor x y)))) = 0) → ((¬ (b_iand (b_iand x (b_ineg (b_iand (b_ixor x y) (b_ineg (b_ixor x y))))) (b_ixor (b_iand (b_ixor x y) (b_ineg (b_ixor x y))) (-1))) = 0) → Post 0 h) ∧ (((b_iand (b_iand x (b_ineg (b_iand (b_ixor x y) (b_ineg (b_ixor x y))))) (b_ixor (b_iand (b_ixor x y) (b_ineg (b_ixor x y))) (-1))) = 0) → Post 1 h)) ∧ ((¬ (b_iand x (b_iand (b_ixor x y) (b_ineg (b_ixor x y)))) = 0) → (((b_iand (b_iand y (b_ineg (b_iand (b_ixor x y) (b_ineg (b_ixor x y))))) (b_ixor (b_iand (b_ixor x y) (b_ineg (b_ixor x y))) (-1))) = 0) → Post 0 h) ∧ ((¬ (b_iand (b_iand y (b_ineg (b_iand (b_ixor x y) (b_ineg (b_ixor x y))))) (b_ixor (b_iand (b_ixor x y) (b_ineg (b_ixor x y))) (-1))) = 0) → Post 1 h))) :
    Cl shM mX9_isAhead [pI x, pI y] h Post := by
  show Ok shM 0 0 mX9_isAhead 0 [some (pI x), some (pI y), none, none] [] h Post
  refine Ok.iload_n (pc' := 1) rfl dX9_isAhead_0 rfl ?_
  refine Ok.iload_n (pc' := 2) rfl dX9_isAhead_1 rfl ?_
  refine Ok.ixor (pc' := 3) dX9_isAhead_2 rfl ?_
  refine Ok.istore_n (pc' := 4) (ls' := [some (pI x), some (pI y), some (pI (b_ixor x y)), none]) dX9_isAhead_3 rfl (by decide) rfl rfl ?_
  refine Ok.iload_n (pc' := 5) rfl dX9_isAhead_4 rfl ?_
  refine Ok.iload_n (pc' := 6) rfl dX9_isAhead_5 rfl ?_
  refine Ok.ineg (pc' := 7) dX9_isAhead_6 rfl ?_
  refine Ok.iand (pc' := 8) dX9_isAhead_7 rfl ?_
  refine Ok.istore_n (pc' := 9) (ls' := [some (pI x), some (pI y), some (pI (b_ixor x y)), some (pI (b_iand (b_ixor x y) (b_ineg (b_ixor x y))))]) dX9_isAhead_8 rfl (by decide) rfl rfl ?_
  refine Ok.iload_n (pc' := 10) rfl dX9_isAhead_9 rfl ?_
  refine Ok.iload_n (pc' := 11) rfl dX9_isAhead_10 rfl ?_
  refine Ok.iand (pc' := 12) dX9_isAhead_11 rfl ?_
  refine Ok.if_eq (tgt := 32) dX9_isAhead_12 rfl rfl (fun c1 => ?_) (fun c1 => ?_)
  · replace K := K.1 c1
    refine Ok.iload_n (pc' := 33) rfl dX9_isAhead_32 rfl ?_
    refine Ok.iload_n (pc' := 34) rfl dX9_isAhead_33 rfl ?_
    refine Ok.ineg (pc' := 35) dX9_isAhead_34 rfl ?_
    refine Ok.iand (pc' := 36) dX9_isAhead_35 rfl ?_
    refine Ok.iload_n (pc' := 37) rfl dX9_isAhead_36 rfl ?_
    refine Ok.iconst (pc' := 38) in_m1 dX9_isAhead_37 rfl ?_
    refine Ok.ixor (pc' := 39) dX9_isAhead_38 rfl ?_
    refine Ok.iand (pc' := 40) dX9_isAhead_39 rfl ?_
    refine Ok.if_ne (tgt := 47) dX9_isAhead_40 rfl rfl (fun c2 => ?_) (fun c2 => ?_)
    · replace K := K.1 c2
      refine Ok.iconst (pc' := 48) in_0 dX9_isAhead_47 rfl ?_
      exact Ok.zret dX9_isAhead_48 rfl (by decide) (Or.inl rfl) K
    · replace K := K.2 c2
      refine Ok.iconst (pc' := 44) in_1 dX9_isAhead_43 rfl ?_
      refine Ok.goto (tgt := 48) dX9_isAhead_44 rfl ?_
      exact Ok.zret dX9_isAhead_48 rfl (by decide) (Or.inr rfl) K
  · replace K := K.2 c1
    refine Ok.iload_n (pc' := 16) rfl dX9_isAhead_15 rfl ?_
    refine Ok.iload_n (pc' := 17) rfl dX9_isAhead_16 rfl ?_
    refine Ok.ineg (pc' := 18) dX9_isAhead_17 rfl ?_
    refine Ok.iand (pc' := 19) dX9_isAhead_18 rfl ?_
    refine Ok.iload_n (pc' := 20) rfl dX9_isAhead_19 rfl ?_
    refine Ok.iconst (pc' := 21) in_m1 dX9_isAhead_20 rfl ?_
    refine Ok.ixor (pc' := 22) dX9_isAhead_21 rfl ?_
    refine Ok.iand (pc' := 23) dX9_isAhead_22 rfl ?_
    refine Ok.if_eq (tgt := 30) dX9_isAhead_23 rfl rfl (fun c2 => ?_) (fun c2 => ?_)
    · replace K := K.1 c2
      refine Ok.iconst (pc' := 31) in_0 dX9_isAhead_30 rfl ?_
      exact Ok.zret dX9_isAhead_31 rfl (by decide) (Or.inl rfl) K
    · replace K := K.2 c2
      refine Ok.iconst (pc' := 27) in_1 dX9_isAhead_26 rfl ?_
      refine Ok.goto (tgt := 31) dX9_isAhead_27 rfl ?_
      exact Ok.zret dX9_isAhead_31 rfl (by decide) (Or.inr rfl) K
theorem sX9_layout_0 {r budget : Int} {h : Hp} {Post : Int → Hp → Prop}
    (K : Cl shM mX9_isRoutine [pR 0, pI r] h (fun r1 h1 => ((r1 = 0) → Post (-1) h1) ∧ ((¬ r1 = 0) → Cl shM mX9_in [pL budget, pL 0, pL 1000] h1 (fun r2 h2 => ((¬ r2 = 0) → ∃ k3 : Nat, r = (k3 : Int) ∧ k3 < 10 ∧ (((¬ h2.1 7 k3 = (-4)) → Cl shM mX9_looks [pR 0, pI r] h2 (fun _ h3 => Ok shM 0 0 mX9_layout 52 [some (pR 0), none, some (pI budget), some (pI 0), some (pI 0), some (pI 0), some (pI 1), none, none, none] [] h3 Post)) ∧ ((h2.1 7 k3 = (-4)) → Post (-2) h2))) ∧ ((r2 = 0) → Post (-1) h2))))) :
    Cl shM mX9_layout [pR 0, pI r, pI budget] h Post := by
  show Ok shM 0 0 mX9_layout 0 [some (pR 0), some (pI r), some (pI budget), none, none, none, none, none, none, none] [] h Post
  refine Ok.aload_n (pc' := 1) rfl dX9_layout_0 rfl ?_
  refine Ok.iload_n (pc' := 2) rfl dX9_layout_1 rfl ?_
  refine Ok.callV (pc' := 5) (av := [pI r]) (rest := []) dX9_layout_2 rfl (by decide) cvX9_layout_145 (shM_0 _) rfl rfl rfl (leb rfl) (leb rfl) K (fun r1 h1 K => ?_)
  show Ok shM 0 0 mX9_layout 5 [some (pR 0), some (pI r), some (pI budget), none, none, none, none, none, none, none] [pI r1] h1 Post
  refine Ok.if_eq (tgt := 20) dX9_layout_5 rfl rfl (fun c1 => ?_) (fun c1 => ?_)
  · replace K := K.1 c1
    refine Ok.iconst (pc' := 21) in_m1 dX9_layout_20 rfl ?_
    exact Ok.iret dX9_layout_21 rfl (by decide) K
  · replace K := K.2 c1
    refine Ok.iload_n (pc' := 9) rfl dX9_layout_8 rfl ?_
    refine Ok.i2l (pc' := 10) dX9_layout_9 rfl ?_
    refine Ok.lconst (n := 0) (pc' := 11) ⟨by decide, by decide⟩ rfl dX9_layout_10 rfl ?_
    refine Ok.ldc2 (n := 1000) (pc' := 14) ⟨by decide, by decide⟩ wd_1410 dX9_layout_11 rfl ?_
    refine Ok.callS (pc' := 17) (av := [pL budget, pL 0, pL 1000]) (rest := []) dX9_layout_14 rfl (by decide) cvX9_layout_103 rfl rfl (leb rfl) (leb rfl) K (fun r2 h2 K => ?_)
    show Ok shM 0 0 mX9_layout 17 [some (pR 0), some (pI r), some (pI budget), none, none, none, none, none, none, none] [pI r2] h2 Post
    refine Ok.if_ne (tgt := 22) dX9_layout_17 rfl rfl (fun c2 => ?_) (fun c2 => ?_)
    · replace K := K.1 c2
      refine Ok.aload_n (pc' := 23) rfl dX9_layout_22 rfl ?_
      refine Ok.getR (pc' := 26) (k := 8) dX9_layout_23 rfl (shM_0 _) rfl inX9 (by decide) rfl wd_989 rfl ?_
      refine Ok.iload_n (pc' := 27) rfl dX9_layout_26 rfl ?_
      obtain ⟨k3, e3, q3, K⟩ := K
      refine Ok.iald (pc' := 28) (z := h2.1 7 k3) dX9_layout_27 rfl (shM_7 _) (by decide) e3 q3 rfl ?_
      refine Ok.bipush (pc' := 30) ⟨by decide, by decide⟩ dX9_layout_28 rfl ?_
      refine Ok.icmp_ne (tgt := 36) dX9_layout_30 rfl rfl (fun c4 => ?_) (fun c4 => ?_)
      · replace K := K.1 c4
        refine Ok.aload_n (pc' := 37) rfl dX9_layout_36 rfl ?_
        refine Ok.iload_n (pc' := 38) rfl dX9_layout_37 rfl ?_
        refine Ok.callV (pc' := 41) (av := [pI r]) (rest := []) dX9_layout_38 rfl (by decide) cvX9_layout_309 (shM_0 _) rfl rfl rfl (leb rfl) (leb rfl) K (fun r_ h3 K => ?_)
        show Ok shM 0 0 mX9_layout 41 [some (pR 0), some (pI r), some (pI budget), none, none, none, none, none, none, none] [] h3 Post
        refine Ok.iconst (pc' := 42) in_0 dX9_layout_41 rfl ?_
        refine Ok.istore_n (pc' := 43) (ls' := [some (pR 0), some (pI r), some (pI budget), some (pI 0), none, none, none, none, none, none]) dX9_layout_42 rfl (by decide) rfl rfl ?_
        refine Ok.iconst (pc' := 44) in_0 dX9_layout_43 rfl ?_
        refine Ok.istore (pc' := 46) (ls' := [some (pR 0), some (pI r), some (pI budget), some (pI 0), some (pI 0), none, none, none, none, none]) dX9_layout_44 rfl (by decide) rfl rfl ?_
        refine Ok.iconst (pc' := 47) in_0 dX9_layout_46 rfl ?_
        refine Ok.istore (pc' := 49) (ls' := [some (pR 0), some (pI r), some (pI budget), some (pI 0), some (pI 0), some (pI 0), none, none, none, none]) dX9_layout_47 rfl (by decide) rfl rfl ?_
        refine Ok.iconst (pc' := 50) in_1 dX9_layout_49 rfl ?_
        refine Ok.istore (pc' := 52) (ls' := [some (pR 0), some (pI r), some (pI budget), some (pI 0), some (pI 0), some (pI 0), some (pI 1), none, none, none]) dX9_layout_50 rfl (by decide) rfl rfl ?_
        exact Ok.fl (ls' := [some (pR 0), none, some (pI budget), some (pI 0), some (pI 0), some (pI 0), some (pI 1), none, none, none]) K ⟨rfl, rfl, rfl, rfl, rfl, rfl, trivial⟩
      · replace K := K.2 c4
        refine Ok.bipush (pc' := 35) ⟨by decide, by decide⟩ dX9_layout_33 rfl ?_
        exact Ok.iret dX9_layout_35 rfl (by decide) K
    · replace K := K.2 c2
      refine Ok.iconst (pc' := 21) in_m1 dX9_layout_20 rfl ?_
      exact Ok.iret dX9_layout_21 rfl (by decide) K
theorem sX9_layout_52 {budget v3 v4 v5 v6 : Int} {h : Hp} {Post : Int → Hp → Prop}
    (K : (((b_ishl 1 (h.2.1 0 37)) ≤ v6) → Ok shM 0 0 mX9_layout 262 [some (pR 0), none, none, some (pI v3), none, none, some (pI 0), none, none, none] [] (hI (hI (hI (hI h 0 41 1) 0 42 v4) 0 43 v5) 0 44 0) Post) ∧ ((¬ (b_ishl 1 (h.2.1 0 37)) ≤ v6) → Ok shM 0 0 mX9_layout 72 [some (pR 0), none, some (pI budget), some (pI v3), some (pI v4), some (pI v5), some (pI v6), some (pI 0), some (pI 0), some (pI 0)] [] h Post)) :
    Ok shM 0 0 mX9_layout 52 [some (pR 0), none, some (pI budget), some (pI v3), some (pI v4), some (pI v5), some (pI v6), none, none, none] [] h Post := by
  show Ok shM 0 0 mX9_layout 52 [some (pR 0), none, some (pI budget), some (pI v3), some (pI v4), some (pI v5), some (pI v6), none, none, none] [] h Post
  refine Ok.iload (pc' := 54) rfl dX9_layout_52 rfl ?_
  refine Ok.iconst (pc' := 55) in_1 dX9_layout_54 rfl ?_
  refine Ok.aload_n (pc' := 56) rfl dX9_layout_55 rfl ?_
  refine Ok.getI (pc' := 59) (z := h.2.1 0 37) (k := 37) dX9_layout_56 rfl (shM_0 _) rfl inX9 (by decide) rfl rfl wd_1018 rfl ?_
  refine Ok.ishl (pc' := 60) dX9_layout_59 rfl ?_
  refine Ok.icmp_ge (tgt := 237) dX9_layout_60 rfl rfl (fun c1 => ?_) (fun c1 => ?_)
  · replace K := K.1 c1
    refine Ok.aload_n (pc' := 238) rfl dX9_layout_237 rfl ?_
    refine Ok.iconst (pc' := 239) in_1 dX9_layout_238 rfl ?_
    refine Ok.putI (pc' := 242) (k := 41) dX9_layout_239 rfl (shM_0 _) rfl inX9 tyX9 tyX9_ok nmX9 (by decide) rfl wd_1022 rfl rfl (Or.inr ⟨rfl, Or.inr rfl⟩) ?_
    refine Ok.aload_n (pc' := 243) rfl dX9_layout_242 rfl ?_
    refine Ok.iload (pc' := 245) rfl dX9_layout_243 rfl ?_
    refine Ok.putI (pc' := 248) (k := 42) dX9_layout_245 rfl (shM_0 _) rfl inX9 tyX9 tyX9_ok nmX9 (by decide) rfl wd_1023 rfl rfl (Or.inl rfl) ?_
    refine Ok.aload_n (pc' := 249) rfl dX9_layout_248 rfl ?_
    refine Ok.iload (pc' := 251) rfl dX9_layout_249 rfl ?_
    refine Ok.putI (pc' := 254) (k := 43) dX9_layout_251 rfl (shM_0 _) rfl inX9 tyX9 tyX9_ok nmX9 (by decide) rfl wd_1024 rfl rfl (Or.inl rfl) ?_
    refine Ok.aload_n (pc' := 255) rfl dX9_layout_254 rfl ?_
    refine Ok.iconst (pc' := 256) in_0 dX9_layout_255 rfl ?_
    refine Ok.putI (pc' := 259) (k := 44) dX9_layout_256 rfl (shM_0 _) rfl inX9 tyX9 tyX9_ok nmX9 (by decide) rfl wd_1025 rfl rfl (Or.inl rfl) ?_
    refine Ok.iconst (pc' := 260) in_0 dX9_layout_259 rfl ?_
    refine Ok.istore (pc' := 262) (ls' := [some (pR 0), none, some (pI budget), some (pI v3), some (pI v4), some (pI v5), some (pI 0), none, none, none]) dX9_layout_260 rfl (by decide) rfl rfl ?_
    exact Ok.fl (ls' := [some (pR 0), none, none, some (pI v3), none, none, some (pI 0), none, none, none]) K ⟨rfl, rfl, rfl, trivial⟩
  · replace K := K.2 c1
    refine Ok.iconst (pc' := 64) in_0 dX9_layout_63 rfl ?_
    refine Ok.istore (pc' := 66) (ls' := [some (pR 0), none, some (pI budget), some (pI v3), some (pI v4), some (pI v5), some (pI v6), some (pI 0), none, none]) dX9_layout_64 rfl (by decide) rfl rfl ?_
    refine Ok.iconst (pc' := 67) in_0 dX9_layout_66 rfl ?_
    refine Ok.istore (pc' := 69) (ls' := [some (pR 0), none, some (pI budget), some (pI v3), some (pI v4), some (pI v5), some (pI v6), some (pI 0), some (pI 0), none]) dX9_layout_67 rfl (by decide) rfl rfl ?_
    refine Ok.iconst (pc' := 70) in_0 dX9_layout_69 rfl ?_
    refine Ok.istore (pc' := 72) (ls' := [some (pR 0), none, some (pI budget), some (pI v3), some (pI v4), some (pI v5), some (pI v6), some (pI 0), some (pI 0), some (pI 0)]) dX9_layout_70 rfl (by decide) rfl rfl ?_
    exact K
theorem sX9_layout_72 {budget v3 v4 v5 v6 v7 v8 v9 : Int} {h : Hp} {Post : Int → Hp → Prop}
    (K : ((h.2.1 0 37 ≤ v9) → ((budget < v8) → Ok shM 0 0 mX9_layout 189 [some (pR 0), none, some (pI budget), some (pI v3), some (pI v4), some (pI v5), some (pI v6), some (pI v7), some (pI v8), none] [pI 0] h Post) ∧ ((¬ budget < v8) → ((v4 < v7) → Ok shM 0 0 mX9_layout 189 [some (pR 0), none, some (pI budget), some (pI v3), some (pI v4), some (pI v5), some (pI v6), some (pI v7), some (pI v8), none] [pI 1] h Post) ∧ ((¬ v4 < v7) → ((¬ v7 = v4) → Ok shM 0 0 mX9_layout 189 [some (pR 0), none, some (pI budget), some (pI v3), some (pI v4), some (pI v5), some (pI v6), some (pI v7), some (pI v8), none] [pI 0] h Post) ∧ ((v7 = v4) → ((v8 < v5) → Ok shM 0 0 mX9_layout 189 [some (pR 0), none, some (pI budget), some (pI v3), some (pI v4), some (pI v5), some (pI v6), some (pI v7), some (pI v8), none] [pI 1] h Post) ∧ ((¬ v8 < v5) → ((¬ v8 = v5) → Ok shM 0 0 mX9_layout 189 [some (pR 0), none, some (pI budget), some (pI v3), some (pI v4), some (pI v5), some (pI v6), some (pI v7), some (pI v8), none] [pI 0] h Post) ∧ ((v8 = v5) → Cl shM mX9_isAhead [pI v6, pI v3] h (fun r1 h1 => ((r1 = 0) → Ok shM 0 0 mX9_layout 189 [some (pR 0), none, some (pI budget), some (pI v3), some (pI v4), some (pI v5), some (pI v6), some (pI v7), some (pI v8), none] [pI 0] h1 Post) ∧ ((¬ r1 = 0) → Ok shM 0 0 mX9_layout 189 [some (pR 0), none, some (pI budget), some (pI v3), some (pI v4), some (pI v5), some (pI v6), some (pI v7), some (pI v8), none] [pI 1] h1 Post)))))))) ∧ ((¬ h.2.1 0 37 ≤ v9) → ((¬ (b_iand (b_ishr v6 v9) 1) = 1) → inR ((v8 + 0)) ∧ (inR ((v9 + 1)) ∧ (Ok shM 0 0 mX9_layout 72 [some (pR 0), none, some (pI budget), some (pI v3), some (pI v4), some (pI v5), some (pI v6), some (pI (wr (v7 + 0))), some (pI (v8 + 0)), some (pI (v9 + 1))] [] h Post))) ∧ (((b_iand (b_ishr v6 v9) 1) = 1) → ∃ k3 : Nat, v9 = (k3 : Int) ∧ k3 < 12 ∧ (inR ((v8 + h.1 26 k3)) ∧ (inR ((v9 + 1)) ∧ (Ok shM 0 0 mX9_layout 72 [some (pR 0), none, some (pI budget), some (pI v3), some (pI v4), some (pI v5), some (pI v6), some (pI (wr (v7 + h.1 25 k3))), some (pI (v8 + h.1 26 k3)), some (pI (v9 + 1))] [] h Post)))))) :
    Ok shM 0 0 mX9_layout 72 [some (pR 0), none, some (pI budget), some (pI v3), some (pI v4), some (pI v5), some (pI v6), some (pI v7), some (pI v8), some (pI v9)] [] h Post := by
  show Ok shM 0 0 mX9_layout 72 [some (pR 0), none, some (pI budget), some (pI v3), some (pI v4), some (pI v5), some (pI v6), some (pI v7), some (pI v8), some (pI v9)] [] h Post
  refine Ok.iload (pc' := 74) rfl dX9_layout_72 rfl ?_
  refine Ok.aload_n (pc' := 75) rfl dX9_layout_74 rfl ?_
  refine Ok.getI (pc' := 78) (z := h.2.1 0 37) (k := 37) dX9_layout_75 rfl (shM_0 _) rfl inX9 (by decide) rfl rfl wd_1018 rfl ?_
  refine Ok.icmp_ge (tgt := 141) dX9_layout_78 rfl rfl (fun c1 => ?_) (fun c1 => ?_)
  · replace K := K.1 c1
    refine Ok.iload (pc' := 143) rfl dX9_layout_141 rfl ?_
    refine Ok.iload_n (pc' := 144) rfl dX9_layout_143 rfl ?_
    refine Ok.icmp_gt (tgt := 188) dX9_layout_144 rfl rfl (fun c2 => ?_) (fun c2 => ?_)
    · replace K := K.1 c2
      refine Ok.iconst (pc' := 189) in_0 dX9_layout_188 rfl ?_
      exact Ok.fl (ls' := [some (pR 0), none, some (pI budget), some (pI v3), some (pI v4), some (pI v5), some (pI v6), some (pI v7), some (pI v8), none]) K ⟨rfl, rfl, rfl, rfl, rfl, rfl, rfl, rfl, trivial⟩
    · replace K := K.2 c2
      refine Ok.iload (pc' := 149) rfl dX9_layout_147 rfl ?_
      refine Ok.iload (pc' := 151) rfl dX9_layout_149 rfl ?_
      refine Ok.icmp_gt (tgt := 184) dX9_layout_151 rfl rfl (fun c3 => ?_) (fun c3 => ?_)
      · replace K := K.1 c3
        refine Ok.iconst (pc' := 185) in_1 dX9_layout_184 rfl ?_
        refine Ok.goto (tgt := 189) dX9_layout_185 rfl ?_
        exact Ok.fl (ls' := [some (pR 0), none, some (pI budget), some (pI v3), some (pI v4), some (pI v5), some (pI v6), some (pI v7), some (pI v8), none]) K ⟨rfl, rfl, rfl, rfl, rfl, rfl, rfl, rfl, trivial⟩
      · replace K := K.2 c3
        refine Ok.iload (pc' := 156) rfl dX9_layout_154 rfl ?_
        refine Ok.iload (pc' := 158) rfl dX9_layout_156 rfl ?_
        refine Ok.icmp_ne (tgt := 188) dX9_layout_158 rfl rfl (fun c4 => ?_) (fun c4 => ?_)
        · replace K := K.1 c4
          refine Ok.iconst (pc' := 189) in_0 dX9_layout_188 rfl ?_
          exact Ok.fl (ls' := [some (pR 0), none, some (pI budget), some (pI v3), some (pI v4), some (pI v5), some (pI v6), some (pI v7), some (pI v8), none]) K ⟨rfl, rfl, rfl, rfl, rfl, rfl, rfl, rfl, trivial⟩
        · replace K := K.2 c4
          refine Ok.iload (pc' := 163) rfl dX9_layout_161 rfl ?_
          refine Ok.iload (pc' := 165) rfl dX9_layout_163 rfl ?_
          refine Ok.icmp_lt (tgt := 184) dX9_layout_165 rfl rfl (fun c5 => ?_) (fun c5 => ?_)
          · replace K := K.1 c5
            refine Ok.iconst (pc' := 185) in_1 dX9_layout_184 rfl ?_
            refine Ok.goto (tgt := 189) dX9_layout_185 rfl ?_
            exact Ok.fl (ls' := [some (pR 0), none, some (pI budget), some (pI v3), some (pI v4), some (pI v5), some (pI v6), some (pI v7), some (pI v8), none]) K ⟨rfl, rfl, rfl, rfl, rfl, rfl, rfl, rfl, trivial⟩
          · replace K := K.2 c5
            refine Ok.iload (pc' := 170) rfl dX9_layout_168 rfl ?_
            refine Ok.iload (pc' := 172) rfl dX9_layout_170 rfl ?_
            refine Ok.icmp_ne (tgt := 188) dX9_layout_172 rfl rfl (fun c6 => ?_) (fun c6 => ?_)
            · replace K := K.1 c6
              refine Ok.iconst (pc' := 189) in_0 dX9_layout_188 rfl ?_
              exact Ok.fl (ls' := [some (pR 0), none, some (pI budget), some (pI v3), some (pI v4), some (pI v5), some (pI v6), some (pI v7), some (pI v8), none]) K ⟨rfl, rfl, rfl, rfl, rfl, rfl, rfl, rfl, trivial⟩
            · replace K := K.2 c6
              refine Ok.iload (pc' := 177) rfl dX9_layout_175 rfl ?_
              refine Ok.iload_n (pc' := 178) rfl dX9_layout_177 rfl ?_
              refine Ok.callS (pc' := 181) (av := [pI v6, pI v3]) (rest := []) dX9_layout_178 rfl (by decide) cvX9_layout_312 rfl rfl (leb rfl) (leb rfl) K (fun r1 h1 K => ?_)
              show Ok shM 0 0 mX9_layout 181 [some (pR 0), none, some (pI budget), some (pI v3), some (pI v4), some (pI v5), some (pI v6), some (pI v7), some (pI v8), some (pI v9)] [pI r1] h1 Post
              refine Ok.if_eq (tgt := 188) dX9_layout_181 rfl rfl (fun c7 => ?_) (fun c7 => ?_)
              · replace K := K.1 c7
                refine Ok.iconst (pc' := 189) in_0 dX9_layout_188 rfl ?_
                exact Ok.fl (ls' := [some (pR 0), none, some (pI budget), some (pI v3), some (pI v4), some (pI v5), some (pI v6), some (pI v7), some (pI v8), none]) K ⟨rfl, rfl, rfl, rfl, rfl, rfl, rfl, rfl, trivial⟩
              · replace K := K.2 c7
                refine Ok.iconst (pc' := 185) in_1 dX9_layout_184 rfl ?_
                refine Ok.goto (tgt := 189) dX9_layout_185 rfl ?_
                exact Ok.fl (ls' := [some (pR 0), none, some (pI budget), some (pI v3), some (pI v4), some (pI v5), some (pI v6), some (pI v7), some (pI v8), none]) K ⟨rfl, rfl, rfl, rfl, rfl, rfl, rfl, rfl, trivial⟩
  · replace K := K.2 c1
    refine Ok.iload (pc' := 83) rfl dX9_layout_81 rfl ?_
    refine Ok.iload (pc' := 85) rfl dX9_layout_83 rfl ?_
    refine Ok.iload (pc' := 87) rfl dX9_layout_85 rfl ?_
    refine Ok.ishr (pc' := 88) dX9_layout_87 rfl ?_
    refine Ok.iconst (pc' := 89) in_1 dX9_layout_88 rfl ?_
    refine Ok.iand (pc' := 90) dX9_layout_89 rfl ?_
    refine Ok.iconst (pc' := 91) in_1 dX9_layout_90 rfl ?_
    refine Ok.icmp_ne (tgt := 104) dX9_layout_91 rfl rfl (fun c2 => ?_) (fun c2 => ?_)
    · replace K := K.1 c2
      refine Ok.iconst (pc' := 105) in_0 dX9_layout_104 rfl ?_
      refine Ok.iaddw (pc' := 106) dX9_layout_105 rfl ?_
      refine Ok.istore (pc' := 108) (ls' := [some (pR 0), none, some (pI budget), some (pI v3), some (pI v4), some (pI v5), some (pI v6), some (pI (wr (v7 + 0))), some (pI v8), some (pI v9)]) dX9_layout_106 rfl (by decide) rfl rfl ?_
      refine Ok.iload (pc' := 110) rfl dX9_layout_108 rfl ?_
      refine Ok.iload (pc' := 112) rfl dX9_layout_110 rfl ?_
      refine Ok.iload (pc' := 114) rfl dX9_layout_112 rfl ?_
      refine Ok.ishr (pc' := 115) dX9_layout_114 rfl ?_
      refine Ok.iconst (pc' := 116) in_1 dX9_layout_115 rfl ?_
      refine Ok.iand (pc' := 117) dX9_layout_116 rfl ?_
      refine Ok.iconst (pc' := 118) in_1 dX9_layout_117 rfl ?_
      refine Ok.icmp_ne (tgt := 131) dX9_layout_118 rfl rfl (fun _ => ?_) (fun z => absurd z c2)
      refine Ok.iconst (pc' := 132) in_0 dX9_layout_131 rfl ?_
      obtain ⟨q3, K⟩ := K
      refine Ok.iadd (pc' := 133) dX9_layout_132 rfl q3 ?_
      refine Ok.istore (pc' := 135) (ls' := [some (pR 0), none, some (pI budget), some (pI v3), some (pI v4), some (pI v5), some (pI v6), some (pI (wr (v7 + 0))), some (pI (v8 + 0)), some (pI v9)]) dX9_layout_133 rfl (by decide) rfl rfl ?_
      obtain ⟨q4, K⟩ := K
      refine Ok.iinc (pc' := 138) (ls' := [some (pR 0), none, some (pI budget), some (pI v3), some (pI v4), some (pI v5), some (pI v6), some (pI (wr (v7 + 0))), some (pI (v8 + 0)), some (pI (v9 + 1))]) dX9_layout_135 rfl rfl (by decide) rfl rfl q4 ?_
      refine Ok.goto (tgt := 72) dX9_layout_138 rfl ?_
      exact K
    · replace K := K.2 c2
      refine Ok.aload_n (pc' := 95) rfl dX9_layout_94 rfl ?_
      refine Ok.getR (pc' := 98) (k := 39) dX9_layout_95 rfl (shM_0 _) rfl inX9 (by decide) rfl wd_1020 rfl ?_
      refine Ok.iload (pc' := 100) rfl dX9_layout_98 rfl ?_
      obtain ⟨k3, e3, q3, K⟩ := K
      refine Ok.iald (pc' := 101) (z := h.1 25 k3) dX9_layout_100 rfl (shM_25 _) (by decide) e3 q3 rfl ?_
      refine Ok.goto (tgt := 105) dX9_layout_101 rfl ?_
      refine Ok.iaddw (pc' := 106) dX9_layout_105 rfl ?_
      refine Ok.istore (pc' := 108) (ls' := [some (pR 0), none, some (pI budget), some (pI v3), some (pI v4), some (pI v5), some (pI v6), some (pI (wr (v7 + h.1 25 k3))), some (pI v8), some (pI v9)]) dX9_layout_106 rfl (by decide) rfl rfl ?_
      refine Ok.iload (pc' := 110) rfl dX9_layout_108 rfl ?_
      refine Ok.iload (pc' := 112) rfl dX9_layout_110 rfl ?_
      refine Ok.iload (pc' := 114) rfl dX9_layout_112 rfl ?_
      refine Ok.ishr (pc' := 115) dX9_layout_114 rfl ?_
      refine Ok.iconst (pc' := 116) in_1 dX9_layout_115 rfl ?_
      refine Ok.iand (pc' := 117) dX9_layout_116 rfl ?_
      refine Ok.iconst (pc' := 118) in_1 dX9_layout_117 rfl ?_
      refine Ok.icmp_ne (tgt := 131) dX9_layout_118 rfl rfl (fun z => absurd c2 z) (fun _ => ?_)
      refine Ok.aload_n (pc' := 122) rfl dX9_layout_121 rfl ?_
      refine Ok.getR (pc' := 125) (k := 40) dX9_layout_122 rfl (shM_0 _) rfl inX9 (by decide) rfl wd_1021 rfl ?_
      refine Ok.iload (pc' := 127) rfl dX9_layout_125 rfl ?_
      refine Ok.iald (pc' := 128) (z := h.1 26 k3) dX9_layout_127 rfl (shM_26 _) (by decide) e3 q3 rfl ?_
      refine Ok.goto (tgt := 132) dX9_layout_128 rfl ?_
      obtain ⟨q4, K⟩ := K
      refine Ok.iadd (pc' := 133) dX9_layout_132 rfl q4 ?_
      refine Ok.istore (pc' := 135) (ls' := [some (pR 0), none, some (pI budget), some (pI v3), some (pI v4), some (pI v5), some (pI v6), some (pI (wr (v7 + h.1 25 k3))), some (pI (v8 + h.1 26 k3)), some (pI v9)]) dX9_layout_133 rfl (by decide) rfl rfl ?_
      obtain ⟨q5, K⟩ := K
      refine Ok.iinc (pc' := 138) (ls' := [some (pR 0), none, some (pI budget), some (pI v3), some (pI v4), some (pI v5), some (pI v6), some (pI (wr (v7 + h.1 25 k3))), some (pI (v8 + h.1 26 k3)), some (pI (v9 + 1))]) dX9_layout_135 rfl rfl (by decide) rfl rfl q5 ?_
      refine Ok.goto (tgt := 72) dX9_layout_138 rfl ?_
      exact K
theorem sX9_layout_262 {v3 v6 : Int} {h : Hp} {Post : Int → Hp → Prop}
    (K : ((h.2.1 0 37 ≤ v6) → Post (h.2.1 0 44) h) ∧ ((¬ h.2.1 0 37 ≤ v6) → ((¬ (b_iand (b_ishr v3 v6) 1) = 1) → inR ((v6 + 1)) ∧ (Ok shM 0 0 mX9_layout 262 [some (pR 0), none, none, some (pI v3), none, none, some (pI (v6 + 1)), none, none, none] [] h Post)) ∧ (((b_iand (b_ishr v3 v6) 1) = 1) → ∃ k3 : Nat, v6 = (k3 : Int) ∧ k3 < 12 ∧ (∃ k4 : Nat, h.2.1 0 44 = (k4 : Int) ∧ k4 < 12 ∧ (inR ((h.2.1 0 44 + 1)) ∧ (inR ((v6 + 1)) ∧ (Ok shM 0 0 mX9_layout 262 [some (pR 0), none, none, some (pI v3), none, none, some (pI (v6 + 1)), none, none, none] [] (hI (hA h 27 k4 (h.1 24 k3)) 0 44 (h.2.1 0 44 + 1)) Post))))))) :
    Ok shM 0 0 mX9_layout 262 [some (pR 0), none, none, some (pI v3), none, none, some (pI v6), none, none, none] [] h Post := by
  show Ok shM 0 0 mX9_layout 262 [some (pR 0), none, none, some (pI v3), none, none, some (pI v6), none, none, none] [] h Post
  refine Ok.iload (pc' := 264) rfl dX9_layout_262 rfl ?_
  refine Ok.aload_n (pc' := 265) rfl dX9_layout_264 rfl ?_
  refine Ok.getI (pc' := 268) (z := h.2.1 0 37) (k := 37) dX9_layout_265 rfl (shM_0 _) rfl inX9 (by decide) rfl rfl wd_1018 rfl ?_
  refine Ok.icmp_ge (tgt := 313) dX9_layout_268 rfl rfl (fun c1 => ?_) (fun c1 => ?_)
  · replace K := K.1 c1
    refine Ok.aload_n (pc' := 314) rfl dX9_layout_313 rfl ?_
    refine Ok.getI (pc' := 317) (z := h.2.1 0 44) (k := 44) dX9_layout_314 rfl (shM_0 _) rfl inX9 (by decide) rfl rfl wd_1025 rfl ?_
    exact Ok.iret dX9_layout_317 rfl (by decide) K
  · replace K := K.2 c1
    refine Ok.iload_n (pc' := 272) rfl dX9_layout_271 rfl ?_
    refine Ok.iload (pc' := 274) rfl dX9_layout_272 rfl ?_
    refine Ok.ishr (pc' := 275) dX9_layout_274 rfl ?_
    refine Ok.iconst (pc' := 276) in_1 dX9_layout_275 rfl ?_
    refine Ok.iand (pc' := 277) dX9_layout_276 rfl ?_
    refine Ok.iconst (pc' := 278) in_1 dX9_layout_277 rfl ?_
    refine Ok.icmp_ne (tgt := 307) dX9_layout_278 rfl rfl (fun c2 => ?_) (fun c2 => ?_)
    · replace K := K.1 c2
      obtain ⟨q3, K⟩ := K
      refine Ok.iinc (pc' := 310) (ls' := [some (pR 0), none, none, some (pI v3), none, none, some (pI (v6 + 1)), none, none, none]) dX9_layout_307 rfl rfl (by decide) rfl rfl q3 ?_
      refine Ok.goto (tgt := 262) dX9_layout_310 rfl ?_
      exact K
    · replace K := K.2 c2
      refine Ok.aload_n (pc' := 282) rfl dX9_layout_281 rfl ?_
      refine Ok.getR (pc' := 285) (k := 45) dX9_layout_282 rfl (shM_0 _) rfl inX9 (by decide) rfl wd_1026 rfl ?_
      refine Ok.aload_n (pc' := 286) rfl dX9_layout_285 rfl ?_
      refine Ok.getI (pc' := 289) (z := h.2.1 0 44) (k := 44) dX9_layout_286 rfl (shM_0 _) rfl inX9 (by decide) rfl rfl wd_1025 rfl ?_
      refine Ok.aload_n (pc' := 290) rfl dX9_layout_289 rfl ?_
      refine Ok.getR (pc' := 293) (k := 38) dX9_layout_290 rfl (shM_0 _) rfl inX9 (by decide) rfl wd_1019 rfl ?_
      refine Ok.iload (pc' := 295) rfl dX9_layout_293 rfl ?_
      obtain ⟨k3, e3, q3, K⟩ := K
      refine Ok.iald (pc' := 296) (z := h.1 24 k3) dX9_layout_295 rfl (shM_24 _) (by decide) e3 q3 rfl ?_
      obtain ⟨k4, e4, q4, K⟩ := K
      refine Ok.iast (pc' := 297) dX9_layout_296 rfl (shM_27 _) (by decide) e4 q4 ?_
      refine Ok.aload_n (pc' := 298) rfl dX9_layout_297 rfl ?_
      refine Ok.dup (pc' := 299) dX9_layout_298 rfl rfl ?_
      refine Ok.getI (pc' := 302) (z := h.2.1 0 44) (k := 44) dX9_layout_299 rfl (shM_0 _) rfl inX9 (by decide) rfl rfl wd_1025 rfl ?_
      refine Ok.iconst (pc' := 303) in_1 dX9_layout_302 rfl ?_
      obtain ⟨q5, K⟩ := K
      refine Ok.iadd (pc' := 304) dX9_layout_303 rfl q5 ?_
      refine Ok.putI (pc' := 307) (k := 44) dX9_layout_304 rfl (shM_0 _) rfl inX9 tyX9 tyX9_ok nmX9 (by decide) rfl wd_1025 rfl rfl (Or.inl rfl) ?_
      obtain ⟨q6, K⟩ := K
      refine Ok.iinc (pc' := 310) (ls' := [some (pR 0), none, none, some (pI v3), none, none, some (pI (v6 + 1)), none, none, none]) dX9_layout_307 rfl rfl (by decide) rfl rfl q6 ?_
      refine Ok.goto (tgt := 262) dX9_layout_310 rfl ?_
      exact K
theorem sX9_layout_189 {budget v3 v4 v5 v6 v7 v8 t0 : Int} {h : Hp} {Post : Int → Hp → Prop}
    (K : ((t0 = 0) → Ok shM 0 0 mX9_layout 202 [some (pR 0), none, some (pI budget), none, some (pI v4), some (pI v5), some (pI v6), some (pI v7), some (pI v8), some (pI t0)] [pI v3] h Post) ∧ ((¬ t0 = 0) → Ok shM 0 0 mX9_layout 202 [some (pR 0), none, some (pI budget), none, some (pI v4), some (pI v5), some (pI v6), some (pI v7), some (pI v8), some (pI t0)] [pI v6] h Post)) :
    Ok shM 0 0 mX9_layout 189 [some (pR 0), none, some (pI budget), some (pI v3), some (pI v4), some (pI v5), some (pI v6), some (pI v7), some (pI v8), none] [pI t0] h Post := by
  show Ok shM 0 0 mX9_layout 189 [some (pR 0), none, some (pI budget), some (pI v3), some (pI v4), some (pI v5), some (pI v6), some (pI v7), some (pI v8), none] [pI t0] h Post
  refine Ok.istore (pc' := 191) (ls' := [some (pR 0), none, some (pI budget), some (pI v3), some (pI v4), some (pI v5), some (pI v6), some (pI v7), some (pI v8), some (pI t0)]) dX9_layout_189 rfl (by decide) rfl rfl ?_
  refine Ok.iload (pc' := 193) rfl dX9_layout_191 rfl ?_
  refine Ok.if_eq (tgt := 201) dX9_layout_193 rfl rfl (fun c1 => ?_) (fun c1 => ?_)
  · replace K := K.1 c1
    refine Ok.iload_n (pc' := 202) rfl dX9_layout_201 rfl ?_
    exact Ok.fl (ls' := [some (pR 0), none, some (pI budget), none, some (pI v4), some (pI v5), some (pI v6), some (pI v7), some (pI v8), some (pI t0)]) K ⟨rfl, rfl, rfl, rfl, rfl, rfl, rfl, rfl, trivial⟩
  · replace K := K.2 c1
    refine Ok.iload (pc' := 198) rfl dX9_layout_196 rfl ?_
    refine Ok.goto (tgt := 202) dX9_layout_198 rfl ?_
    exact Ok.fl (ls' := [some (pR 0), none, some (pI budget), none, some (pI v4), some (pI v5), some (pI v6), some (pI v7), some (pI v8), some (pI t0)]) K ⟨rfl, rfl, rfl, rfl, rfl, rfl, rfl, rfl, trivial⟩
theorem sX9_layout_202 {budget v4 v5 v6 v7 v8 v9 t0 : Int} {h : Hp} {Post : Int → Hp → Prop}
    (K : ((v9 = 0) → Ok shM 0 0 mX9_layout 215 [some (pR 0), none, some (pI budget), some (pI t0), none, some (pI v5), some (pI v6), none, some (pI v8), some (pI v9)] [pI v4] h Post) ∧ ((¬ v9 = 0) → Ok shM 0 0 mX9_layout 215 [some (pR 0), none, some (pI budget), some (pI t0), none, some (pI v5), some (pI v6), none, some (pI v8), some (pI v9)] [pI v7] h Post)) :
    Ok shM 0 0 mX9_layout 202 [some (pR 0), none, some (pI budget), none, some (pI v4), some (pI v5), some (pI v6), some (pI v7), some (pI v8), some (pI v9)] [pI t0] h Post := by
  show Ok shM 0 0 mX9_layout 202 [some (pR 0), none, some (pI budget), none, some (pI v4), some (pI v5), some (pI v6), some (pI v7), some (pI v8), some (pI v9)] [pI t0] h Post
  refine Ok.istore_n (pc' := 203) (ls' := [some (pR 0), none, some (pI budget), some (pI t0), some (pI v4), some (pI v5), some (pI v6), some (pI v7), some (pI v8), some (pI v9)]) dX9_layout_202 rfl (by decide) rfl rfl ?_
  refine Ok.iload (pc' := 205) rfl dX9_layout_203 rfl ?_
  refine Ok.if_eq (tgt := 213) dX9_layout_205 rfl rfl (fun c1 => ?_) (fun c1 => ?_)
  · replace K := K.1 c1
    refine Ok.iload (pc' := 215) rfl dX9_layout_213 rfl ?_
    exact Ok.fl (ls' := [some (pR 0), none, some (pI budget), some (pI t0), none, some (pI v5), some (pI v6), none, some (pI v8), some (pI v9)]) K ⟨rfl, rfl, rfl, rfl, rfl, rfl, rfl, trivial⟩
  · replace K := K.2 c1
    refine Ok.iload (pc' := 210) rfl dX9_layout_208 rfl ?_
    refine Ok.goto (tgt := 215) dX9_layout_210 rfl ?_
    exact Ok.fl (ls' := [some (pR 0), none, some (pI budget), some (pI t0), none, some (pI v5), some (pI v6), none, some (pI v8), some (pI v9)]) K ⟨rfl, rfl, rfl, rfl, rfl, rfl, rfl, trivial⟩
theorem sX9_layout_215 {budget v3 v5 v6 v8 v9 t0 : Int} {h : Hp} {Post : Int → Hp → Prop}
    (K : ((v9 = 0) → Ok shM 0 0 mX9_layout 229 [some (pR 0), none, some (pI budget), some (pI v3), some (pI t0), none, some (pI v6), none, none, none] [pI v5] h Post) ∧ ((¬ v9 = 0) → Ok shM 0 0 mX9_layout 229 [some (pR 0), none, some (pI budget), some (pI v3), some (pI t0), none, some (pI v6), none, none, none] [pI v8] h Post)) :
    Ok shM 0 0 mX9_layout 215 [some (pR 0), none, some (pI budget), some (pI v3), none, some (pI v5), some (pI v6), none, some (pI v8), some (pI v9)] [pI t0] h Post := by
  show Ok shM 0 0 mX9_layout 215 [some (pR 0), none, some (pI budget), some (pI v3), none, some (pI v5), some (pI v6), none, some (pI v8), some (pI v9)] [pI t0] h Post
  refine Ok.istore (pc' := 217) (ls' := [some (pR 0), none, some (pI budget), some (pI v3), some (pI t0), some (pI v5), some (pI v6), none, some (pI v8), some (pI v9)]) dX9_layout_215 rfl (by decide) rfl rfl ?_
  refine Ok.iload (pc' := 219) rfl dX9_layout_217 rfl ?_
  refine Ok.if_eq (tgt := 227) dX9_layout_219 rfl rfl (fun c1 => ?_) (fun c1 => ?_)
  · replace K := K.1 c1
    refine Ok.iload (pc' := 229) rfl dX9_layout_227 rfl ?_
    exact Ok.fl (ls' := [some (pR 0), none, some (pI budget), some (pI v3), some (pI t0), none, some (pI v6), none, none, none]) K ⟨rfl, rfl, rfl, rfl, rfl, trivial⟩
  · replace K := K.2 c1
    refine Ok.iload (pc' := 224) rfl dX9_layout_222 rfl ?_
    refine Ok.goto (tgt := 229) dX9_layout_224 rfl ?_
    exact Ok.fl (ls' := [some (pR 0), none, some (pI budget), some (pI v3), some (pI t0), none, some (pI v6), none, none, none]) K ⟨rfl, rfl, rfl, rfl, rfl, trivial⟩
theorem sX9_layout_229 {budget v3 v4 v6 t0 : Int} {h : Hp} {Post : Int → Hp → Prop}
    (K : inR ((v6 + 1)) ∧ (Ok shM 0 0 mX9_layout 52 [some (pR 0), none, some (pI budget), some (pI v3), some (pI v4), some (pI t0), some (pI (v6 + 1)), none, none, none] [] h Post)) :
    Ok shM 0 0 mX9_layout 229 [some (pR 0), none, some (pI budget), some (pI v3), some (pI v4), none, some (pI v6), none, none, none] [pI t0] h Post := by
  show Ok shM 0 0 mX9_layout 229 [some (pR 0), none, some (pI budget), some (pI v3), some (pI v4), none, some (pI v6), none, none, none] [pI t0] h Post
  refine Ok.istore (pc' := 231) (ls' := [some (pR 0), none, some (pI budget), some (pI v3), some (pI v4), some (pI t0), some (pI v6), none, none, none]) dX9_layout_229 rfl (by decide) rfl rfl ?_
  obtain ⟨q1, K⟩ := K
  refine Ok.iinc (pc' := 234) (ls' := [some (pR 0), none, some (pI budget), some (pI v3), some (pI v4), some (pI t0), some (pI (v6 + 1)), none, none, none]) dX9_layout_231 rfl rfl (by decide) rfl rfl q1 ?_
  refine Ok.goto (tgt := 52) dX9_layout_234 rfl ?_
  exact K
theorem sX9_laid_0 {what : Int} {h : Hp} {Post : Int → Hp → Prop}
    (K : ((0 ≤ what) → ((¬ h.2.1 0 41 = 0) → ((¬ what = 0) → ((¬ what = 1) → inR ((what - 2)) ∧ (((h.2.1 0 44 ≤ (what - 2)) → Post (-4) h) ∧ ((¬ h.2.1 0 44 ≤ (what - 2)) → ∃ k7 : Nat, (what - 2) = (k7 : Int) ∧ k7 < 12 ∧ (Post (h.1 27 k7) h)))) ∧ ((what = 1) → Post (h.2.1 0 43) h)) ∧ ((what = 0) → Post (h.2.1 0 42) h)) ∧ ((h.2.1 0 41 = 0) → Post (-2) h)) ∧ ((¬ 0 ≤ what) → Post (-1) h)) :
    Cl shM mX9_laid [pR 0, pI what] h Post := by
  show Ok shM 0 0 mX9_laid 0 [some (pR 0), some (pI what)] [] h Post
  refine Ok.iload_n (pc' := 1) rfl dX9_laid_0 rfl ?_
  refine Ok.if_ge (tgt := 6) dX9_laid_1 rfl rfl (fun c1 => ?_) (fun c1 => ?_)
  · replace K := K.1 c1
    refine Ok.aload_n (pc' := 7) rfl dX9_laid_6 rfl ?_
    refine Ok.getI (pc' := 10) (z := h.2.1 0 41) (k := 41) dX9_laid_7 rfl (shM_0 _) rfl inX9 (by decide) rfl rfl wd_1022 rfl ?_
    refine Ok.if_ne (tgt := 16) dX9_laid_10 rfl rfl (fun c2 => ?_) (fun c2 => ?_)
    · replace K := K.1 c2
      refine Ok.iload_n (pc' := 17) rfl dX9_laid_16 rfl ?_
      refine Ok.if_ne (tgt := 27) dX9_laid_17 rfl rfl (fun c3 => ?_) (fun c3 => ?_)
      · replace K := K.1 c3
        refine Ok.iload_n (pc' := 28) rfl dX9_laid_27 rfl ?_
        refine Ok.iconst (pc' := 29) in_1 dX9_laid_28 rfl ?_
        refine Ok.icmp_ne (tgt := 39) dX9_laid_29 rfl rfl (fun c4 => ?_) (fun c4 => ?_)
        · replace K := K.1 c4
          refine Ok.iload_n (pc' := 40) rfl dX9_laid_39 rfl ?_
          refine Ok.iconst (pc' := 41) in_2 dX9_laid_40 rfl ?_
          obtain ⟨q5, K⟩ := K
          refine Ok.isub (pc' := 42) dX9_laid_41 rfl q5 ?_
          refine Ok.aload_n (pc' := 43) rfl dX9_laid_42 rfl ?_
          refine Ok.getI (pc' := 46) (z := h.2.1 0 44) (k := 44) dX9_laid_43 rfl (shM_0 _) rfl inX9 (by decide) rfl rfl wd_1025 rfl ?_
          refine Ok.icmp_ge (tgt := 60) dX9_laid_46 rfl rfl (fun c6 => ?_) (fun c6 => ?_)
          · replace K := K.1 c6
            refine Ok.bipush (pc' := 62) ⟨by decide, by decide⟩ dX9_laid_60 rfl ?_
            exact Ok.iret dX9_laid_62 rfl (by decide) K
          · replace K := K.2 c6
            refine Ok.aload_n (pc' := 50) rfl dX9_laid_49 rfl ?_
            refine Ok.getR (pc' := 53) (k := 45) dX9_laid_50 rfl (shM_0 _) rfl inX9 (by decide) rfl wd_1026 rfl ?_
            refine Ok.iload_n (pc' := 54) rfl dX9_laid_53 rfl ?_
            refine Ok.iconst (pc' := 55) in_2 dX9_laid_54 rfl ?_
            refine Ok.isub (pc' := 56) dX9_laid_55 rfl q5 ?_
            obtain ⟨k7, e7, q7, K⟩ := K
            refine Ok.iald (pc' := 57) (z := h.1 27 k7) dX9_laid_56 rfl (shM_27 _) (by decide) e7 q7 rfl ?_
            refine Ok.goto (tgt := 62) dX9_laid_57 rfl ?_
            exact Ok.iret dX9_laid_62 rfl (by decide) K
        · replace K := K.2 c4
          refine Ok.aload_n (pc' := 33) rfl dX9_laid_32 rfl ?_
          refine Ok.getI (pc' := 36) (z := h.2.1 0 43) (k := 43) dX9_laid_33 rfl (shM_0 _) rfl inX9 (by decide) rfl rfl wd_1024 rfl ?_
          refine Ok.goto (tgt := 62) dX9_laid_36 rfl ?_
          exact Ok.iret dX9_laid_62 rfl (by decide) K
      · replace K := K.2 c3
        refine Ok.aload_n (pc' := 21) rfl dX9_laid_20 rfl ?_
        refine Ok.getI (pc' := 24) (z := h.2.1 0 42) (k := 42) dX9_laid_21 rfl (shM_0 _) rfl inX9 (by decide) rfl rfl wd_1023 rfl ?_
        refine Ok.goto (tgt := 62) dX9_laid_24 rfl ?_
        exact Ok.iret dX9_laid_62 rfl (by decide) K
    · replace K := K.2 c2
      refine Ok.bipush (pc' := 15) ⟨by decide, by decide⟩ dX9_laid_13 rfl ?_
      exact Ok.iret dX9_laid_15 rfl (by decide) K
  · replace K := K.2 c1
    refine Ok.iconst (pc' := 5) in_m1 dX9_laid_4 rfl ?_
    exact Ok.iret dX9_laid_5 rfl (by decide) K
theorem sX9_next_0 {r budget : Int} {h : Hp} {Post : Int → Hp → Prop}
    (K : Cl shM mX9_isRoutine [pR 0, pI r] h (fun r1 h1 => ((r1 = 0) → Post (-1) h1) ∧ ((¬ r1 = 0) → Cl shM mX9_in [pL budget, pL 0, pL 1000] h1 (fun r2 h2 => ((¬ r2 = 0) → ∃ k3 : Nat, r = (k3 : Int) ∧ k3 < 10 ∧ (((¬ h2.1 7 k3 = (-4)) → Cl shM mX9_looks [pR 0, pI r] h2 (fun _ h3 => Ok shM 0 0 mX9_next 46 [some (pR 0), none, some (pI budget), some (pI (-1)), some (pI 0)] [] h3 Post)) ∧ ((h2.1 7 k3 = (-4)) → Post (-2) h2))) ∧ ((r2 = 0) → Post (-1) h2))))) :
    Cl shM mX9_next [pR 0, pI r, pI budget] h Post := by
  show Ok shM 0 0 mX9_next 0 [some (pR 0), some (pI r), some (pI budget), none, none] [] h Post
  refine Ok.aload_n (pc' := 1) rfl dX9_next_0 rfl ?_
  refine Ok.iload_n (pc' := 2) rfl dX9_next_1 rfl ?_
  refine Ok.callV (pc' := 5) (av := [pI r]) (rest := []) dX9_next_2 rfl (by decide) cvX9_next_145 (shM_0 _) rfl rfl rfl (leb rfl) (leb rfl) K (fun r1 h1 K => ?_)
  show Ok shM 0 0 mX9_next 5 [some (pR 0), some (pI r), some (pI budget), none, none] [pI r1] h1 Post
  refine Ok.if_eq (tgt := 20) dX9_next_5 rfl rfl (fun c1 => ?_) (fun c1 => ?_)
  · replace K := K.1 c1
    refine Ok.iconst (pc' := 21) in_m1 dX9_next_20 rfl ?_
    exact Ok.iret dX9_next_21 rfl (by decide) K
  · replace K := K.2 c1
    refine Ok.iload_n (pc' := 9) rfl dX9_next_8 rfl ?_
    refine Ok.i2l (pc' := 10) dX9_next_9 rfl ?_
    refine Ok.lconst (n := 0) (pc' := 11) ⟨by decide, by decide⟩ rfl dX9_next_10 rfl ?_
    refine Ok.ldc2 (n := 1000) (pc' := 14) ⟨by decide, by decide⟩ wd_1410 dX9_next_11 rfl ?_
    refine Ok.callS (pc' := 17) (av := [pL budget, pL 0, pL 1000]) (rest := []) dX9_next_14 rfl (by decide) cvX9_next_103 rfl rfl (leb rfl) (leb rfl) K (fun r2 h2 K => ?_)
    show Ok shM 0 0 mX9_next 17 [some (pR 0), some (pI r), some (pI budget), none, none] [pI r2] h2 Post
    refine Ok.if_ne (tgt := 22) dX9_next_17 rfl rfl (fun c2 => ?_) (fun c2 => ?_)
    · replace K := K.1 c2
      refine Ok.aload_n (pc' := 23) rfl dX9_next_22 rfl ?_
      refine Ok.getR (pc' := 26) (k := 8) dX9_next_23 rfl (shM_0 _) rfl inX9 (by decide) rfl wd_989 rfl ?_
      refine Ok.iload_n (pc' := 27) rfl dX9_next_26 rfl ?_
      obtain ⟨k3, e3, q3, K⟩ := K
      refine Ok.iald (pc' := 28) (z := h2.1 7 k3) dX9_next_27 rfl (shM_7 _) (by decide) e3 q3 rfl ?_
      refine Ok.bipush (pc' := 30) ⟨by decide, by decide⟩ dX9_next_28 rfl ?_
      refine Ok.icmp_ne (tgt := 36) dX9_next_30 rfl rfl (fun c4 => ?_) (fun c4 => ?_)
      · replace K := K.1 c4
        refine Ok.aload_n (pc' := 37) rfl dX9_next_36 rfl ?_
        refine Ok.iload_n (pc' := 38) rfl dX9_next_37 rfl ?_
        refine Ok.callV (pc' := 41) (av := [pI r]) (rest := []) dX9_next_38 rfl (by decide) cvX9_next_309 (shM_0 _) rfl rfl rfl (leb rfl) (leb rfl) K (fun r_ h3 K => ?_)
        show Ok shM 0 0 mX9_next 41 [some (pR 0), some (pI r), some (pI budget), none, none] [] h3 Post
        refine Ok.iconst (pc' := 42) in_m1 dX9_next_41 rfl ?_
        refine Ok.istore_n (pc' := 43) (ls' := [some (pR 0), some (pI r), some (pI budget), some (pI (-1)), none]) dX9_next_42 rfl (by decide) rfl rfl ?_
        refine Ok.iconst (pc' := 44) in_0 dX9_next_43 rfl ?_
        refine Ok.istore (pc' := 46) (ls' := [some (pR 0), some (pI r), some (pI budget), some (pI (-1)), some (pI 0)]) dX9_next_44 rfl (by decide) rfl rfl ?_
        exact Ok.fl (ls' := [some (pR 0), none, some (pI budget), some (pI (-1)), some (pI 0)]) K ⟨rfl, rfl, rfl, rfl, trivial⟩
      · replace K := K.2 c4
        refine Ok.bipush (pc' := 35) ⟨by decide, by decide⟩ dX9_next_33 rfl ?_
        exact Ok.iret dX9_next_35 rfl (by decide) K
    · replace K := K.2 c2
      refine Ok.iconst (pc' := 21) in_m1 dX9_next_20 rfl ?_
      exact Ok.iret dX9_next_21 rfl (by decide) K
theorem sX9_next_46 {budget v3 v4 : Int} {h : Hp} {Post : Int → Hp → Prop}
    (K : ((h.2.1 0 37 ≤ v4) → ((0 ≤ v3) → ∃ k3 : Nat, v3 = (k3 : Int) ∧ k3 < 12 ∧ (Post (h.1 24 k3) h)) ∧ ((¬ 0 ≤ v3) → Post (-4) h)) ∧ ((¬ h.2.1 0 37 ≤ v4) → ∃ k2 : Nat, v4 = (k2 : Int) ∧ k2 < 12 ∧ (((budget < h.1 26 k2) → inR ((v4 + 1)) ∧ (Ok shM 0 0 mX9_next 46 [some (pR 0), none, some (pI budget), some (pI v3), some (pI (v4 + 1))] [] h Post)) ∧ ((¬ budget < h.1 26 k2) → ((v3 < 0) → inR ((v4 + 1)) ∧ (Ok shM 0 0 mX9_next 46 [some (pR 0), none, some (pI budget), some (pI v4), some (pI (v4 + 1))] [] h Post)) ∧ ((¬ v3 < 0) → ∃ k5 : Nat, v3 = (k5 : Int) ∧ k5 < 12 ∧ (inL ((h.1 25 k2 * h.1 26 k5)) ∧ (inL ((h.1 25 k5 * h.1 26 k2)) ∧ ((((b_lcmp (h.1 25 k2 * h.1 26 k5) (h.1 25 k5 * h.1 26 k2)) ≤ 0) → inR ((v4 + 1)) ∧ (Ok shM 0 0 mX9_next 46 [some (pR 0), none, some (pI budget), some (pI v3), some (pI (v4 + 1))] [] h Post)) ∧ ((¬ (b_lcmp (h.1 25 k2 * h.1 26 k5) (h.1 25 k5 * h.1 26 k2)) ≤ 0) → inR ((v4 + 1)) ∧ (Ok shM 0 0 mX9_next 46 [some (pR 0), none, some (pI budget), some (pI v4), some (pI (v4 + 1))] [] h Post)))))))))) :
    Ok shM 0 0 mX9_next 46 [some (pR 0), none, some (pI budget), some (pI v3), some (pI v4)] [] h Post := by
  show Ok shM 0 0 mX9_next 46 [some (pR 0), none, some (pI budget), some (pI v3), some (pI v4)] [] h Post
  refine Ok.iload (pc' := 48) rfl dX9_next_46 rfl ?_
  refine Ok.aload_n (pc' := 49) rfl dX9_next_48 rfl ?_
  refine Ok.getI (pc' := 52) (z := h.2.1 0 37) (k := 37) dX9_next_49 rfl (shM_0 _) rfl inX9 (by decide) rfl rfl wd_1018 rfl ?_
  refine Ok.icmp_ge (tgt := 115) dX9_next_52 rfl rfl (fun c1 => ?_) (fun c1 => ?_)
  · replace K := K.1 c1
    refine Ok.iload_n (pc' := 116) rfl dX9_next_115 rfl ?_
    refine Ok.if_ge (tgt := 124) dX9_next_116 rfl rfl (fun c2 => ?_) (fun c2 => ?_)
    · replace K := K.1 c2
      refine Ok.aload_n (pc' := 125) rfl dX9_next_124 rfl ?_
      refine Ok.getR (pc' := 128) (k := 38) dX9_next_125 rfl (shM_0 _) rfl inX9 (by decide) rfl wd_1019 rfl ?_
      refine Ok.iload_n (pc' := 129) rfl dX9_next_128 rfl ?_
      obtain ⟨k3, e3, q3, K⟩ := K
      refine Ok.iald (pc' := 130) (z := h.1 24 k3) dX9_next_129 rfl (shM_24 _) (by decide) e3 q3 rfl ?_
      exact Ok.iret dX9_next_130 rfl (by decide) K
    · replace K := K.2 c2
      refine Ok.bipush (pc' := 121) ⟨by decide, by decide⟩ dX9_next_119 rfl ?_
      refine Ok.goto (tgt := 130) dX9_next_121 rfl ?_
      exact Ok.iret dX9_next_130 rfl (by decide) K
  · replace K := K.2 c1
    refine Ok.aload_n (pc' := 56) rfl dX9_next_55 rfl ?_
    refine Ok.getR (pc' := 59) (k := 40) dX9_next_56 rfl (shM_0 _) rfl inX9 (by decide) rfl wd_1021 rfl ?_
    refine Ok.iload (pc' := 61) rfl dX9_next_59 rfl ?_
    obtain ⟨k2, e2, q2, K⟩ := K
    refine Ok.iald (pc' := 62) (z := h.1 26 k2) dX9_next_61 rfl (shM_26 _) (by decide) e2 q2 rfl ?_
    refine Ok.iload_n (pc' := 63) rfl dX9_next_62 rfl ?_
    refine Ok.icmp_gt (tgt := 109) dX9_next_63 rfl rfl (fun c3 => ?_) (fun c3 => ?_)
    · replace K := K.1 c3
      obtain ⟨q4, K⟩ := K
      refine Ok.iinc (pc' := 112) (ls' := [some (pR 0), none, some (pI budget), some (pI v3), some (pI (v4 + 1))]) dX9_next_109 rfl rfl (by decide) rfl rfl q4 ?_
      refine Ok.goto (tgt := 46) dX9_next_112 rfl ?_
      exact K
    · replace K := K.2 c3
      refine Ok.iload_n (pc' := 67) rfl dX9_next_66 rfl ?_
      refine Ok.if_lt (tgt := 106) dX9_next_67 rfl rfl (fun c4 => ?_) (fun c4 => ?_)
      · replace K := K.1 c4
        refine Ok.iload (pc' := 108) rfl dX9_next_106 rfl ?_
        refine Ok.istore_n (pc' := 109) (ls' := [some (pR 0), none, some (pI budget), some (pI v4), some (pI v4)]) dX9_next_108 rfl (by decide) rfl rfl ?_
        obtain ⟨q5, K⟩ := K
        refine Ok.iinc (pc' := 112) (ls' := [some (pR 0), none, some (pI budget), some (pI v4), some (pI (v4 + 1))]) dX9_next_109 rfl rfl (by decide) rfl rfl q5 ?_
        refine Ok.goto (tgt := 46) dX9_next_112 rfl ?_
        exact K
      · replace K := K.2 c4
        refine Ok.aload_n (pc' := 71) rfl dX9_next_70 rfl ?_
        refine Ok.getR (pc' := 74) (k := 39) dX9_next_71 rfl (shM_0 _) rfl inX9 (by decide) rfl wd_1020 rfl ?_
        refine Ok.iload (pc' := 76) rfl dX9_next_74 rfl ?_
        refine Ok.iald (pc' := 77) (z := h.1 25 k2) dX9_next_76 rfl (shM_25 _) (by decide) e2 q2 rfl ?_
        refine Ok.i2l (pc' := 78) dX9_next_77 rfl ?_
        refine Ok.aload_n (pc' := 79) rfl dX9_next_78 rfl ?_
        refine Ok.getR (pc' := 82) (k := 40) dX9_next_79 rfl (shM_0 _) rfl inX9 (by decide) rfl wd_1021 rfl ?_
        refine Ok.iload_n (pc' := 83) rfl dX9_next_82 rfl ?_
        obtain ⟨k5, e5, q5, K⟩ := K
        refine Ok.iald (pc' := 84) (z := h.1 26 k5) dX9_next_83 rfl (shM_26 _) (by decide) e5 q5 rfl ?_
        refine Ok.i2l (pc' := 85) dX9_next_84 rfl ?_
        obtain ⟨q6, K⟩ := K
        refine Ok.lmul (pc' := 86) dX9_next_85 rfl q6 ?_
        refine Ok.aload_n (pc' := 87) rfl dX9_next_86 rfl ?_
        refine Ok.getR (pc' := 90) (k := 39) dX9_next_87 rfl (shM_0 _) rfl inX9 (by decide) rfl wd_1020 rfl ?_
        refine Ok.iload_n (pc' := 91) rfl dX9_next_90 rfl ?_
        refine Ok.iald (pc' := 92) (z := h.1 25 k5) dX9_next_91 rfl (shM_25 _) (by decide) e5 q5 rfl ?_
        refine Ok.i2l (pc' := 93) dX9_next_92 rfl ?_
        refine Ok.aload_n (pc' := 94) rfl dX9_next_93 rfl ?_
        refine Ok.getR (pc' := 97) (k := 40) dX9_next_94 rfl (shM_0 _) rfl inX9 (by decide) rfl wd_1021 rfl ?_
        refine Ok.iload (pc' := 99) rfl dX9_next_97 rfl ?_
        refine Ok.iald (pc' := 100) (z := h.1 26 k2) dX9_next_99 rfl (shM_26 _) (by decide) e2 q2 rfl ?_
        refine Ok.i2l (pc' := 101) dX9_next_100 rfl ?_
        obtain ⟨q7, K⟩ := K
        refine Ok.lmul (pc' := 102) dX9_next_101 rfl q7 ?_
        refine Ok.lcmp (pc' := 103) dX9_next_102 rfl ?_
        refine Ok.if_le (tgt := 109) dX9_next_103 rfl rfl (fun c8 => ?_) (fun c8 => ?_)
        · replace K := K.1 c8
          obtain ⟨q9, K⟩ := K
          refine Ok.iinc (pc' := 112) (ls' := [some (pR 0), none, some (pI budget), some (pI v3), some (pI (v4 + 1))]) dX9_next_109 rfl rfl (by decide) rfl rfl q9 ?_
          refine Ok.goto (tgt := 46) dX9_next_112 rfl ?_
          exact K
        · replace K := K.2 c8
          refine Ok.iload (pc' := 108) rfl dX9_next_106 rfl ?_
          refine Ok.istore_n (pc' := 109) (ls' := [some (pR 0), none, some (pI budget), some (pI v4), some (pI v4)]) dX9_next_108 rfl (by decide) rfl rfl ?_
          obtain ⟨q9, K⟩ := K
          refine Ok.iinc (pc' := 112) (ls' := [some (pR 0), none, some (pI budget), some (pI v4), some (pI (v4 + 1))]) dX9_next_109 rfl rfl (by decide) rfl rfl q9 ?_
          refine Ok.goto (tgt := 46) dX9_next_112 rfl ?_
          exact K
theorem sX9_count_0 {what : Int} {h : Hp} {Post : Int → Hp → Prop}
    (K : Ok shM 0 0 mX9_count 7 [some (pR 0), some (pI what), some (pI 0), some (pI 0), some (pI 0), none] [] h Post) :
    Cl shM mX9_count [pR 0, pI what] h Post := by
  show Ok shM 0 0 mX9_count 0 [some (pR 0), some (pI what), none, none, none, none] [] h Post
  refine Ok.iconst (pc' := 1) in_0 dX9_count_0 rfl ?_
  refine Ok.istore_n (pc' := 2) (ls' := [some (pR 0), some (pI what), some (pI 0), none, none, none]) dX9_count_1 rfl (by decide) rfl rfl ?_
  refine Ok.iconst (pc' := 3) in_0 dX9_count_2 rfl ?_
  refine Ok.istore_n (pc' := 4) (ls' := [some (pR 0), some (pI what), some (pI 0), some (pI 0), none, none]) dX9_count_3 rfl (by decide) rfl rfl ?_
  refine Ok.iconst (pc' := 5) in_0 dX9_count_4 rfl ?_
  refine Ok.istore (pc' := 7) (ls' := [some (pR 0), some (pI what), some (pI 0), some (pI 0), some (pI 0), none]) dX9_count_5 rfl (by decide) rfl rfl ?_
  exact K
theorem sX9_count_7 {what v2 v3 v4 : Int} {h : Hp} {Post : Int → Hp → Prop}
    (K : ((h.2.1 0 0 ≤ v4) → Ok shM 0 0 mX9_count 64 [some (pR 0), some (pI what), some (pI v2), some (pI v3), some (pI 0), some (pI 0)] [] h Post) ∧ ((¬ h.2.1 0 0 ≤ v4) → ∃ k2 : Nat, v4 = (k2 : Int) ∧ k2 < 600 ∧ (((¬ h.1 1 k2 = (-1)) → inR ((v2 + 0)) ∧ (Cl shM mX9_isLoose [pR 0, pI v4] h (fun r1 h1 => ((r1 = 0) → inR ((v3 + 0)) ∧ (inR ((v4 + 1)) ∧ (Ok shM 0 0 mX9_count 7 [some (pR 0), some (pI what), some (pI (v2 + 0)), some (pI (v3 + 0)), some (pI (v4 + 1)), none] [] h1 Post))) ∧ ((¬ r1 = 0) → inR ((v3 + 1)) ∧ (inR ((v4 + 1)) ∧ (Ok shM 0 0 mX9_count 7 [some (pR 0), some (pI what), some (pI (v2 + 0)), some (pI (v3 + 1)), some (pI (v4 + 1)), none] [] h1 Post)))))) ∧ ((h.1 1 k2 = (-1)) → inR ((v2 + 1)) ∧ (Cl shM mX9_isLoose [pR 0, pI v4] h (fun r2 h2 => ((r2 = 0) → inR ((v3 + 0)) ∧ (inR ((v4 + 1)) ∧ (Ok shM 0 0 mX9_count 7 [some (pR 0), some (pI what), some (pI (v2 + 1)), some (pI (v3 + 0)), some (pI (v4 + 1)), none] [] h2 Post))) ∧ ((¬ r2 = 0) → inR ((v3 + 1)) ∧ (inR ((v4 + 1)) ∧ (Ok shM 0 0 mX9_count 7 [some (pR 0), some (pI what), some (pI (v2 + 1)), some (pI (v3 + 1)), some (pI (v4 + 1)), none] [] h2 Post))))))))) :
    Ok shM 0 0 mX9_count 7 [some (pR 0), some (pI what), some (pI v2), some (pI v3), some (pI v4), none] [] h Post := by
  show Ok shM 0 0 mX9_count 7 [some (pR 0), some (pI what), some (pI v2), some (pI v3), some (pI v4), none] [] h Post
  refine Ok.iload (pc' := 9) rfl dX9_count_7 rfl ?_
  refine Ok.aload_n (pc' := 10) rfl dX9_count_9 rfl ?_
  refine Ok.getI (pc' := 13) (z := h.2.1 0 0) (k := 0) dX9_count_10 rfl (shM_0 _) rfl inX9 (by decide) rfl rfl wd_981 rfl ?_
  refine Ok.icmp_ge (tgt := 58) dX9_count_13 rfl rfl (fun c1 => ?_) (fun c1 => ?_)
  · replace K := K.1 c1
    refine Ok.iconst (pc' := 59) in_0 dX9_count_58 rfl ?_
    refine Ok.istore (pc' := 61) (ls' := [some (pR 0), some (pI what), some (pI v2), some (pI v3), some (pI 0), none]) dX9_count_59 rfl (by decide) rfl rfl ?_
    refine Ok.iconst (pc' := 62) in_0 dX9_count_61 rfl ?_
    refine Ok.istore (pc' := 64) (ls' := [some (pR 0), some (pI what), some (pI v2), some (pI v3), some (pI 0), some (pI 0)]) dX9_count_62 rfl (by decide) rfl rfl ?_
    exact K
  · replace K := K.2 c1
    refine Ok.iload_n (pc' := 17) rfl dX9_count_16 rfl ?_
    refine Ok.aload_n (pc' := 18) rfl dX9_count_17 rfl ?_
    refine Ok.getR (pc' := 21) (k := 1) dX9_count_18 rfl (shM_0 _) rfl inX9 (by decide) rfl wd_982 rfl ?_
    refine Ok.iload (pc' := 23) rfl dX9_count_21 rfl ?_
    obtain ⟨k2, e2, q2, K⟩ := K
    refine Ok.iald (pc' := 24) (z := h.1 1 k2) dX9_count_23 rfl (shM_1 _) (by decide) e2 q2 rfl ?_
    refine Ok.iconst (pc' := 25) in_m1 dX9_count_24 rfl ?_
    refine Ok.icmp_ne (tgt := 32) dX9_count_25 rfl rfl (fun c3 => ?_) (fun c3 => ?_)
    · replace K := K.1 c3
      refine Ok.iconst (pc' := 33) in_0 dX9_count_32 rfl ?_
      obtain ⟨q4, K⟩ := K
      refine Ok.iadd (pc' := 34) dX9_count_33 rfl q4 ?_
      refine Ok.istore_n (pc' := 35) (ls' := [some (pR 0), some (pI what), some (pI (v2 + 0)), some (pI v3), some (pI v4), none]) dX9_count_34 rfl (by decide) rfl rfl ?_
      refine Ok.iload_n (pc' := 36) rfl dX9_count_35 rfl ?_
      refine Ok.aload_n (pc' := 37) rfl dX9_count_36 rfl ?_
      refine Ok.iload (pc' := 39) rfl dX9_count_37 rfl ?_
      refine Ok.callV (pc' := 42) (av := [pI v4]) (rest := [pI v3]) dX9_count_39 rfl (by decide) cvX9_count_117 (shM_0 _) rfl rfl rfl (leb rfl) (leb rfl) K (fun r1 h1 K => ?_)
      show Ok shM 0 0 mX9_count 42 [some (pR 0), some (pI what), some (pI (v2 + 0)), some (pI v3), some (pI v4), none] [pI r1, pI v3] h1 Post
      refine Ok.if_eq (tgt := 49) dX9_count_42 rfl rfl (fun c5 => ?_) (fun c5 => ?_)
      · replace K := K.1 c5
        refine Ok.iconst (pc' := 50) in_0 dX9_count_49 rfl ?_
        obtain ⟨q6, K⟩ := K
        refine Ok.iadd (pc' := 51) dX9_count_50 rfl q6 ?_
        refine Ok.istore_n (pc' := 52) (ls' := [some (pR 0), some (pI what), some (pI (v2 + 0)), some (pI (v3 + 0)), some (pI v4), none]) dX9_count_51 rfl (by decide) rfl rfl ?_
        obtain ⟨q7, K⟩ := K
        refine Ok.iinc (pc' := 55) (ls' := [some (pR 0), some (pI what), some (pI (v2 + 0)), some (pI (v3 + 0)), some (pI (v4 + 1)), none]) dX9_count_52 rfl rfl (by decide) rfl rfl q7 ?_
        refine Ok.goto (tgt := 7) dX9_count_55 rfl ?_
        exact K
      · replace K := K.2 c5
        refine Ok.iconst (pc' := 46) in_1 dX9_count_45 rfl ?_
        refine Ok.goto (tgt := 50) dX9_count_46 rfl ?_
        obtain ⟨q6, K⟩ := K
        refine Ok.iadd (pc' := 51) dX9_count_50 rfl q6 ?_
        refine Ok.istore_n (pc' := 52) (ls' := [some (pR 0), some (pI what), some (pI (v2 + 0)), some (pI (v3 + 1)), some (pI v4), none]) dX9_count_51 rfl (by decide) rfl rfl ?_
        obtain ⟨q7, K⟩ := K
        refine Ok.iinc (pc' := 55) (ls' := [some (pR 0), some (pI what), some (pI (v2 + 0)), some (pI (v3 + 1)), some (pI (v4 + 1)), none]) dX9_count_52 rfl rfl (by decide) rfl rfl q7 ?_
        refine Ok.goto (tgt := 7) dX9_count_55 rfl ?_
        exact K
    · replace K := K.2 c3
      refine Ok.iconst (pc' := 29) in_1 dX9_count_28 rfl ?_
      refine Ok.goto (tgt := 33) dX9_count_29 rfl ?_
      obtain ⟨q4, K⟩ := K
      refine Ok.iadd (pc' := 34) dX9_count_33 rfl q4 ?_
      refine Ok.istore_n (pc' := 35) (ls' := [some (pR 0), some (pI what), some (pI (v2 + 1)), some (pI v3), some (pI v4), none]) dX9_count_34 rfl (by decide) rfl rfl ?_
      refine Ok.iload_n (pc' := 36) rfl dX9_count_35 rfl ?_
      refine Ok.aload_n (pc' := 37) rfl dX9_count_36 rfl ?_
      refine Ok.iload (pc' := 39) rfl dX9_count_37 rfl ?_
      refine Ok.callV (pc' := 42) (av := [pI v4]) (rest := [pI v3]) dX9_count_39 rfl (by decide) cvX9_count_117 (shM_0 _) rfl rfl rfl (leb rfl) (leb rfl) K (fun r2 h2 K => ?_)
      show Ok shM 0 0 mX9_count 42 [some (pR 0), some (pI what), some (pI (v2 + 1)), some (pI v3), some (pI v4), none] [pI r2, pI v3] h2 Post
      refine Ok.if_eq (tgt := 49) dX9_count_42 rfl rfl (fun c5 => ?_) (fun c5 => ?_)
      · replace K := K.1 c5
        refine Ok.iconst (pc' := 50) in_0 dX9_count_49 rfl ?_
        obtain ⟨q6, K⟩ := K
        refine Ok.iadd (pc' := 51) dX9_count_50 rfl q6 ?_
        refine Ok.istore_n (pc' := 52) (ls' := [some (pR 0), some (pI what), some (pI (v2 + 1)), some (pI (v3 + 0)), some (pI v4), none]) dX9_count_51 rfl (by decide) rfl rfl ?_
        obtain ⟨q7, K⟩ := K
        refine Ok.iinc (pc' := 55) (ls' := [some (pR 0), some (pI what), some (pI (v2 + 1)), some (pI (v3 + 0)), some (pI (v4 + 1)), none]) dX9_count_52 rfl rfl (by decide) rfl rfl q7 ?_
        refine Ok.goto (tgt := 7) dX9_count_55 rfl ?_
        exact K
      · replace K := K.2 c5
        refine Ok.iconst (pc' := 46) in_1 dX9_count_45 rfl ?_
        refine Ok.goto (tgt := 50) dX9_count_46 rfl ?_
        obtain ⟨q6, K⟩ := K
        refine Ok.iadd (pc' := 51) dX9_count_50 rfl q6 ?_
        refine Ok.istore_n (pc' := 52) (ls' := [some (pR 0), some (pI what), some (pI (v2 + 1)), some (pI (v3 + 1)), some (pI v4), none]) dX9_count_51 rfl (by decide) rfl rfl ?_
        obtain ⟨q7, K⟩ := K
        refine Ok.iinc (pc' := 55) (ls' := [some (pR 0), some (pI what), some (pI (v2 + 1)), some (pI (v3 + 1)), some (pI (v4 + 1)), none]) dX9_count_52 rfl rfl (by decide) rfl rfl q7 ?_
        refine Ok.goto (tgt := 7) dX9_count_55 rfl ?_
        exact K
theorem sX9_count_64 {what v2 v3 v4 v5 : Int} {h : Hp} {Post : Int → Hp → Prop}
    (K : ((h.2.1 0 6 ≤ v5) → ((what = 0) → Post (h.2.1 0 0) h) ∧ ((what = 1) → Post v2 h) ∧ ((what = 2) → Post v3 h) ∧ ((what = 3) → Post (h.2.1 0 6) h) ∧ ((what = 4) → Post v4 h) ∧ ((what = 5) → Post (h.2.1 0 13) h) ∧ ((what < 0 ∨ 5 < what) → Post (-1) h)) ∧ ((¬ h.2.1 0 6 ≤ v5) → ∃ k2 : Nat, v5 = (k2 : Int) ∧ k2 < 10 ∧ (((¬ h.1 7 k2 = (-4)) → inR ((v4 + 0)) ∧ (inR ((v5 + 1)) ∧ (Ok shM 0 0 mX9_count 64 [some (pR 0), some (pI what), some (pI v2), some (pI v3), some (pI (v4 + 0)), some (pI (v5 + 1))] [] h Post))) ∧ ((h.1 7 k2 = (-4)) → inR ((v4 + 1)) ∧ (inR ((v5 + 1)) ∧ (Ok shM 0 0 mX9_count 64 [some (pR 0), some (pI what), some (pI v2), some (pI v3), some (pI (v4 + 1)), some (pI (v5 + 1))] [] h Post)))))) :
    Ok shM 0 0 mX9_count 64 [some (pR 0), some (pI what), some (pI v2), some (pI v3), some (pI v4), some (pI v5)] [] h Post := by
  show Ok shM 0 0 mX9_count 64 [some (pR 0), some (pI what), some (pI v2), some (pI v3), some (pI v4), some (pI v5)] [] h Post
  refine Ok.iload (pc' := 66) rfl dX9_count_64 rfl ?_
  refine Ok.aload_n (pc' := 67) rfl dX9_count_66 rfl ?_
  refine Ok.getI (pc' := 70) (z := h.2.1 0 6) (k := 6) dX9_count_67 rfl (shM_0 _) rfl inX9 (by decide) rfl rfl wd_987 rfl ?_
  refine Ok.icmp_ge (tgt := 101) dX9_count_70 rfl rfl (fun c1 => ?_) (fun c1 => ?_)
  · replace K := K.1 c1
    refine Ok.iload_n (pc' := 102) rfl dX9_count_101 rfl ?_
    obtain ⟨Kc2_0, Kc2_1, Kc2_2, Kc2_3, Kc2_4, Kc2_5, Kc2_6⟩ := K
    refine Ok.tsw dX9_count_102 rfl ⟨by decide, by decide⟩ (fun tgt ht => ?_)
    have hx : (what = 0) ∨ (what = 1) ∨ (what = 2) ∨ (what = 3) ∨ (what = 4) ∨ (what = 5) ∨ (what < 0 ∨ 5 < what) := by omega
    rcases hx with c2 | c2 | c2 | c2 | c2 | c2 | c2
    · obtain rfl : 140 = tgt := by rw [c2] at ht; exact Int.ofNat.inj ht
      have K := Kc2_0 c2
      refine Ok.aload_n (pc' := 141) rfl dX9_count_140 rfl ?_
      refine Ok.getI (pc' := 144) (z := h.2.1 0 0) (k := 0) dX9_count_141 rfl (shM_0 _) rfl inX9 (by decide) rfl rfl wd_981 rfl ?_
      exact Ok.iret dX9_count_144 rfl (by decide) K
    · obtain rfl : 145 = tgt := by rw [c2] at ht; exact Int.ofNat.inj ht
      have K := Kc2_1 c2
      refine Ok.iload_n (pc' := 146) rfl dX9_count_145 rfl ?_
      exact Ok.iret dX9_count_146 rfl (by decide) K
    · obtain rfl : 147 = tgt := by rw [c2] at ht; exact Int.ofNat.inj ht
      have K := Kc2_2 c2
      refine Ok.iload_n (pc' := 148) rfl dX9_count_147 rfl ?_
      exact Ok.iret dX9_count_148 rfl (by decide) K
    · obtain rfl : 149 = tgt := by rw [c2] at ht; exact Int.ofNat.inj ht
      have K := Kc2_3 c2
      refine Ok.aload_n (pc' := 150) rfl dX9_count_149 rfl ?_
      refine Ok.getI (pc' := 153) (z := h.2.1 0 6) (k := 6) dX9_count_150 rfl (shM_0 _) rfl inX9 (by decide) rfl rfl wd_987 rfl ?_
      exact Ok.iret dX9_count_153 rfl (by decide) K
    · obtain rfl : 154 = tgt := by rw [c2] at ht; exact Int.ofNat.inj ht
      have K := Kc2_4 c2
      refine Ok.iload (pc' := 156) rfl dX9_count_154 rfl ?_
      exact Ok.iret dX9_count_156 rfl (by decide) K
    · obtain rfl : 157 = tgt := by rw [c2] at ht; exact Int.ofNat.inj ht
      have K := Kc2_5 c2
      refine Ok.aload_n (pc' := 158) rfl dX9_count_157 rfl ?_
      refine Ok.getI (pc' := 161) (z := h.2.1 0 13) (k := 13) dX9_count_158 rfl (shM_0 _) rfl inX9 (by decide) rfl rfl wd_994 rfl ?_
      exact Ok.iret dX9_count_161 rfl (by decide) K
    · obtain rfl : 162 = tgt := by
        rcases c2 with q | q
        · rw [swT_out (Or.inl q)] at ht; exact Int.ofNat.inj ht
        · rw [swT_out (Or.inr q)] at ht; exact Int.ofNat.inj ht
      have K := Kc2_6 c2
      refine Ok.iconst (pc' := 163) in_m1 dX9_count_162 rfl ?_
      exact Ok.iret dX9_count_163 rfl (by decide) K
  · replace K := K.2 c1
    refine Ok.iload (pc' := 75) rfl dX9_count_73 rfl ?_
    refine Ok.aload_n (pc' := 76) rfl dX9_count_75 rfl ?_
    refine Ok.getR (pc' := 79) (k := 8) dX9_count_76 rfl (shM_0 _) rfl inX9 (by decide) rfl wd_989 rfl ?_
    refine Ok.iload (pc' := 81) rfl dX9_count_79 rfl ?_
    obtain ⟨k2, e2, q2, K⟩ := K
    refine Ok.iald (pc' := 82) (z := h.1 7 k2) dX9_count_81 rfl (shM_7 _) (by decide) e2 q2 rfl ?_
    refine Ok.bipush (pc' := 84) ⟨by decide, by decide⟩ dX9_count_82 rfl ?_
    refine Ok.icmp_ne (tgt := 91) dX9_count_84 rfl rfl (fun c3 => ?_) (fun c3 => ?_)
    · replace K := K.1 c3
      refine Ok.iconst (pc' := 92) in_0 dX9_count_91 rfl ?_
      obtain ⟨q4, K⟩ := K
      refine Ok.iadd (pc' := 93) dX9_count_92 rfl q4 ?_
      refine Ok.istore (pc' := 95) (ls' := [some (pR 0), some (pI what), some (pI v2), some (pI v3), some (pI (v4 + 0)), some (pI v5)]) dX9_count_93 rfl (by decide) rfl rfl ?_
      obtain ⟨q5, K⟩ := K
      refine Ok.iinc (pc' := 98) (ls' := [some (pR 0), some (pI what), some (pI v2), some (pI v3), some (pI (v4 + 0)), some (pI (v5 + 1))]) dX9_count_95 rfl rfl (by decide) rfl rfl q5 ?_
      refine Ok.goto (tgt := 64) dX9_count_98 rfl ?_
      exact K
    · replace K := K.2 c3
      refine Ok.iconst (pc' := 88) in_1 dX9_count_87 rfl ?_
      refine Ok.goto (tgt := 92) dX9_count_88 rfl ?_
      obtain ⟨q4, K⟩ := K
      refine Ok.iadd (pc' := 93) dX9_count_92 rfl q4 ?_
      refine Ok.istore (pc' := 95) (ls' := [some (pR 0), some (pI what), some (pI v2), some (pI v3), some (pI (v4 + 1)), some (pI v5)]) dX9_count_93 rfl (by decide) rfl rfl ?_
      obtain ⟨q5, K⟩ := K
      refine Ok.iinc (pc' := 98) (ls' := [some (pR 0), some (pI what), some (pI v2), some (pI v3), some (pI (v4 + 1)), some (pI (v5 + 1))]) dX9_count_95 rfl rfl (by decide) rfl rfl q5 ?_
      refine Ok.goto (tgt := 64) dX9_count_98 rfl ?_
      exact K
