theorem sX9_refuses_0 {why step : Int} {h : Hp} {Post : Int → Hp → Prop}
    (K : Post 0 (hI (hI (hI (hI h 0 25 why) 0 28 step) 0 26 0) 0 29 1)) :
    Cl shM mX9_refuses [pR 0, pI why, pI step] h Post := by
  show Ok shM 0 0 mX9_refuses 0 [some (pR 0), some (pI why), some (pI step)] [] h Post
  refine Ok.aload_n (pc' := 1) rfl dX9_refuses_0 rfl ?_
  refine Ok.iload_n (pc' := 2) rfl dX9_refuses_1 rfl ?_
  refine Ok.putI (pc' := 5) (k := 25) dX9_refuses_2 rfl (shM_0 _) rfl inX9 tyX9 tyX9_ok nmX9 (by decide) rfl wd_1006 rfl rfl (Or.inl rfl) ?_
  refine Ok.aload_n (pc' := 6) rfl dX9_refuses_5 rfl ?_
  refine Ok.iload_n (pc' := 7) rfl dX9_refuses_6 rfl ?_
  refine Ok.putI (pc' := 10) (k := 28) dX9_refuses_7 rfl (shM_0 _) rfl inX9 tyX9 tyX9_ok nmX9 (by decide) rfl wd_1009 rfl rfl (Or.inl rfl) ?_
  refine Ok.aload_n (pc' := 11) rfl dX9_refuses_10 rfl ?_
  refine Ok.iconst (pc' := 12) in_0 dX9_refuses_11 rfl ?_
  refine Ok.putI (pc' := 15) (k := 26) dX9_refuses_12 rfl (shM_0 _) rfl inX9 tyX9 tyX9_ok nmX9 (by decide) rfl wd_1007 rfl rfl (Or.inl rfl) ?_
  refine Ok.aload_n (pc' := 16) rfl dX9_refuses_15 rfl ?_
  refine Ok.iconst (pc' := 17) in_1 dX9_refuses_16 rfl ?_
  refine Ok.putI (pc' := 20) (k := 29) dX9_refuses_17 rfl (shM_0 _) rfl inX9 tyX9 tyX9_ok nmX9 (by decide) rfl wd_1010 rfl rfl (Or.inr ⟨rfl, Or.inr rfl⟩) ?_
  exact Ok.vret dX9_refuses_20 rfl (by decide) K
theorem sX9_pays_0 {cost step : Int} {h : Hp} {Post : Int → Hp → Prop}
    (K : ((cost ≤ h.2.1 0 23) → inR ((h.2.1 0 23 - cost)) ∧ (inR ((h.2.1 0 24 + cost)) ∧ (Post 1 (hI (hI h 0 23 (h.2.1 0 23 - cost)) 0 24 (h.2.1 0 24 + cost))))) ∧ ((¬ cost ≤ h.2.1 0 23) → Cl shM mX9_refuses [pR 0, pI 4, pI step] h (fun _ h1 => Post 0 h1))) :
    Cl shM mX9_pays [pR 0, pI cost, pI step] h Post := by
  show Ok shM 0 0 mX9_pays 0 [some (pR 0), some (pI cost), some (pI step)] [] h Post
  refine Ok.iload_n (pc' := 1) rfl dX9_pays_0 rfl ?_
  refine Ok.aload_n (pc' := 2) rfl dX9_pays_1 rfl ?_
  refine Ok.getI (pc' := 5) (z := h.2.1 0 23) (k := 23) dX9_pays_2 rfl (shM_0 _) rfl inX9 (by decide) rfl rfl wd_1004 rfl ?_
  refine Ok.icmp_le (tgt := 16) dX9_pays_5 rfl rfl (fun c1 => ?_) (fun c1 => ?_)
  · replace K := K.1 c1
    refine Ok.aload_n (pc' := 17) rfl dX9_pays_16 rfl ?_
    refine Ok.dup (pc' := 18) dX9_pays_17 rfl rfl ?_
    refine Ok.getI (pc' := 21) (z := h.2.1 0 23) (k := 23) dX9_pays_18 rfl (shM_0 _) rfl inX9 (by decide) rfl rfl wd_1004 rfl ?_
    refine Ok.iload_n (pc' := 22) rfl dX9_pays_21 rfl ?_
    obtain ⟨q2, K⟩ := K
    refine Ok.isub (pc' := 23) dX9_pays_22 rfl q2 ?_
    refine Ok.putI (pc' := 26) (k := 23) dX9_pays_23 rfl (shM_0 _) rfl inX9 tyX9 tyX9_ok nmX9 (by decide) rfl wd_1004 rfl rfl (Or.inl rfl) ?_
    refine Ok.aload_n (pc' := 27) rfl dX9_pays_26 rfl ?_
    refine Ok.dup (pc' := 28) dX9_pays_27 rfl rfl ?_
    refine Ok.getI (pc' := 31) (z := h.2.1 0 24) (k := 24) dX9_pays_28 rfl (shM_0 _) rfl inX9 (by decide) rfl rfl wd_1005 rfl ?_
    refine Ok.iload_n (pc' := 32) rfl dX9_pays_31 rfl ?_
    obtain ⟨q3, K⟩ := K
    refine Ok.iadd (pc' := 33) dX9_pays_32 rfl q3 ?_
    refine Ok.putI (pc' := 36) (k := 24) dX9_pays_33 rfl (shM_0 _) rfl inX9 tyX9 tyX9_ok nmX9 (by decide) rfl wd_1005 rfl rfl (Or.inl rfl) ?_
    refine Ok.iconst (pc' := 37) in_1 dX9_pays_36 rfl ?_
    exact Ok.zret dX9_pays_37 rfl (by decide) (Or.inr rfl) K
  · replace K := K.2 c1
    refine Ok.aload_n (pc' := 9) rfl dX9_pays_8 rfl ?_
    refine Ok.iconst (pc' := 10) in_4 dX9_pays_9 rfl ?_
    refine Ok.iload_n (pc' := 11) rfl dX9_pays_10 rfl ?_
    refine Ok.callV (pc' := 14) (av := [pI 4, pI step]) (rest := []) dX9_pays_11 rfl (by decide) cvX9_pays_181 (shM_0 _) rfl rfl rfl (leb rfl) (leb rfl) K (fun r_ h1 K => ?_)
    show Ok shM 0 0 mX9_pays 14 [some (pR 0), some (pI cost), some (pI step)] [] h1 Post
    refine Ok.iconst (pc' := 15) in_0 dX9_pays_14 rfl ?_
    exact Ok.zret dX9_pays_15 rfl (by decide) (Or.inl rfl) K
theorem sX9_costOf_0 {k0 : Int} {h : Hp} {Post : Int → Hp → Prop}
    (K : ((k0 = 0) → Post 0 h) ∧ ((¬ k0 = 0) → ((k0 = 1) → Post 0 h) ∧ ((¬ k0 = 1) → ((k0 = 5) → Post 0 h) ∧ ((¬ k0 = 5) → ((k0 = 11) → Post 0 h) ∧ ((¬ k0 = 11) → ((¬ k0 = 6) → Post 1 h) ∧ ((k0 = 6) → Post 0 h)))))) :
    Cl shM mX9_costOf [pI k0] h Post := by
  show Ok shM 0 0 mX9_costOf 0 [some (pI k0)] [] h Post
  refine Ok.iload_n (pc' := 1) rfl dX9_costOf_0 rfl ?_
  refine Ok.if_eq (tgt := 26) dX9_costOf_1 rfl rfl (fun c1 => ?_) (fun c1 => ?_)
  · replace K := K.1 c1
    refine Ok.iconst (pc' := 27) in_0 dX9_costOf_26 rfl ?_
    refine Ok.goto (tgt := 31) dX9_costOf_27 rfl ?_
    exact Ok.iret dX9_costOf_31 rfl (by decide) K
  · replace K := K.2 c1
    refine Ok.iload_n (pc' := 5) rfl dX9_costOf_4 rfl ?_
    refine Ok.iconst (pc' := 6) in_1 dX9_costOf_5 rfl ?_
    refine Ok.icmp_eq (tgt := 26) dX9_costOf_6 rfl rfl (fun c2 => ?_) (fun c2 => ?_)
    · replace K := K.1 c2
      refine Ok.iconst (pc' := 27) in_0 dX9_costOf_26 rfl ?_
      refine Ok.goto (tgt := 31) dX9_costOf_27 rfl ?_
      exact Ok.iret dX9_costOf_31 rfl (by decide) K
    · replace K := K.2 c2
      refine Ok.iload_n (pc' := 10) rfl dX9_costOf_9 rfl ?_
      refine Ok.iconst (pc' := 11) in_5 dX9_costOf_10 rfl ?_
      refine Ok.icmp_eq (tgt := 26) dX9_costOf_11 rfl rfl (fun c3 => ?_) (fun c3 => ?_)
      · replace K := K.1 c3
        refine Ok.iconst (pc' := 27) in_0 dX9_costOf_26 rfl ?_
        refine Ok.goto (tgt := 31) dX9_costOf_27 rfl ?_
        exact Ok.iret dX9_costOf_31 rfl (by decide) K
      · replace K := K.2 c3
        refine Ok.iload_n (pc' := 15) rfl dX9_costOf_14 rfl ?_
        refine Ok.bipush (pc' := 17) ⟨by decide, by decide⟩ dX9_costOf_15 rfl ?_
        refine Ok.icmp_eq (tgt := 26) dX9_costOf_17 rfl rfl (fun c4 => ?_) (fun c4 => ?_)
        · replace K := K.1 c4
          refine Ok.iconst (pc' := 27) in_0 dX9_costOf_26 rfl ?_
          refine Ok.goto (tgt := 31) dX9_costOf_27 rfl ?_
          exact Ok.iret dX9_costOf_31 rfl (by decide) K
        · replace K := K.2 c4
          refine Ok.iload_n (pc' := 21) rfl dX9_costOf_20 rfl ?_
          refine Ok.bipush (pc' := 23) ⟨by decide, by decide⟩ dX9_costOf_21 rfl ?_
          refine Ok.icmp_ne (tgt := 30) dX9_costOf_23 rfl rfl (fun c5 => ?_) (fun c5 => ?_)
          · replace K := K.1 c5
            refine Ok.iconst (pc' := 31) in_1 dX9_costOf_30 rfl ?_
            exact Ok.iret dX9_costOf_31 rfl (by decide) K
          · replace K := K.2 c5
            refine Ok.iconst (pc' := 27) in_0 dX9_costOf_26 rfl ?_
            refine Ok.goto (tgt := 31) dX9_costOf_27 rfl ?_
            exact Ok.iret dX9_costOf_31 rfl (by decide) K
theorem sX9_begins_0 {s0 : Int} {h : Hp} {Post : Int → Hp → Prop}
    (K : ∃ k1 : Nat, s0 = (k1 : Int) ∧ k1 < 600 ∧ (Cl shM mX9_costOf [pI (h.1 1 k1)] h (fun r1 h1 => Cl shM mX9_pays [pR 0, pI r1, pI s0] h1 (fun r2 h2 => ((¬ r2 = 0) → ((¬ h2.1 1 k1 = 6) → ∃ k4 : Nat, h2.2.1 0 16 = (k4 : Int) ∧ k4 < 600 ∧ (inR ((h2.2.1 0 16 + 1)) ∧ (Post 0 (hI (hA (hA (hA (hA h2 5 k1 (wr (h2.1 5 k1 + 1))) 14 k4 s0) 15 k4 0) 17 k4 (h2.2.1 0 22)) 0 16 (h2.2.1 0 16 + 1))))) ∧ ((h2.1 1 k1 = 6) → ∃ k4 : Nat, h2.2.1 0 16 = (k4 : Int) ∧ k4 < 600 ∧ (inR ((h2.2.1 0 16 + 1)) ∧ (Post 0 (hI (hA (hA (hA (hA h2 5 k1 (wr (h2.1 5 k1 + 0))) 14 k4 s0) 15 k4 0) 17 k4 (h2.2.1 0 22)) 0 16 (h2.2.1 0 16 + 1)))))) ∧ ((r2 = 0) → Post 0 h2))))) :
    Cl shM mX9_begins [pR 0, pI s0] h Post := by
  show Ok shM 0 0 mX9_begins 0 [some (pR 0), some (pI s0)] [] h Post
  refine Ok.aload_n (pc' := 1) rfl dX9_begins_0 rfl ?_
  refine Ok.aload_n (pc' := 2) rfl dX9_begins_1 rfl ?_
  refine Ok.getR (pc' := 5) (k := 1) dX9_begins_2 rfl (shM_0 _) rfl inX9 (by decide) rfl wd_982 rfl ?_
  refine Ok.iload_n (pc' := 6) rfl dX9_begins_5 rfl ?_
  obtain ⟨k1, e1, q1, K⟩ := K
  refine Ok.iald (pc' := 7) (z := h.1 1 k1) dX9_begins_6 rfl (shM_1 _) (by decide) e1 q1 rfl ?_
  refine Ok.callS (pc' := 10) (av := [pI (h.1 1 k1)]) (rest := [pR 0]) dX9_begins_7 rfl (by decide) cvX9_begins_188 rfl rfl (leb rfl) (leb rfl) K (fun r1 h1 K => ?_)
  show Ok shM 0 0 mX9_begins 10 [some (pR 0), some (pI s0)] [pI r1, pR 0] h1 Post
  refine Ok.iload_n (pc' := 11) rfl dX9_begins_10 rfl ?_
  refine Ok.callV (pc' := 14) (av := [pI r1, pI s0]) (rest := []) dX9_begins_11 rfl (by decide) cvX9_begins_191 (shM_0 _) rfl rfl rfl (leb rfl) (leb rfl) K (fun r2 h2 K => ?_)
  show Ok shM 0 0 mX9_begins 14 [some (pR 0), some (pI s0)] [pI r2] h2 Post
  refine Ok.if_ne (tgt := 18) dX9_begins_14 rfl rfl (fun c2 => ?_) (fun c2 => ?_)
  · replace K := K.1 c2
    refine Ok.aload_n (pc' := 19) rfl dX9_begins_18 rfl ?_
    refine Ok.getR (pc' := 22) (k := 5) dX9_begins_19 rfl (shM_0 _) rfl inX9 (by decide) rfl wd_986 rfl ?_
    refine Ok.iload_n (pc' := 23) rfl dX9_begins_22 rfl ?_
    refine Ok.dup2 (pc' := 24) dX9_begins_23 rfl rfl rfl ?_
    refine Ok.iald (pc' := 25) (z := h2.1 5 k1) dX9_begins_24 rfl (shM_5 _) (by decide) e1 q1 rfl ?_
    refine Ok.aload_n (pc' := 26) rfl dX9_begins_25 rfl ?_
    refine Ok.getR (pc' := 29) (k := 1) dX9_begins_26 rfl (shM_0 _) rfl inX9 (by decide) rfl wd_982 rfl ?_
    refine Ok.iload_n (pc' := 30) rfl dX9_begins_29 rfl ?_
    refine Ok.iald (pc' := 31) (z := h2.1 1 k1) dX9_begins_30 rfl (shM_1 _) (by decide) e1 q1 rfl ?_
    refine Ok.bipush (pc' := 33) ⟨by decide, by decide⟩ dX9_begins_31 rfl ?_
    refine Ok.icmp_ne (tgt := 40) dX9_begins_33 rfl rfl (fun c3 => ?_) (fun c3 => ?_)
    · replace K := K.1 c3
      refine Ok.iconst (pc' := 41) in_1 dX9_begins_40 rfl ?_
      refine Ok.iaddw (pc' := 42) dX9_begins_41 rfl ?_
      refine Ok.iast (pc' := 43) dX9_begins_42 rfl (shM_5 _) (by decide) e1 q1 ?_
      refine Ok.aload_n (pc' := 44) rfl dX9_begins_43 rfl ?_
      refine Ok.getR (pc' := 47) (k := 17) dX9_begins_44 rfl (shM_0 _) rfl inX9 (by decide) rfl wd_998 rfl ?_
      refine Ok.aload_n (pc' := 48) rfl dX9_begins_47 rfl ?_
      refine Ok.getI (pc' := 51) (z := h2.2.1 0 16) (k := 16) dX9_begins_48 rfl (shM_0 _) rfl inX9 (by decide) rfl rfl wd_997 rfl ?_
      refine Ok.iload_n (pc' := 52) rfl dX9_begins_51 rfl ?_
      obtain ⟨k4, e4, q4, K⟩ := K
      refine Ok.iast (pc' := 53) dX9_begins_52 rfl (shM_14 _) (by decide) e4 q4 ?_
      refine Ok.aload_n (pc' := 54) rfl dX9_begins_53 rfl ?_
      refine Ok.getR (pc' := 57) (k := 18) dX9_begins_54 rfl (shM_0 _) rfl inX9 (by decide) rfl wd_999 rfl ?_
      refine Ok.aload_n (pc' := 58) rfl dX9_begins_57 rfl ?_
      refine Ok.getI (pc' := 61) (z := h2.2.1 0 16) (k := 16) dX9_begins_58 rfl (shM_0 _) rfl inX9 (by decide) rfl rfl wd_997 rfl ?_
      refine Ok.iconst (pc' := 62) in_0 dX9_begins_61 rfl ?_
      refine Ok.iast (pc' := 63) dX9_begins_62 rfl (shM_15 _) (by decide) e4 q4 ?_
      refine Ok.aload_n (pc' := 64) rfl dX9_begins_63 rfl ?_
      refine Ok.getR (pc' := 67) (k := 20) dX9_begins_64 rfl (shM_0 _) rfl inX9 (by decide) rfl wd_1001 rfl ?_
      refine Ok.aload_n (pc' := 68) rfl dX9_begins_67 rfl ?_
      refine Ok.getI (pc' := 71) (z := h2.2.1 0 16) (k := 16) dX9_begins_68 rfl (shM_0 _) rfl inX9 (by decide) rfl rfl wd_997 rfl ?_
      refine Ok.aload_n (pc' := 72) rfl dX9_begins_71 rfl ?_
      refine Ok.getI (pc' := 75) (z := h2.2.1 0 22) (k := 22) dX9_begins_72 rfl (shM_0 _) rfl inX9 (by decide) rfl rfl wd_1003 rfl ?_
      refine Ok.iast (pc' := 76) dX9_begins_75 rfl (shM_17 _) (by decide) e4 q4 ?_
      refine Ok.aload_n (pc' := 77) rfl dX9_begins_76 rfl ?_
      refine Ok.dup (pc' := 78) dX9_begins_77 rfl rfl ?_
      refine Ok.getI (pc' := 81) (z := h2.2.1 0 16) (k := 16) dX9_begins_78 rfl (shM_0 _) rfl inX9 (by decide) rfl rfl wd_997 rfl ?_
      refine Ok.iconst (pc' := 82) in_1 dX9_begins_81 rfl ?_
      obtain ⟨q5, K⟩ := K
      refine Ok.iadd (pc' := 83) dX9_begins_82 rfl q5 ?_
      refine Ok.putI (pc' := 86) (k := 16) dX9_begins_83 rfl (shM_0 _) rfl inX9 tyX9 tyX9_ok nmX9 (by decide) rfl wd_997 rfl rfl (Or.inl rfl) ?_
      exact Ok.vret dX9_begins_86 rfl (by decide) K
    · replace K := K.2 c3
      refine Ok.iconst (pc' := 37) in_0 dX9_begins_36 rfl ?_
      refine Ok.goto (tgt := 41) dX9_begins_37 rfl ?_
      refine Ok.iaddw (pc' := 42) dX9_begins_41 rfl ?_
      refine Ok.iast (pc' := 43) dX9_begins_42 rfl (shM_5 _) (by decide) e1 q1 ?_
      refine Ok.aload_n (pc' := 44) rfl dX9_begins_43 rfl ?_
      refine Ok.getR (pc' := 47) (k := 17) dX9_begins_44 rfl (shM_0 _) rfl inX9 (by decide) rfl wd_998 rfl ?_
      refine Ok.aload_n (pc' := 48) rfl dX9_begins_47 rfl ?_
      refine Ok.getI (pc' := 51) (z := h2.2.1 0 16) (k := 16) dX9_begins_48 rfl (shM_0 _) rfl inX9 (by decide) rfl rfl wd_997 rfl ?_
      refine Ok.iload_n (pc' := 52) rfl dX9_begins_51 rfl ?_
      obtain ⟨k4, e4, q4, K⟩ := K
      refine Ok.iast (pc' := 53) dX9_begins_52 rfl (shM_14 _) (by decide) e4 q4 ?_
      refine Ok.aload_n (pc' := 54) rfl dX9_begins_53 rfl ?_
      refine Ok.getR (pc' := 57) (k := 18) dX9_begins_54 rfl (shM_0 _) rfl inX9 (by decide) rfl wd_999 rfl ?_
      refine Ok.aload_n (pc' := 58) rfl dX9_begins_57 rfl ?_
      refine Ok.getI (pc' := 61) (z := h2.2.1 0 16) (k := 16) dX9_begins_58 rfl (shM_0 _) rfl inX9 (by decide) rfl rfl wd_997 rfl ?_
      refine Ok.iconst (pc' := 62) in_0 dX9_begins_61 rfl ?_
      refine Ok.iast (pc' := 63) dX9_begins_62 rfl (shM_15 _) (by decide) e4 q4 ?_
      refine Ok.aload_n (pc' := 64) rfl dX9_begins_63 rfl ?_
      refine Ok.getR (pc' := 67) (k := 20) dX9_begins_64 rfl (shM_0 _) rfl inX9 (by decide) rfl wd_1001 rfl ?_
      refine Ok.aload_n (pc' := 68) rfl dX9_begins_67 rfl ?_
      refine Ok.getI (pc' := 71) (z := h2.2.1 0 16) (k := 16) dX9_begins_68 rfl (shM_0 _) rfl inX9 (by decide) rfl rfl wd_997 rfl ?_
      refine Ok.aload_n (pc' := 72) rfl dX9_begins_71 rfl ?_
      refine Ok.getI (pc' := 75) (z := h2.2.1 0 22) (k := 22) dX9_begins_72 rfl (shM_0 _) rfl inX9 (by decide) rfl rfl wd_1003 rfl ?_
      refine Ok.iast (pc' := 76) dX9_begins_75 rfl (shM_17 _) (by decide) e4 q4 ?_
      refine Ok.aload_n (pc' := 77) rfl dX9_begins_76 rfl ?_
      refine Ok.dup (pc' := 78) dX9_begins_77 rfl rfl ?_
      refine Ok.getI (pc' := 81) (z := h2.2.1 0 16) (k := 16) dX9_begins_78 rfl (shM_0 _) rfl inX9 (by decide) rfl rfl wd_997 rfl ?_
      refine Ok.iconst (pc' := 82) in_1 dX9_begins_81 rfl ?_
      obtain ⟨q5, K⟩ := K
      refine Ok.iadd (pc' := 83) dX9_begins_82 rfl q5 ?_
      refine Ok.putI (pc' := 86) (k := 16) dX9_begins_83 rfl (shM_0 _) rfl inX9 tyX9 tyX9_ok nmX9 (by decide) rfl wd_997 rfl rfl (Or.inl rfl) ?_
      exact Ok.vret dX9_begins_86 rfl (by decide) K
  · replace K := K.2 c2
    exact Ok.vret dX9_begins_17 rfl (by decide) K
theorem sX9_ends_0 {v : Int} {h : Hp} {Post : Int → Hp → Prop}
    (K : inR ((h.2.1 0 16 - 1)) ∧ (((¬ (h.2.1 0 16 - 1) = 0) → inR (((h.2.1 0 16 - 1) - 1)) ∧ (∃ k4 : Nat, ((h.2.1 0 16 - 1) - 1) = (k4 : Int) ∧ k4 < 600 ∧ (((¬ h.1 15 k4 = 9) → inR ((3 * ((h.2.1 0 16 - 1) - 1))) ∧ (inR (((3 * ((h.2.1 0 16 - 1) - 1)) + h.1 15 k4)) ∧ (∃ k8 : Nat, ((3 * ((h.2.1 0 16 - 1) - 1)) + h.1 15 k4) = (k8 : Int) ∧ k8 < 1800 ∧ (inR ((h.1 15 k4 + 1)) ∧ (Post 0 (hA (hA (hI h 0 16 (h.2.1 0 16 - 1)) 16 k8 v) 15 k4 (h.1 15 k4 + 1))))))) ∧ ((h.1 15 k4 = 9) → inR ((h.2.1 0 22 - 1)) ∧ (Cl shM mX9_ends2 [pR 0, pI v] (hI (hI h 0 16 (h.2.1 0 16 - 1)) 0 22 (h.2.1 0 22 - 1)) (fun _ h1 => Post 0 h1)))))) ∧ (((h.2.1 0 16 - 1) = 0) → Post 0 (hI (hI (hI h 0 16 (h.2.1 0 16 - 1)) 0 26 v) 0 29 1)))) :
    Cl shM mX9_ends [pR 0, pI v] h Post := by
  show Ok shM 0 0 mX9_ends 0 [some (pR 0), some (pI v), none] [] h Post
  refine Ok.aload_n (pc' := 1) rfl dX9_ends_0 rfl ?_
  refine Ok.dup (pc' := 2) dX9_ends_1 rfl rfl ?_
  refine Ok.getI (pc' := 5) (z := h.2.1 0 16) (k := 16) dX9_ends_2 rfl (shM_0 _) rfl inX9 (by decide) rfl rfl wd_997 rfl ?_
  refine Ok.iconst (pc' := 6) in_1 dX9_ends_5 rfl ?_
  obtain ⟨q1, K⟩ := K
  refine Ok.isub (pc' := 7) dX9_ends_6 rfl q1 ?_
  refine Ok.putI (pc' := 10) (k := 16) dX9_ends_7 rfl (shM_0 _) rfl inX9 tyX9 tyX9_ok nmX9 (by decide) rfl wd_997 rfl rfl (Or.inl rfl) ?_
  refine Ok.aload_n (pc' := 11) rfl dX9_ends_10 rfl ?_
  refine Ok.getI (pc' := 14) (z := (h.2.1 0 16 - 1)) (k := 16) dX9_ends_11 rfl (shM_0 _) rfl inX9 (by decide) rfl rfl wd_997 rfl ?_
  refine Ok.if_ne (tgt := 28) dX9_ends_14 rfl rfl (fun c2 => ?_) (fun c2 => ?_)
  · replace K := K.1 c2
    refine Ok.aload_n (pc' := 29) rfl dX9_ends_28 rfl ?_
    refine Ok.getI (pc' := 32) (z := (h.2.1 0 16 - 1)) (k := 16) dX9_ends_29 rfl (shM_0 _) rfl inX9 (by decide) rfl rfl wd_997 rfl ?_
    refine Ok.iconst (pc' := 33) in_1 dX9_ends_32 rfl ?_
    obtain ⟨q3, K⟩ := K
    refine Ok.isub (pc' := 34) dX9_ends_33 rfl q3 ?_
    refine Ok.istore_n (pc' := 35) (ls' := [some (pR 0), some (pI v), some (pI ((h.2.1 0 16 - 1) - 1))]) dX9_ends_34 rfl (by decide) rfl rfl ?_
    refine Ok.aload_n (pc' := 36) rfl dX9_ends_35 rfl ?_
    refine Ok.getR (pc' := 39) (k := 18) dX9_ends_36 rfl (shM_0 _) rfl inX9 (by decide) rfl wd_999 rfl ?_
    refine Ok.iload_n (pc' := 40) rfl dX9_ends_39 rfl ?_
    obtain ⟨k4, e4, q4, K⟩ := K
    refine Ok.iald (pc' := 41) (z := h.1 15 k4) dX9_ends_40 rfl (shM_15 _) (by decide) e4 q4 rfl ?_
    refine Ok.bipush (pc' := 43) ⟨by decide, by decide⟩ dX9_ends_41 rfl ?_
    refine Ok.icmp_ne (tgt := 62) dX9_ends_43 rfl rfl (fun c5 => ?_) (fun c5 => ?_)
    · replace K := K.1 c5
      refine Ok.aload_n (pc' := 63) rfl dX9_ends_62 rfl ?_
      refine Ok.getR (pc' := 66) (k := 19) dX9_ends_63 rfl (shM_0 _) rfl inX9 (by decide) rfl wd_1000 rfl ?_
      refine Ok.iconst (pc' := 67) in_3 dX9_ends_66 rfl ?_
      refine Ok.iload_n (pc' := 68) rfl dX9_ends_67 rfl ?_
      obtain ⟨q6, K⟩ := K
      refine Ok.imul (pc' := 69) dX9_ends_68 rfl q6 ?_
      refine Ok.aload_n (pc' := 70) rfl dX9_ends_69 rfl ?_
      refine Ok.getR (pc' := 73) (k := 18) dX9_ends_70 rfl (shM_0 _) rfl inX9 (by decide) rfl wd_999 rfl ?_
      refine Ok.iload_n (pc' := 74) rfl dX9_ends_73 rfl ?_
      refine Ok.iald (pc' := 75) (z := h.1 15 k4) dX9_ends_74 rfl (shM_15 _) (by decide) e4 q4 rfl ?_
      obtain ⟨q7, K⟩ := K
      refine Ok.iadd (pc' := 76) dX9_ends_75 rfl q7 ?_
      refine Ok.iload_n (pc' := 77) rfl dX9_ends_76 rfl ?_
      obtain ⟨k8, e8, q8, K⟩ := K
      refine Ok.iast (pc' := 78) dX9_ends_77 rfl (shM_16 _) (by decide) e8 q8 ?_
      refine Ok.aload_n (pc' := 79) rfl dX9_ends_78 rfl ?_
      refine Ok.getR (pc' := 82) (k := 18) dX9_ends_79 rfl (shM_0 _) rfl inX9 (by decide) rfl wd_999 rfl ?_
      refine Ok.iload_n (pc' := 83) rfl dX9_ends_82 rfl ?_
      refine Ok.dup2 (pc' := 84) dX9_ends_83 rfl rfl rfl ?_
      refine Ok.iald (pc' := 85) (z := h.1 15 k4) dX9_ends_84 rfl (shM_15 _) (by decide) e4 q4 rfl ?_
      refine Ok.iconst (pc' := 86) in_1 dX9_ends_85 rfl ?_
      obtain ⟨q9, K⟩ := K
      refine Ok.iadd (pc' := 87) dX9_ends_86 rfl q9 ?_
      refine Ok.iast (pc' := 88) dX9_ends_87 rfl (shM_15 _) (by decide) e4 q4 ?_
      exact Ok.vret dX9_ends_88 rfl (by decide) K
    · replace K := K.2 c5
      refine Ok.aload_n (pc' := 47) rfl dX9_ends_46 rfl ?_
      refine Ok.dup (pc' := 48) dX9_ends_47 rfl rfl ?_
      refine Ok.getI (pc' := 51) (z := h.2.1 0 22) (k := 22) dX9_ends_48 rfl (shM_0 _) rfl inX9 (by decide) rfl rfl wd_1003 rfl ?_
      refine Ok.iconst (pc' := 52) in_1 dX9_ends_51 rfl ?_
      obtain ⟨q6, K⟩ := K
      refine Ok.isub (pc' := 53) dX9_ends_52 rfl q6 ?_
      refine Ok.putI (pc' := 56) (k := 22) dX9_ends_53 rfl (shM_0 _) rfl inX9 tyX9 tyX9_ok nmX9 (by decide) rfl wd_1003 rfl rfl (Or.inl rfl) ?_
      refine Ok.aload_n (pc' := 57) rfl dX9_ends_56 rfl ?_
      refine Ok.iload_n (pc' := 58) rfl dX9_ends_57 rfl ?_
      refine Ok.callV (pc' := 61) (av := [pI v]) (rest := []) dX9_ends_58 rfl (by decide) cvX9_ends_201 (shM_0 _) rfl rfl rfl (leb rfl) (leb rfl) K (fun r_ h1 K => ?_)
      show Ok shM 0 0 mX9_ends 61 [some (pR 0), some (pI v), some (pI ((h.2.1 0 16 - 1) - 1))] [] h1 Post
      exact Ok.vret dX9_ends_61 rfl (by decide) K
  · replace K := K.2 c2
    refine Ok.aload_n (pc' := 18) rfl dX9_ends_17 rfl ?_
    refine Ok.iload_n (pc' := 19) rfl dX9_ends_18 rfl ?_
    refine Ok.putI (pc' := 22) (k := 26) dX9_ends_19 rfl (shM_0 _) rfl inX9 tyX9 tyX9_ok nmX9 (by decide) rfl wd_1007 rfl rfl (Or.inl rfl) ?_
    refine Ok.aload_n (pc' := 23) rfl dX9_ends_22 rfl ?_
    refine Ok.iconst (pc' := 24) in_1 dX9_ends_23 rfl ?_
    refine Ok.putI (pc' := 27) (k := 29) dX9_ends_24 rfl (shM_0 _) rfl inX9 tyX9 tyX9_ok nmX9 (by decide) rfl wd_1010 rfl rfl (Or.inr ⟨rfl, Or.inr rfl⟩) ?_
    exact Ok.vret dX9_ends_27 rfl (by decide) K
theorem sX9_ends2_0 {v : Int} {h : Hp} {Post : Int → Hp → Prop}
    (K : Ok shM 0 0 mX9_ends2 2 [some (pR 0), some (pI v), some (pI 1)] [] h Post) :
    Cl shM mX9_ends2 [pR 0, pI v] h Post := by
  show Ok shM 0 0 mX9_ends2 0 [some (pR 0), some (pI v), none] [] h Post
  refine Ok.iconst (pc' := 1) in_1 dX9_ends2_0 rfl ?_
  refine Ok.istore_n (pc' := 2) (ls' := [some (pR 0), some (pI v), some (pI 1)]) dX9_ends2_1 rfl (by decide) rfl rfl ?_
  exact K
theorem sX9_ends2_2 {v v2 : Int} {h : Hp} {Post : Int → Hp → Prop}
    (K : ((v2 = 0) → Post 0 h) ∧ ((¬ v2 = 0) → inR ((h.2.1 0 16 - 1)) ∧ (((¬ (h.2.1 0 16 - 1) = 0) → inR (((h.2.1 0 16 - 1) - 1)) ∧ (∃ k5 : Nat, ((h.2.1 0 16 - 1) - 1) = (k5 : Int) ∧ k5 < 600 ∧ (((¬ h.1 15 k5 = 9) → inR ((3 * ((h.2.1 0 16 - 1) - 1))) ∧ (inR (((3 * ((h.2.1 0 16 - 1) - 1)) + h.1 15 k5)) ∧ (∃ k9 : Nat, ((3 * ((h.2.1 0 16 - 1) - 1)) + h.1 15 k5) = (k9 : Int) ∧ k9 < 1800 ∧ (inR ((h.1 15 k5 + 1)) ∧ (Ok shM 0 0 mX9_ends2 2 [some (pR 0), some (pI v), some (pI 0)] [] (hA (hA (hI h 0 16 (h.2.1 0 16 - 1)) 16 k9 v) 15 k5 (h.1 15 k5 + 1)) Post))))) ∧ ((h.1 15 k5 = 9) → inR ((h.2.1 0 22 - 1)) ∧ (Ok shM 0 0 mX9_ends2 2 [some (pR 0), some (pI v), some (pI 1)] [] (hI (hI h 0 16 (h.2.1 0 16 - 1)) 0 22 (h.2.1 0 22 - 1)) Post))))) ∧ (((h.2.1 0 16 - 1) = 0) → Ok shM 0 0 mX9_ends2 2 [some (pR 0), some (pI v), some (pI 0)] [] (hI (hI (hI h 0 16 (h.2.1 0 16 - 1)) 0 26 v) 0 29 1) Post)))) :
    Ok shM 0 0 mX9_ends2 2 [some (pR 0), some (pI v), some (pI v2)] [] h Post := by
  show Ok shM 0 0 mX9_ends2 2 [some (pR 0), some (pI v), some (pI v2)] [] h Post
  refine Ok.iload_n (pc' := 3) rfl dX9_ends2_2 rfl ?_
  refine Ok.if_eq (tgt := 113) dX9_ends2_3 rfl rfl (fun c1 => ?_) (fun c1 => ?_)
  · replace K := K.1 c1
    exact Ok.vret dX9_ends2_113 rfl (by decide) K
  · replace K := K.2 c1
    refine Ok.aload_n (pc' := 7) rfl dX9_ends2_6 rfl ?_
    refine Ok.dup (pc' := 8) dX9_ends2_7 rfl rfl ?_
    refine Ok.getI (pc' := 11) (z := h.2.1 0 16) (k := 16) dX9_ends2_8 rfl (shM_0 _) rfl inX9 (by decide) rfl rfl wd_997 rfl ?_
    refine Ok.iconst (pc' := 12) in_1 dX9_ends2_11 rfl ?_
    obtain ⟨q2, K⟩ := K
    refine Ok.isub (pc' := 13) dX9_ends2_12 rfl q2 ?_
    refine Ok.putI (pc' := 16) (k := 16) dX9_ends2_13 rfl (shM_0 _) rfl inX9 tyX9 tyX9_ok nmX9 (by decide) rfl wd_997 rfl rfl (Or.inl rfl) ?_
    refine Ok.iconst (pc' := 17) in_0 dX9_ends2_16 rfl ?_
    refine Ok.istore_n (pc' := 18) (ls' := [some (pR 0), some (pI v), some (pI 0)]) dX9_ends2_17 rfl (by decide) rfl rfl ?_
    refine Ok.aload_n (pc' := 19) rfl dX9_ends2_18 rfl ?_
    refine Ok.getI (pc' := 22) (z := (h.2.1 0 16 - 1)) (k := 16) dX9_ends2_19 rfl (shM_0 _) rfl inX9 (by decide) rfl rfl wd_997 rfl ?_
    refine Ok.if_ne (tgt := 38) dX9_ends2_22 rfl rfl (fun c3 => ?_) (fun c3 => ?_)
    · replace K := K.1 c3
      refine Ok.aload_n (pc' := 39) rfl dX9_ends2_38 rfl ?_
      refine Ok.getR (pc' := 42) (k := 18) dX9_ends2_39 rfl (shM_0 _) rfl inX9 (by decide) rfl wd_999 rfl ?_
      refine Ok.aload_n (pc' := 43) rfl dX9_ends2_42 rfl ?_
      refine Ok.getI (pc' := 46) (z := (h.2.1 0 16 - 1)) (k := 16) dX9_ends2_43 rfl (shM_0 _) rfl inX9 (by decide) rfl rfl wd_997 rfl ?_
      refine Ok.iconst (pc' := 47) in_1 dX9_ends2_46 rfl ?_
      obtain ⟨q4, K⟩ := K
      refine Ok.isub (pc' := 48) dX9_ends2_47 rfl q4 ?_
      obtain ⟨k5, e5, q5, K⟩ := K
      refine Ok.iald (pc' := 49) (z := h.1 15 k5) dX9_ends2_48 rfl (shM_15 _) (by decide) e5 q5 rfl ?_
      refine Ok.bipush (pc' := 51) ⟨by decide, by decide⟩ dX9_ends2_49 rfl ?_
      refine Ok.icmp_ne (tgt := 69) dX9_ends2_51 rfl rfl (fun c6 => ?_) (fun c6 => ?_)
      · replace K := K.1 c6
        refine Ok.aload_n (pc' := 70) rfl dX9_ends2_69 rfl ?_
        refine Ok.getR (pc' := 73) (k := 19) dX9_ends2_70 rfl (shM_0 _) rfl inX9 (by decide) rfl wd_1000 rfl ?_
        refine Ok.iconst (pc' := 74) in_3 dX9_ends2_73 rfl ?_
        refine Ok.aload_n (pc' := 75) rfl dX9_ends2_74 rfl ?_
        refine Ok.getI (pc' := 78) (z := (h.2.1 0 16 - 1)) (k := 16) dX9_ends2_75 rfl (shM_0 _) rfl inX9 (by decide) rfl rfl wd_997 rfl ?_
        refine Ok.iconst (pc' := 79) in_1 dX9_ends2_78 rfl ?_
        refine Ok.isub (pc' := 80) dX9_ends2_79 rfl q4 ?_
        obtain ⟨q7, K⟩ := K
        refine Ok.imul (pc' := 81) dX9_ends2_80 rfl q7 ?_
        refine Ok.aload_n (pc' := 82) rfl dX9_ends2_81 rfl ?_
        refine Ok.getR (pc' := 85) (k := 18) dX9_ends2_82 rfl (shM_0 _) rfl inX9 (by decide) rfl wd_999 rfl ?_
        refine Ok.aload_n (pc' := 86) rfl dX9_ends2_85 rfl ?_
        refine Ok.getI (pc' := 89) (z := (h.2.1 0 16 - 1)) (k := 16) dX9_ends2_86 rfl (shM_0 _) rfl inX9 (by decide) rfl rfl wd_997 rfl ?_
        refine Ok.iconst (pc' := 90) in_1 dX9_ends2_89 rfl ?_
        refine Ok.isub (pc' := 91) dX9_ends2_90 rfl q4 ?_
        refine Ok.iald (pc' := 92) (z := h.1 15 k5) dX9_ends2_91 rfl (shM_15 _) (by decide) e5 q5 rfl ?_
        obtain ⟨q8, K⟩ := K
        refine Ok.iadd (pc' := 93) dX9_ends2_92 rfl q8 ?_
        refine Ok.iload_n (pc' := 94) rfl dX9_ends2_93 rfl ?_
        obtain ⟨k9, e9, q9, K⟩ := K
        refine Ok.iast (pc' := 95) dX9_ends2_94 rfl (shM_16 _) (by decide) e9 q9 ?_
        refine Ok.aload_n (pc' := 96) rfl dX9_ends2_95 rfl ?_
        refine Ok.getR (pc' := 99) (k := 18) dX9_ends2_96 rfl (shM_0 _) rfl inX9 (by decide) rfl wd_999 rfl ?_
        refine Ok.aload_n (pc' := 100) rfl dX9_ends2_99 rfl ?_
        refine Ok.getI (pc' := 103) (z := (h.2.1 0 16 - 1)) (k := 16) dX9_ends2_100 rfl (shM_0 _) rfl inX9 (by decide) rfl rfl wd_997 rfl ?_
        refine Ok.iconst (pc' := 104) in_1 dX9_ends2_103 rfl ?_
        refine Ok.isub (pc' := 105) dX9_ends2_104 rfl q4 ?_
        refine Ok.dup2 (pc' := 106) dX9_ends2_105 rfl rfl rfl ?_
        refine Ok.iald (pc' := 107) (z := h.1 15 k5) dX9_ends2_106 rfl (shM_15 _) (by decide) e5 q5 rfl ?_
        refine Ok.iconst (pc' := 108) in_1 dX9_ends2_107 rfl ?_
        obtain ⟨q10, K⟩ := K
        refine Ok.iadd (pc' := 109) dX9_ends2_108 rfl q10 ?_
        refine Ok.iast (pc' := 110) dX9_ends2_109 rfl (shM_15 _) (by decide) e5 q5 ?_
        refine Ok.goto (tgt := 2) dX9_ends2_110 rfl ?_
        exact K
      · replace K := K.2 c6
        refine Ok.aload_n (pc' := 55) rfl dX9_ends2_54 rfl ?_
        refine Ok.dup (pc' := 56) dX9_ends2_55 rfl rfl ?_
        refine Ok.getI (pc' := 59) (z := h.2.1 0 22) (k := 22) dX9_ends2_56 rfl (shM_0 _) rfl inX9 (by decide) rfl rfl wd_1003 rfl ?_
        refine Ok.iconst (pc' := 60) in_1 dX9_ends2_59 rfl ?_
        obtain ⟨q7, K⟩ := K
        refine Ok.isub (pc' := 61) dX9_ends2_60 rfl q7 ?_
        refine Ok.putI (pc' := 64) (k := 22) dX9_ends2_61 rfl (shM_0 _) rfl inX9 tyX9 tyX9_ok nmX9 (by decide) rfl wd_1003 rfl rfl (Or.inl rfl) ?_
        refine Ok.iconst (pc' := 65) in_1 dX9_ends2_64 rfl ?_
        refine Ok.istore_n (pc' := 66) (ls' := [some (pR 0), some (pI v), some (pI 1)]) dX9_ends2_65 rfl (by decide) rfl rfl ?_
        refine Ok.goto (tgt := 2) dX9_ends2_66 rfl ?_
        exact K
    · replace K := K.2 c3
      refine Ok.aload_n (pc' := 26) rfl dX9_ends2_25 rfl ?_
      refine Ok.iload_n (pc' := 27) rfl dX9_ends2_26 rfl ?_
      refine Ok.putI (pc' := 30) (k := 26) dX9_ends2_27 rfl (shM_0 _) rfl inX9 tyX9 tyX9_ok nmX9 (by decide) rfl wd_1007 rfl rfl (Or.inl rfl) ?_
      refine Ok.aload_n (pc' := 31) rfl dX9_ends2_30 rfl ?_
      refine Ok.iconst (pc' := 32) in_1 dX9_ends2_31 rfl ?_
      refine Ok.putI (pc' := 35) (k := 29) dX9_ends2_32 rfl (shM_0 _) rfl inX9 tyX9 tyX9_ok nmX9 (by decide) rfl wd_1010 rfl rfl (Or.inr ⟨rfl, Or.inr rfl⟩) ?_
      refine Ok.goto (tgt := 2) dX9_ends2_35 rfl ?_
      exact K
theorem sX9_leaves_0 {v : Int} {h : Hp} {Post : Int → Hp → Prop}
    (K : inR ((h.2.1 0 16 - 2)) ∧ (Ok shM 0 0 mX9_leaves 7 [some (pR 0), some (pI v), some (pI (h.2.1 0 16 - 2))] [] h Post)) :
    Cl shM mX9_leaves [pR 0, pI v] h Post := by
  show Ok shM 0 0 mX9_leaves 0 [some (pR 0), some (pI v), none] [] h Post
  refine Ok.aload_n (pc' := 1) rfl dX9_leaves_0 rfl ?_
  refine Ok.getI (pc' := 4) (z := h.2.1 0 16) (k := 16) dX9_leaves_1 rfl (shM_0 _) rfl inX9 (by decide) rfl rfl wd_997 rfl ?_
  refine Ok.iconst (pc' := 5) in_2 dX9_leaves_4 rfl ?_
  obtain ⟨q1, K⟩ := K
  refine Ok.isub (pc' := 6) dX9_leaves_5 rfl q1 ?_
  refine Ok.istore_n (pc' := 7) (ls' := [some (pR 0), some (pI v), some (pI (h.2.1 0 16 - 2))]) dX9_leaves_6 rfl (by decide) rfl rfl ?_
  exact K
theorem sX9_leaves_7 {v v2 : Int} {h : Hp} {Post : Int → Hp → Prop}
    (K : ((v2 < 0) → inR ((v2 + 2)) ∧ (Cl shM mX9_ends [pR 0, pI v] (hI h 0 16 (v2 + 2)) (fun _ h1 => Post 0 h1))) ∧ ((¬ v2 < 0) → ∃ k2 : Nat, v2 = (k2 : Int) ∧ k2 < 600 ∧ (((¬ h.1 17 k2 = h.2.1 0 22) → inR ((v2 + 2)) ∧ (Cl shM mX9_ends [pR 0, pI v] (hI h 0 16 (v2 + 2)) (fun _ h2 => Post 0 h2))) ∧ ((h.1 17 k2 = h.2.1 0 22) → ∃ k4 : Nat, h.1 14 k2 = (k4 : Int) ∧ k4 < 600 ∧ (((h.1 1 k4 = 11) → inR ((v2 + 1)) ∧ (Cl shM mX9_ends [pR 0, pI v] (hI h 0 16 (v2 + 1)) (fun _ h3 => Post 0 h3))) ∧ ((¬ h.1 1 k4 = 11) → inR ((v2 + (-1))) ∧ (Ok shM 0 0 mX9_leaves 7 [some (pR 0), some (pI v), some (pI (v2 + (-1)))] [] h Post))))))) :
    Ok shM 0 0 mX9_leaves 7 [some (pR 0), some (pI v), some (pI v2)] [] h Post := by
  show Ok shM 0 0 mX9_leaves 7 [some (pR 0), some (pI v), some (pI v2)] [] h Post
  refine Ok.iload_n (pc' := 8) rfl dX9_leaves_7 rfl ?_
  refine Ok.if_lt (tgt := 46) dX9_leaves_8 rfl rfl (fun c1 => ?_) (fun c1 => ?_)
  · replace K := K.1 c1
    refine Ok.iload_n (pc' := 47) rfl dX9_leaves_46 rfl ?_
    refine Ok.if_lt (tgt := 76) dX9_leaves_47 rfl rfl (fun _ => ?_) (fun z => absurd c1 z)
    refine Ok.aload_n (pc' := 77) rfl dX9_leaves_76 rfl ?_
    refine Ok.iload_n (pc' := 78) rfl dX9_leaves_77 rfl ?_
    refine Ok.iconst (pc' := 79) in_2 dX9_leaves_78 rfl ?_
    obtain ⟨q2, K⟩ := K
    refine Ok.iadd (pc' := 80) dX9_leaves_79 rfl q2 ?_
    refine Ok.putI (pc' := 83) (k := 16) dX9_leaves_80 rfl (shM_0 _) rfl inX9 tyX9 tyX9_ok nmX9 (by decide) rfl wd_997 rfl rfl (Or.inl rfl) ?_
    refine Ok.aload_n (pc' := 84) rfl dX9_leaves_83 rfl ?_
    refine Ok.iload_n (pc' := 85) rfl dX9_leaves_84 rfl ?_
    refine Ok.callV (pc' := 88) (av := [pI v]) (rest := []) dX9_leaves_85 rfl (by decide) cvX9_leaves_205 (shM_0 _) rfl rfl rfl (leb rfl) (leb rfl) K (fun r_ h1 K => ?_)
    show Ok shM 0 0 mX9_leaves 88 [some (pR 0), some (pI v), some (pI v2)] [] h1 Post
    exact Ok.vret dX9_leaves_88 rfl (by decide) K
  · replace K := K.2 c1
    refine Ok.aload_n (pc' := 12) rfl dX9_leaves_11 rfl ?_
    refine Ok.getR (pc' := 15) (k := 20) dX9_leaves_12 rfl (shM_0 _) rfl inX9 (by decide) rfl wd_1001 rfl ?_
    refine Ok.iload_n (pc' := 16) rfl dX9_leaves_15 rfl ?_
    obtain ⟨k2, e2, q2, K⟩ := K
    refine Ok.iald (pc' := 17) (z := h.1 17 k2) dX9_leaves_16 rfl (shM_17 _) (by decide) e2 q2 rfl ?_
    refine Ok.aload_n (pc' := 18) rfl dX9_leaves_17 rfl ?_
    refine Ok.getI (pc' := 21) (z := h.2.1 0 22) (k := 22) dX9_leaves_18 rfl (shM_0 _) rfl inX9 (by decide) rfl rfl wd_1003 rfl ?_
    refine Ok.icmp_ne (tgt := 46) dX9_leaves_21 rfl rfl (fun c3 => ?_) (fun c3 => ?_)
    · replace K := K.1 c3
      refine Ok.iload_n (pc' := 47) rfl dX9_leaves_46 rfl ?_
      refine Ok.if_lt (tgt := 76) dX9_leaves_47 rfl rfl (fun z => absurd z c1) (fun _ => ?_)
      refine Ok.aload_n (pc' := 51) rfl dX9_leaves_50 rfl ?_
      refine Ok.getR (pc' := 54) (k := 20) dX9_leaves_51 rfl (shM_0 _) rfl inX9 (by decide) rfl wd_1001 rfl ?_
      refine Ok.iload_n (pc' := 55) rfl dX9_leaves_54 rfl ?_
      refine Ok.iald (pc' := 56) (z := h.1 17 k2) dX9_leaves_55 rfl (shM_17 _) (by decide) e2 q2 rfl ?_
      refine Ok.aload_n (pc' := 57) rfl dX9_leaves_56 rfl ?_
      refine Ok.getI (pc' := 60) (z := h.2.1 0 22) (k := 22) dX9_leaves_57 rfl (shM_0 _) rfl inX9 (by decide) rfl rfl wd_1003 rfl ?_
      refine Ok.icmp_ne (tgt := 76) dX9_leaves_60 rfl rfl (fun _ => ?_) (fun z => absurd z c3)
      refine Ok.aload_n (pc' := 77) rfl dX9_leaves_76 rfl ?_
      refine Ok.iload_n (pc' := 78) rfl dX9_leaves_77 rfl ?_
      refine Ok.iconst (pc' := 79) in_2 dX9_leaves_78 rfl ?_
      obtain ⟨q4, K⟩ := K
      refine Ok.iadd (pc' := 80) dX9_leaves_79 rfl q4 ?_
      refine Ok.putI (pc' := 83) (k := 16) dX9_leaves_80 rfl (shM_0 _) rfl inX9 tyX9 tyX9_ok nmX9 (by decide) rfl wd_997 rfl rfl (Or.inl rfl) ?_
      refine Ok.aload_n (pc' := 84) rfl dX9_leaves_83 rfl ?_
      refine Ok.iload_n (pc' := 85) rfl dX9_leaves_84 rfl ?_
      refine Ok.callV (pc' := 88) (av := [pI v]) (rest := []) dX9_leaves_85 rfl (by decide) cvX9_leaves_205 (shM_0 _) rfl rfl rfl (leb rfl) (leb rfl) K (fun r_ h2 K => ?_)
      show Ok shM 0 0 mX9_leaves 88 [some (pR 0), some (pI v), some (pI v2)] [] h2 Post
      exact Ok.vret dX9_leaves_88 rfl (by decide) K
    · replace K := K.2 c3
      refine Ok.aload_n (pc' := 25) rfl dX9_leaves_24 rfl ?_
      refine Ok.getR (pc' := 28) (k := 1) dX9_leaves_25 rfl (shM_0 _) rfl inX9 (by decide) rfl wd_982 rfl ?_
      refine Ok.aload_n (pc' := 29) rfl dX9_leaves_28 rfl ?_
      refine Ok.getR (pc' := 32) (k := 17) dX9_leaves_29 rfl (shM_0 _) rfl inX9 (by decide) rfl wd_998 rfl ?_
      refine Ok.iload_n (pc' := 33) rfl dX9_leaves_32 rfl ?_
      refine Ok.iald (pc' := 34) (z := h.1 14 k2) dX9_leaves_33 rfl (shM_14 _) (by decide) e2 q2 rfl ?_
      obtain ⟨k4, e4, q4, K⟩ := K
      refine Ok.iald (pc' := 35) (z := h.1 1 k4) dX9_leaves_34 rfl (shM_1 _) (by decide) e4 q4 rfl ?_
      refine Ok.bipush (pc' := 37) ⟨by decide, by decide⟩ dX9_leaves_35 rfl ?_
      refine Ok.icmp_eq (tgt := 46) dX9_leaves_37 rfl rfl (fun c5 => ?_) (fun c5 => ?_)
      · replace K := K.1 c5
        refine Ok.iload_n (pc' := 47) rfl dX9_leaves_46 rfl ?_
        refine Ok.if_lt (tgt := 76) dX9_leaves_47 rfl rfl (fun z => absurd z c1) (fun _ => ?_)
        refine Ok.aload_n (pc' := 51) rfl dX9_leaves_50 rfl ?_
        refine Ok.getR (pc' := 54) (k := 20) dX9_leaves_51 rfl (shM_0 _) rfl inX9 (by decide) rfl wd_1001 rfl ?_
        refine Ok.iload_n (pc' := 55) rfl dX9_leaves_54 rfl ?_
        refine Ok.iald (pc' := 56) (z := h.1 17 k2) dX9_leaves_55 rfl (shM_17 _) (by decide) e2 q2 rfl ?_
        refine Ok.aload_n (pc' := 57) rfl dX9_leaves_56 rfl ?_
        refine Ok.getI (pc' := 60) (z := h.2.1 0 22) (k := 22) dX9_leaves_57 rfl (shM_0 _) rfl inX9 (by decide) rfl rfl wd_1003 rfl ?_
        refine Ok.icmp_ne (tgt := 76) dX9_leaves_60 rfl rfl (fun z => absurd c3 z) (fun _ => ?_)
        refine Ok.aload_n (pc' := 64) rfl dX9_leaves_63 rfl ?_
        refine Ok.iload_n (pc' := 65) rfl dX9_leaves_64 rfl ?_
        refine Ok.iconst (pc' := 66) in_1 dX9_leaves_65 rfl ?_
        obtain ⟨q6, K⟩ := K
        refine Ok.iadd (pc' := 67) dX9_leaves_66 rfl q6 ?_
        refine Ok.putI (pc' := 70) (k := 16) dX9_leaves_67 rfl (shM_0 _) rfl inX9 tyX9 tyX9_ok nmX9 (by decide) rfl wd_997 rfl rfl (Or.inl rfl) ?_
        refine Ok.aload_n (pc' := 71) rfl dX9_leaves_70 rfl ?_
        refine Ok.iload_n (pc' := 72) rfl dX9_leaves_71 rfl ?_
        refine Ok.callV (pc' := 75) (av := [pI v]) (rest := []) dX9_leaves_72 rfl (by decide) cvX9_leaves_205 (shM_0 _) rfl rfl rfl (leb rfl) (leb rfl) K (fun r_ h3 K => ?_)
        show Ok shM 0 0 mX9_leaves 75 [some (pR 0), some (pI v), some (pI v2)] [] h3 Post
        exact Ok.vret dX9_leaves_75 rfl (by decide) K
      · replace K := K.2 c5
        obtain ⟨q6, K⟩ := K
        refine Ok.iinc (pc' := 43) (ls' := [some (pR 0), some (pI v), some (pI (v2 + (-1)))]) dX9_leaves_40 rfl rfl (by decide) rfl rfl q6 ?_
        refine Ok.goto (tgt := 7) dX9_leaves_43 rfl ?_
        exact K
theorem sX9_worked_0 {op x y : Int} {h : Hp} {Post : Int → Hp → Prop}
    (K : ((op = 0) → Post (wr (x + y)) h) ∧ ((op = 1) → Post (wr (x - y)) h) ∧ ((op = 2) → Post (wr (x * y)) h) ∧ ((op = 3) → y ≠ 0 ∧ (Post (b_idiv x y) h)) ∧ ((op = 4) → ((y ≤ x) → Post 0 h) ∧ ((¬ y ≤ x) → Post 1 h)) ∧ ((op < 0 ∨ 4 < op) → ((¬ x = y) → Post 0 h) ∧ ((x = y) → Post 1 h))) :
    Cl shM mX9_worked [pI op, pI x, pI y] h Post := by
  show Ok shM 0 0 mX9_worked 0 [some (pI op), some (pI x), some (pI y)] [] h Post
  refine Ok.iload_n (pc' := 1) rfl dX9_worked_0 rfl ?_
  obtain ⟨Kc1_0, Kc1_1, Kc1_2, Kc1_3, Kc1_4, Kc1_5⟩ := K
  refine Ok.tsw dX9_worked_1 rfl ⟨by decide, by decide⟩ (fun tgt ht => ?_)
  have hx : (op = 0) ∨ (op = 1) ∨ (op = 2) ∨ (op = 3) ∨ (op = 4) ∨ (op < 0 ∨ 4 < op) := by omega
  rcases hx with c1 | c1 | c1 | c1 | c1 | c1
  · obtain rfl : 36 = tgt := by rw [c1] at ht; exact Int.ofNat.inj ht
    have K := Kc1_0 c1
    refine Ok.iload_n (pc' := 37) rfl dX9_worked_36 rfl ?_
    refine Ok.iload_n (pc' := 38) rfl dX9_worked_37 rfl ?_
    refine Ok.iaddw (pc' := 39) dX9_worked_38 rfl ?_
    exact Ok.iret dX9_worked_39 rfl (by decide) K
  · obtain rfl : 40 = tgt := by rw [c1] at ht; exact Int.ofNat.inj ht
    have K := Kc1_1 c1
    refine Ok.iload_n (pc' := 41) rfl dX9_worked_40 rfl ?_
    refine Ok.iload_n (pc' := 42) rfl dX9_worked_41 rfl ?_
    refine Ok.isubw (pc' := 43) dX9_worked_42 rfl ?_
    exact Ok.iret dX9_worked_43 rfl (by decide) K
  · obtain rfl : 44 = tgt := by rw [c1] at ht; exact Int.ofNat.inj ht
    have K := Kc1_2 c1
    refine Ok.iload_n (pc' := 45) rfl dX9_worked_44 rfl ?_
    refine Ok.iload_n (pc' := 46) rfl dX9_worked_45 rfl ?_
    refine Ok.imulw (pc' := 47) dX9_worked_46 rfl ?_
    exact Ok.iret dX9_worked_47 rfl (by decide) K
  · obtain rfl : 48 = tgt := by rw [c1] at ht; exact Int.ofNat.inj ht
    have K := Kc1_3 c1
    refine Ok.iload_n (pc' := 49) rfl dX9_worked_48 rfl ?_
    refine Ok.iload_n (pc' := 50) rfl dX9_worked_49 rfl ?_
    obtain ⟨q2, K⟩ := K
    refine Ok.idiv (pc' := 51) dX9_worked_50 rfl q2 ?_
    exact Ok.iret dX9_worked_51 rfl (by decide) K
  · obtain rfl : 52 = tgt := by rw [c1] at ht; exact Int.ofNat.inj ht
    have K := Kc1_4 c1
    refine Ok.iload_n (pc' := 53) rfl dX9_worked_52 rfl ?_
    refine Ok.iload_n (pc' := 54) rfl dX9_worked_53 rfl ?_
    refine Ok.icmp_ge (tgt := 61) dX9_worked_54 rfl rfl (fun c2 => ?_) (fun c2 => ?_)
    · replace K := K.1 c2
      refine Ok.iconst (pc' := 62) in_0 dX9_worked_61 rfl ?_
      exact Ok.iret dX9_worked_62 rfl (by decide) K
    · replace K := K.2 c2
      refine Ok.iconst (pc' := 58) in_1 dX9_worked_57 rfl ?_
      refine Ok.goto (tgt := 62) dX9_worked_58 rfl ?_
      exact Ok.iret dX9_worked_62 rfl (by decide) K
  · obtain rfl : 63 = tgt := by
      rcases c1 with q | q
      · rw [swT_out (Or.inl q)] at ht; exact Int.ofNat.inj ht
      · rw [swT_out (Or.inr q)] at ht; exact Int.ofNat.inj ht
    have K := Kc1_5 c1
    refine Ok.iload_n (pc' := 64) rfl dX9_worked_63 rfl ?_
    refine Ok.iload_n (pc' := 65) rfl dX9_worked_64 rfl ?_
    refine Ok.icmp_ne (tgt := 72) dX9_worked_65 rfl rfl (fun c2 => ?_) (fun c2 => ?_)
    · replace K := K.1 c2
      refine Ok.iconst (pc' := 73) in_0 dX9_worked_72 rfl ?_
      exact Ok.iret dX9_worked_73 rfl (by decide) K
    · replace K := K.2 c2
      refine Ok.iconst (pc' := 69) in_1 dX9_worked_68 rfl ?_
      refine Ok.goto (tgt := 73) dX9_worked_69 rfl ?_
      exact Ok.iret dX9_worked_73 rfl (by decide) K
theorem sX9_enters_0 {f s0 : Int} {h : Hp} {Post : Int → Hp → Prop}
    (K : ∃ k1 : Nat, s0 = (k1 : Int) ∧ k1 < 600 ∧ (∃ k2 : Nat, h.1 2 k1 = (k2 : Int) ∧ k2 < 10 ∧ (((¬ h.1 7 k2 = (-4)) → Cl shM mX9_uses [pR 0, pI (h.1 2 k1)] h (fun r1 h1 => inR ((4 + r1)) ∧ (Cl shM mX9_pays [pR 0, pI (4 + r1), pI s0] h1 (fun r2 h2 => ((¬ r2 = 0) → ((¬ h2.2.1 0 22 = 12) → inR ((h2.2.1 0 22 + 1)) ∧ ((((h2.2.1 0 22 + 1) ≤ h2.2.1 0 27) → Ok shM 0 0 mX9_enters 110 [some (pR 0), some (pI f), none, some (pI (h.1 2 k1)), none, some (pI 0)] [] (hI (hI (hA h2 5 k1 (wr (h2.1 5 k1 + 1))) 0 22 (h2.2.1 0 22 + 1)) 0 27 (h2.2.1 0 27)) Post) ∧ ((¬ (h2.2.1 0 22 + 1) ≤ h2.2.1 0 27) → Ok shM 0 0 mX9_enters 110 [some (pR 0), some (pI f), none, some (pI (h.1 2 k1)), none, some (pI 0)] [] (hI (hI (hA h2 5 k1 (wr (h2.1 5 k1 + 1))) 0 22 (h2.2.1 0 22 + 1)) 0 27 (h2.2.1 0 22 + 1)) Post))) ∧ ((h2.2.1 0 22 = 12) → Cl shM mX9_refuses [pR 0, pI 5, pI s0] (hA h2 5 k1 (wr (h2.1 5 k1 + 1))) (fun _ h3 => Post 0 h3))) ∧ ((r2 = 0) → Post 0 h2))))) ∧ ((h.1 7 k2 = (-4)) → Cl shM mX9_refuses [pR 0, pI 3, pI s0] h (fun _ h4 => Post 0 h4))))) :
    Cl shM mX9_enters [pR 0, pI f, pI s0] h Post := by
  show Ok shM 0 0 mX9_enters 0 [some (pR 0), some (pI f), some (pI s0), none, none, none] [] h Post
  refine Ok.aload_n (pc' := 1) rfl dX9_enters_0 rfl ?_
  refine Ok.getR (pc' := 4) (k := 2) dX9_enters_1 rfl (shM_0 _) rfl inX9 (by decide) rfl wd_983 rfl ?_
  refine Ok.iload_n (pc' := 5) rfl dX9_enters_4 rfl ?_
  obtain ⟨k1, e1, q1, K⟩ := K
  refine Ok.iald (pc' := 6) (z := h.1 2 k1) dX9_enters_5 rfl (shM_2 _) (by decide) e1 q1 rfl ?_
  refine Ok.istore_n (pc' := 7) (ls' := [some (pR 0), some (pI f), some (pI s0), some (pI (h.1 2 k1)), none, none]) dX9_enters_6 rfl (by decide) rfl rfl ?_
  refine Ok.aload_n (pc' := 8) rfl dX9_enters_7 rfl ?_
  refine Ok.getR (pc' := 11) (k := 8) dX9_enters_8 rfl (shM_0 _) rfl inX9 (by decide) rfl wd_989 rfl ?_
  refine Ok.iload_n (pc' := 12) rfl dX9_enters_11 rfl ?_
  obtain ⟨k2, e2, q2, K⟩ := K
  refine Ok.iald (pc' := 13) (z := h.1 7 k2) dX9_enters_12 rfl (shM_7 _) (by decide) e2 q2 rfl ?_
  refine Ok.bipush (pc' := 15) ⟨by decide, by decide⟩ dX9_enters_13 rfl ?_
  refine Ok.icmp_ne (tgt := 25) dX9_enters_15 rfl rfl (fun c3 => ?_) (fun c3 => ?_)
  · replace K := K.1 c3
    refine Ok.aload_n (pc' := 26) rfl dX9_enters_25 rfl ?_
    refine Ok.iload_n (pc' := 27) rfl dX9_enters_26 rfl ?_
    refine Ok.callV (pc' := 30) (av := [pI (h.1 2 k1)]) (rest := []) dX9_enters_27 rfl (by decide) cvX9_enters_153 (shM_0 _) rfl rfl rfl (leb rfl) (leb rfl) K (fun r1 h1 K => ?_)
    show Ok shM 0 0 mX9_enters 30 [some (pR 0), some (pI f), some (pI s0), some (pI (h.1 2 k1)), none, none] [pI r1] h1 Post
    refine Ok.istore (pc' := 32) (ls' := [some (pR 0), some (pI f), some (pI s0), some (pI (h.1 2 k1)), some (pI r1), none]) dX9_enters_30 rfl (by decide) rfl rfl ?_
    refine Ok.aload_n (pc' := 33) rfl dX9_enters_32 rfl ?_
    refine Ok.iconst (pc' := 34) in_4 dX9_enters_33 rfl ?_
    refine Ok.iload (pc' := 36) rfl dX9_enters_34 rfl ?_
    obtain ⟨q4, K⟩ := K
    refine Ok.iadd (pc' := 37) dX9_enters_36 rfl q4 ?_
    refine Ok.iload_n (pc' := 38) rfl dX9_enters_37 rfl ?_
    refine Ok.callV (pc' := 41) (av := [pI (4 + r1), pI s0]) (rest := []) dX9_enters_38 rfl (by decide) cvX9_enters_191 (shM_0 _) rfl rfl rfl (leb rfl) (leb rfl) K (fun r2 h2 K => ?_)
    show Ok shM 0 0 mX9_enters 41 [some (pR 0), some (pI f), some (pI s0), some (pI (h.1 2 k1)), some (pI r1), none] [pI r2] h2 Post
    refine Ok.if_ne (tgt := 45) dX9_enters_41 rfl rfl (fun c5 => ?_) (fun c5 => ?_)
    · replace K := K.1 c5
      refine Ok.aload_n (pc' := 46) rfl dX9_enters_45 rfl ?_
      refine Ok.getR (pc' := 49) (k := 5) dX9_enters_46 rfl (shM_0 _) rfl inX9 (by decide) rfl wd_986 rfl ?_
      refine Ok.iload_n (pc' := 50) rfl dX9_enters_49 rfl ?_
      refine Ok.dup2 (pc' := 51) dX9_enters_50 rfl rfl rfl ?_
      refine Ok.iald (pc' := 52) (z := h2.1 5 k1) dX9_enters_51 rfl (shM_5 _) (by decide) e1 q1 rfl ?_
      refine Ok.iconst (pc' := 53) in_1 dX9_enters_52 rfl ?_
      refine Ok.iaddw (pc' := 54) dX9_enters_53 rfl ?_
      refine Ok.iast (pc' := 55) dX9_enters_54 rfl (shM_5 _) (by decide) e1 q1 ?_
      refine Ok.aload_n (pc' := 56) rfl dX9_enters_55 rfl ?_
      refine Ok.getI (pc' := 59) (z := h2.2.1 0 22) (k := 22) dX9_enters_56 rfl (shM_0 _) rfl inX9 (by decide) rfl rfl wd_1003 rfl ?_
      refine Ok.bipush (pc' := 61) ⟨by decide, by decide⟩ dX9_enters_59 rfl ?_
      refine Ok.icmp_ne (tgt := 71) dX9_enters_61 rfl rfl (fun c6 => ?_) (fun c6 => ?_)
      · replace K := K.1 c6
        refine Ok.aload_n (pc' := 72) rfl dX9_enters_71 rfl ?_
        refine Ok.dup (pc' := 73) dX9_enters_72 rfl rfl ?_
        refine Ok.getI (pc' := 76) (z := h2.2.1 0 22) (k := 22) dX9_enters_73 rfl (shM_0 _) rfl inX9 (by decide) rfl rfl wd_1003 rfl ?_
        refine Ok.iconst (pc' := 77) in_1 dX9_enters_76 rfl ?_
        obtain ⟨q7, K⟩ := K
        refine Ok.iadd (pc' := 78) dX9_enters_77 rfl q7 ?_
        refine Ok.putI (pc' := 81) (k := 22) dX9_enters_78 rfl (shM_0 _) rfl inX9 tyX9 tyX9_ok nmX9 (by decide) rfl wd_1003 rfl rfl (Or.inl rfl) ?_
        refine Ok.aload_n (pc' := 82) rfl dX9_enters_81 rfl ?_
        refine Ok.aload_n (pc' := 83) rfl dX9_enters_82 rfl ?_
        refine Ok.getI (pc' := 86) (z := (h2.2.1 0 22 + 1)) (k := 22) dX9_enters_83 rfl (shM_0 _) rfl inX9 (by decide) rfl rfl wd_1003 rfl ?_
        refine Ok.aload_n (pc' := 87) rfl dX9_enters_86 rfl ?_
        refine Ok.getI (pc' := 90) (z := h2.2.1 0 27) (k := 27) dX9_enters_87 rfl (shM_0 _) rfl inX9 (by decide) rfl rfl wd_1008 rfl ?_
        refine Ok.icmp_le (tgt := 100) dX9_enters_90 rfl rfl (fun c8 => ?_) (fun c8 => ?_)
        · replace K := K.1 c8
          refine Ok.aload_n (pc' := 101) rfl dX9_enters_100 rfl ?_
          refine Ok.getI (pc' := 104) (z := h2.2.1 0 27) (k := 27) dX9_enters_101 rfl (shM_0 _) rfl inX9 (by decide) rfl rfl wd_1008 rfl ?_
          refine Ok.putI (pc' := 107) (k := 27) dX9_enters_104 rfl (shM_0 _) rfl inX9 tyX9 tyX9_ok nmX9 (by decide) rfl wd_1008 rfl rfl (Or.inl rfl) ?_
          refine Ok.iconst (pc' := 108) in_0 dX9_enters_107 rfl ?_
          refine Ok.istore (pc' := 110) (ls' := [some (pR 0), some (pI f), some (pI s0), some (pI (h.1 2 k1)), some (pI r1), some (pI 0)]) dX9_enters_108 rfl (by decide) rfl rfl ?_
          exact Ok.fl (ls' := [some (pR 0), some (pI f), none, some (pI (h.1 2 k1)), none, some (pI 0)]) K ⟨rfl, rfl, rfl, rfl, trivial⟩
        · replace K := K.2 c8
          refine Ok.aload_n (pc' := 94) rfl dX9_enters_93 rfl ?_
          refine Ok.getI (pc' := 97) (z := (h2.2.1 0 22 + 1)) (k := 22) dX9_enters_94 rfl (shM_0 _) rfl inX9 (by decide) rfl rfl wd_1003 rfl ?_
          refine Ok.goto (tgt := 104) dX9_enters_97 rfl ?_
          refine Ok.putI (pc' := 107) (k := 27) dX9_enters_104 rfl (shM_0 _) rfl inX9 tyX9 tyX9_ok nmX9 (by decide) rfl wd_1008 rfl rfl (Or.inl rfl) ?_
          refine Ok.iconst (pc' := 108) in_0 dX9_enters_107 rfl ?_
          refine Ok.istore (pc' := 110) (ls' := [some (pR 0), some (pI f), some (pI s0), some (pI (h.1 2 k1)), some (pI r1), some (pI 0)]) dX9_enters_108 rfl (by decide) rfl rfl ?_
          exact Ok.fl (ls' := [some (pR 0), some (pI f), none, some (pI (h.1 2 k1)), none, some (pI 0)]) K ⟨rfl, rfl, rfl, rfl, trivial⟩
      · replace K := K.2 c6
        refine Ok.aload_n (pc' := 65) rfl dX9_enters_64 rfl ?_
        refine Ok.iconst (pc' := 66) in_5 dX9_enters_65 rfl ?_
        refine Ok.iload_n (pc' := 67) rfl dX9_enters_66 rfl ?_
        refine Ok.callV (pc' := 70) (av := [pI 5, pI s0]) (rest := []) dX9_enters_67 rfl (by decide) cvX9_enters_181 (shM_0 _) rfl rfl rfl (leb rfl) (leb rfl) K (fun r_ h3 K => ?_)
        show Ok shM 0 0 mX9_enters 70 [some (pR 0), some (pI f), some (pI s0), some (pI (h.1 2 k1)), some (pI r1), none] [] h3 Post
        exact Ok.vret dX9_enters_70 rfl (by decide) K
    · replace K := K.2 c5
      exact Ok.vret dX9_enters_44 rfl (by decide) K
  · replace K := K.2 c3
    refine Ok.aload_n (pc' := 19) rfl dX9_enters_18 rfl ?_
    refine Ok.iconst (pc' := 20) in_3 dX9_enters_19 rfl ?_
    refine Ok.iload_n (pc' := 21) rfl dX9_enters_20 rfl ?_
    refine Ok.callV (pc' := 24) (av := [pI 3, pI s0]) (rest := []) dX9_enters_21 rfl (by decide) cvX9_enters_181 (shM_0 _) rfl rfl rfl (leb rfl) (leb rfl) K (fun r_ h4 K => ?_)
    show Ok shM 0 0 mX9_enters 24 [some (pR 0), some (pI f), some (pI s0), some (pI (h.1 2 k1)), none, none] [] h4 Post
    exact Ok.vret dX9_enters_24 rfl (by decide) K
theorem sX9_enters_110 {f v3 v5 : Int} {h : Hp} {Post : Int → Hp → Prop}
    (K : ((40 ≤ v5) → ∃ k2 : Nat, f = (k2 : Int) ∧ k2 < 600 ∧ (∃ k3 : Nat, v3 = (k3 : Int) ∧ k3 < 10 ∧ (Cl shM mX9_begins [pR 0, pI (h.1 7 k3)] (hA h 15 k2 9) (fun _ h1 => Post 0 h1)))) ∧ ((¬ 40 ≤ v5) → inR ((h.2.1 0 22 - 1)) ∧ (inR ((40 * (h.2.1 0 22 - 1))) ∧ (inR (((40 * (h.2.1 0 22 - 1)) + v5)) ∧ (∃ k5 : Nat, v3 = (k5 : Int) ∧ k5 < 10 ∧ (((h.1 6 k5 ≤ v5) → ∃ k7 : Nat, ((40 * (h.2.1 0 22 - 1)) + v5) = (k7 : Int) ∧ k7 < 520 ∧ (inR ((v5 + 1)) ∧ (Ok shM 0 0 mX9_enters 110 [some (pR 0), some (pI f), none, some (pI v3), none, some (pI (v5 + 1))] [] (hA h 18 k7 0) Post))) ∧ ((¬ h.1 6 k5 ≤ v5) → inR ((3 * f)) ∧ (inR (((3 * f) + v5)) ∧ (∃ k9 : Nat, ((3 * f) + v5) = (k9 : Int) ∧ k9 < 1800 ∧ (∃ k10 : Nat, ((40 * (h.2.1 0 22 - 1)) + v5) = (k10 : Int) ∧ k10 < 520 ∧ (inR ((v5 + 1)) ∧ (Ok shM 0 0 mX9_enters 110 [some (pR 0), some (pI f), none, some (pI v3), none, some (pI (v5 + 1))] [] (hA h 18 k10 (h.1 16 k9)) Post)))))))))))) :
    Ok shM 0 0 mX9_enters 110 [some (pR 0), some (pI f), none, some (pI v3), none, some (pI v5)] [] h Post := by
  show Ok shM 0 0 mX9_enters 110 [some (pR 0), some (pI f), none, some (pI v3), none, some (pI v5)] [] h Post
  refine Ok.iload (pc' := 112) rfl dX9_enters_110 rfl ?_
  refine Ok.bipush (pc' := 114) ⟨by decide, by decide⟩ dX9_enters_112 rfl ?_
  refine Ok.icmp_ge (tgt := 166) dX9_enters_114 rfl rfl (fun c1 => ?_) (fun c1 => ?_)
  · replace K := K.1 c1
    refine Ok.aload_n (pc' := 167) rfl dX9_enters_166 rfl ?_
    refine Ok.getR (pc' := 170) (k := 18) dX9_enters_167 rfl (shM_0 _) rfl inX9 (by decide) rfl wd_999 rfl ?_
    refine Ok.iload_n (pc' := 171) rfl dX9_enters_170 rfl ?_
    refine Ok.bipush (pc' := 173) ⟨by decide, by decide⟩ dX9_enters_171 rfl ?_
    obtain ⟨k2, e2, q2, K⟩ := K
    refine Ok.iast (pc' := 174) dX9_enters_173 rfl (shM_15 _) (by decide) e2 q2 ?_
    refine Ok.aload_n (pc' := 175) rfl dX9_enters_174 rfl ?_
    refine Ok.aload_n (pc' := 176) rfl dX9_enters_175 rfl ?_
    refine Ok.getR (pc' := 179) (k := 8) dX9_enters_176 rfl (shM_0 _) rfl inX9 (by decide) rfl wd_989 rfl ?_
    refine Ok.iload_n (pc' := 180) rfl dX9_enters_179 rfl ?_
    obtain ⟨k3, e3, q3, K⟩ := K
    refine Ok.iald (pc' := 181) (z := h.1 7 k3) dX9_enters_180 rfl (shM_7 _) (by decide) e3 q3 rfl ?_
    refine Ok.callV (pc' := 184) (av := [pI (h.1 7 k3)]) (rest := []) dX9_enters_181 rfl (by decide) cvX9_enters_211 (shM_0 _) rfl rfl rfl (leb rfl) (leb rfl) K (fun r_ h1 K => ?_)
    show Ok shM 0 0 mX9_enters 184 [some (pR 0), some (pI f), none, some (pI v3), none, some (pI v5)] [] h1 Post
    exact Ok.vret dX9_enters_184 rfl (by decide) K
  · replace K := K.2 c1
    refine Ok.aload_n (pc' := 118) rfl dX9_enters_117 rfl ?_
    refine Ok.getR (pc' := 121) (k := 21) dX9_enters_118 rfl (shM_0 _) rfl inX9 (by decide) rfl wd_1002 rfl ?_
    refine Ok.bipush (pc' := 123) ⟨by decide, by decide⟩ dX9_enters_121 rfl ?_
    refine Ok.aload_n (pc' := 124) rfl dX9_enters_123 rfl ?_
    refine Ok.getI (pc' := 127) (z := h.2.1 0 22) (k := 22) dX9_enters_124 rfl (shM_0 _) rfl inX9 (by decide) rfl rfl wd_1003 rfl ?_
    refine Ok.iconst (pc' := 128) in_1 dX9_enters_127 rfl ?_
    obtain ⟨q2, K⟩ := K
    refine Ok.isub (pc' := 129) dX9_enters_128 rfl q2 ?_
    obtain ⟨q3, K⟩ := K
    refine Ok.imul (pc' := 130) dX9_enters_129 rfl q3 ?_
    refine Ok.iload (pc' := 132) rfl dX9_enters_130 rfl ?_
    obtain ⟨q4, K⟩ := K
    refine Ok.iadd (pc' := 133) dX9_enters_132 rfl q4 ?_
    refine Ok.iload (pc' := 135) rfl dX9_enters_133 rfl ?_
    refine Ok.aload_n (pc' := 136) rfl dX9_enters_135 rfl ?_
    refine Ok.getR (pc' := 139) (k := 7) dX9_enters_136 rfl (shM_0 _) rfl inX9 (by decide) rfl wd_988 rfl ?_
    refine Ok.iload_n (pc' := 140) rfl dX9_enters_139 rfl ?_
    obtain ⟨k5, e5, q5, K⟩ := K
    refine Ok.iald (pc' := 141) (z := h.1 6 k5) dX9_enters_140 rfl (shM_6 _) (by decide) e5 q5 rfl ?_
    refine Ok.icmp_ge (tgt := 158) dX9_enters_141 rfl rfl (fun c6 => ?_) (fun c6 => ?_)
    · replace K := K.1 c6
      refine Ok.iconst (pc' := 159) in_0 dX9_enters_158 rfl ?_
      obtain ⟨k7, e7, q7, K⟩ := K
      refine Ok.iast (pc' := 160) dX9_enters_159 rfl (shM_18 _) (by decide) e7 q7 ?_
      obtain ⟨q8, K⟩ := K
      refine Ok.iinc (pc' := 163) (ls' := [some (pR 0), some (pI f), none, some (pI v3), none, some (pI (v5 + 1))]) dX9_enters_160 rfl rfl (by decide) rfl rfl q8 ?_
      refine Ok.goto (tgt := 110) dX9_enters_163 rfl ?_
      exact K
    · replace K := K.2 c6
      refine Ok.aload_n (pc' := 145) rfl dX9_enters_144 rfl ?_
      refine Ok.getR (pc' := 148) (k := 19) dX9_enters_145 rfl (shM_0 _) rfl inX9 (by decide) rfl wd_1000 rfl ?_
      refine Ok.iconst (pc' := 149) in_3 dX9_enters_148 rfl ?_
      refine Ok.iload_n (pc' := 150) rfl dX9_enters_149 rfl ?_
      obtain ⟨q7, K⟩ := K
      refine Ok.imul (pc' := 151) dX9_enters_150 rfl q7 ?_
      refine Ok.iload (pc' := 153) rfl dX9_enters_151 rfl ?_
      obtain ⟨q8, K⟩ := K
      refine Ok.iadd (pc' := 154) dX9_enters_153 rfl q8 ?_
      obtain ⟨k9, e9, q9, K⟩ := K
      refine Ok.iald (pc' := 155) (z := h.1 16 k9) dX9_enters_154 rfl (shM_16 _) (by decide) e9 q9 rfl ?_
      refine Ok.goto (tgt := 159) dX9_enters_155 rfl ?_
      obtain ⟨k10, e10, q10, K⟩ := K
      refine Ok.iast (pc' := 160) dX9_enters_159 rfl (shM_18 _) (by decide) e10 q10 ?_
      obtain ⟨q11, K⟩ := K
      refine Ok.iinc (pc' := 163) (ls' := [some (pR 0), some (pI f), none, some (pI v3), none, some (pI (v5 + 1))]) dX9_enters_160 rfl rfl (by decide) rfl rfl q11 ?_
      refine Ok.goto (tgt := 110) dX9_enters_163 rfl ?_
      exact K
theorem sX9_goesOn_0 {h : Hp} {Post : Int → Hp → Prop}
    (K : inR ((h.2.1 0 16 - 1)) ∧ (∃ k2 : Nat, (h.2.1 0 16 - 1) = (k2 : Int) ∧ k2 < 600 ∧ (inR ((3 * (h.2.1 0 16 - 1))) ∧ (∃ k4 : Nat, (3 * (h.2.1 0 16 - 1)) = (k4 : Int) ∧ k4 < 1800 ∧ (inR (((3 * (h.2.1 0 16 - 1)) + 1)) ∧ (∃ k6 : Nat, ((3 * (h.2.1 0 16 - 1)) + 1) = (k6 : Int) ∧ k6 < 1800 ∧ (∃ k7 : Nat, h.1 14 k2 = (k7 : Int) ∧ k7 < 600 ∧ (((h.1 1 k7 = 0) → Cl shM mX9_ends [pR 0, pI (h.1 2 k7)] h (fun _ h1 => Post 0 h1)) ∧ ((h.1 1 k7 = 1) → inR ((h.2.1 0 22 - 1)) ∧ (inR ((40 * (h.2.1 0 22 - 1))) ∧ (inR (((40 * (h.2.1 0 22 - 1)) + h.1 2 k7)) ∧ (∃ k12 : Nat, ((40 * (h.2.1 0 22 - 1)) + h.1 2 k7) = (k12 : Int) ∧ k12 < 520 ∧ (Cl shM mX9_ends [pR 0, pI (h.1 18 k12)] h (fun _ h2 => Post 0 h2)))))) ∧ ((h.1 1 k7 = 3) → ((¬ h.1 15 k2 = 0) → ((¬ h.1 15 k2 = 1) → Cl shM mX9_ends [pR 0, pI (h.1 16 k6)] h (fun _ h3 => Post 0 h3)) ∧ ((h.1 15 k2 = 1) → inR ((3 * h.1 14 k2)) ∧ (((h.1 16 k4 = 0) → inR (((3 * h.1 14 k2) + 2)) ∧ (∃ k14 : Nat, ((3 * h.1 14 k2) + 2) = (k14 : Int) ∧ k14 < 1800 ∧ (Cl shM mX9_begins [pR 0, pI (h.1 3 k14)] h (fun _ h4 => Post 0 h4)))) ∧ ((¬ h.1 16 k4 = 0) → inR (((3 * h.1 14 k2) + 1)) ∧ (∃ k14 : Nat, ((3 * h.1 14 k2) + 1) = (k14 : Int) ∧ k14 < 1800 ∧ (Cl shM mX9_begins [pR 0, pI (h.1 3 k14)] h (fun _ h5 => Post 0 h5))))))) ∧ ((h.1 15 k2 = 0) → inR ((3 * h.1 14 k2)) ∧ (∃ k11 : Nat, (3 * h.1 14 k2) = (k11 : Int) ∧ k11 < 1800 ∧ (Cl shM mX9_begins [pR 0, pI (h.1 3 k11)] h (fun _ h6 => Post 0 h6))))) ∧ ((h.1 1 k7 = 6) → ∃ k9 : Nat, h.1 2 k7 = (k9 : Int) ∧ k9 < 10 ∧ (((h.1 6 k9 ≤ h.1 15 k2) → Cl shM mX9_enters [pR 0, pI (h.2.1 0 16 - 1), pI (h.1 14 k2)] h (fun _ h7 => Post 0 h7)) ∧ ((¬ h.1 6 k9 ≤ h.1 15 k2) → inR ((3 * h.1 14 k2)) ∧ (inR (((3 * h.1 14 k2) + h.1 15 k2)) ∧ (∃ k13 : Nat, ((3 * h.1 14 k2) + h.1 15 k2) = (k13 : Int) ∧ k13 < 1800 ∧ (Cl shM mX9_begins [pR 0, pI (h.1 3 k13)] h (fun _ h8 => Post 0 h8))))))) ∧ ((h.1 1 k7 = 8) → Cl shM mX9_whiles [pR 0, pI (h.2.1 0 16 - 1), pI (h.1 14 k2), pI (h.1 15 k2), pI (h.1 16 k4)] h (fun _ h9 => Post 0 h9)) ∧ ((h.1 1 k7 < 0 ∨ 8 < h.1 1 k7 ∨ h.1 1 k7 = 2 ∨ h.1 1 k7 = 4 ∨ h.1 1 k7 = 5 ∨ h.1 1 k7 = 7) → Cl shM mX9_partsOf [pR 0, pI (h.1 14 k2)] h (fun r10 h10 => ((r10 ≤ h.1 15 k2) → Cl shM mX9_does [pR 0, pI (h.1 14 k2), pI (h.1 16 k4), pI (h.1 16 k6)] h10 (fun _ h11 => Post 0 h11)) ∧ ((¬ r10 ≤ h.1 15 k2) → inR ((3 * h.1 14 k2)) ∧ (inR (((3 * h.1 14 k2) + h.1 15 k2)) ∧ (∃ k12 : Nat, ((3 * h.1 14 k2) + h.1 15 k2) = (k12 : Int) ∧ k12 < 1800 ∧ (Cl shM mX9_begins [pR 0, pI (h10.1 3 k12)] h10 (fun _ h12 => Post 0 h12))))))))))))))) :
    Cl shM mX9_goesOn [pR 0] h Post := by
  show Ok shM 0 0 mX9_goesOn 0 [some (pR 0), none, none, none, none, none] [] h Post
  refine Ok.aload_n (pc' := 1) rfl dX9_goesOn_0 rfl ?_
  refine Ok.getI (pc' := 4) (z := h.2.1 0 16) (k := 16) dX9_goesOn_1 rfl (shM_0 _) rfl inX9 (by decide) rfl rfl wd_997 rfl ?_
  refine Ok.iconst (pc' := 5) in_1 dX9_goesOn_4 rfl ?_
  obtain ⟨q1, K⟩ := K
  refine Ok.isub (pc' := 6) dX9_goesOn_5 rfl q1 ?_
  refine Ok.istore_n (pc' := 7) (ls' := [some (pR 0), some (pI (h.2.1 0 16 - 1)), none, none, none, none]) dX9_goesOn_6 rfl (by decide) rfl rfl ?_
  refine Ok.aload_n (pc' := 8) rfl dX9_goesOn_7 rfl ?_
  refine Ok.getR (pc' := 11) (k := 17) dX9_goesOn_8 rfl (shM_0 _) rfl inX9 (by decide) rfl wd_998 rfl ?_
  refine Ok.iload_n (pc' := 12) rfl dX9_goesOn_11 rfl ?_
  obtain ⟨k2, e2, q2, K⟩ := K
  refine Ok.iald (pc' := 13) (z := h.1 14 k2) dX9_goesOn_12 rfl (shM_14 _) (by decide) e2 q2 rfl ?_
  refine Ok.istore_n (pc' := 14) (ls' := [some (pR 0), some (pI (h.2.1 0 16 - 1)), some (pI (h.1 14 k2)), none, none, none]) dX9_goesOn_13 rfl (by decide) rfl rfl ?_
  refine Ok.aload_n (pc' := 15) rfl dX9_goesOn_14 rfl ?_
  refine Ok.getR (pc' := 18) (k := 18) dX9_goesOn_15 rfl (shM_0 _) rfl inX9 (by decide) rfl wd_999 rfl ?_
  refine Ok.iload_n (pc' := 19) rfl dX9_goesOn_18 rfl ?_
  refine Ok.iald (pc' := 20) (z := h.1 15 k2) dX9_goesOn_19 rfl (shM_15 _) (by decide) e2 q2 rfl ?_
  refine Ok.istore_n (pc' := 21) (ls' := [some (pR 0), some (pI (h.2.1 0 16 - 1)), some (pI (h.1 14 k2)), some (pI (h.1 15 k2)), none, none]) dX9_goesOn_20 rfl (by decide) rfl rfl ?_
  refine Ok.aload_n (pc' := 22) rfl dX9_goesOn_21 rfl ?_
  refine Ok.getR (pc' := 25) (k := 19) dX9_goesOn_22 rfl (shM_0 _) rfl inX9 (by decide) rfl wd_1000 rfl ?_
  refine Ok.iconst (pc' := 26) in_3 dX9_goesOn_25 rfl ?_
  refine Ok.iload_n (pc' := 27) rfl dX9_goesOn_26 rfl ?_
  obtain ⟨q3, K⟩ := K
  refine Ok.imul (pc' := 28) dX9_goesOn_27 rfl q3 ?_
  obtain ⟨k4, e4, q4, K⟩ := K
  refine Ok.iald (pc' := 29) (z := h.1 16 k4) dX9_goesOn_28 rfl (shM_16 _) (by decide) e4 q4 rfl ?_
  refine Ok.istore (pc' := 31) (ls' := [some (pR 0), some (pI (h.2.1 0 16 - 1)), some (pI (h.1 14 k2)), some (pI (h.1 15 k2)), some (pI (h.1 16 k4)), none]) dX9_goesOn_29 rfl (by decide) rfl rfl ?_
  refine Ok.aload_n (pc' := 32) rfl dX9_goesOn_31 rfl ?_
  refine Ok.getR (pc' := 35) (k := 19) dX9_goesOn_32 rfl (shM_0 _) rfl inX9 (by decide) rfl wd_1000 rfl ?_
  refine Ok.iconst (pc' := 36) in_3 dX9_goesOn_35 rfl ?_
  refine Ok.iload_n (pc' := 37) rfl dX9_goesOn_36 rfl ?_
  refine Ok.imul (pc' := 38) dX9_goesOn_37 rfl q3 ?_
  refine Ok.iconst (pc' := 39) in_1 dX9_goesOn_38 rfl ?_
  obtain ⟨q5, K⟩ := K
  refine Ok.iadd (pc' := 40) dX9_goesOn_39 rfl q5 ?_
  obtain ⟨k6, e6, q6, K⟩ := K
  refine Ok.iald (pc' := 41) (z := h.1 16 k6) dX9_goesOn_40 rfl (shM_16 _) (by decide) e6 q6 rfl ?_
  refine Ok.istore (pc' := 43) (ls' := [some (pR 0), some (pI (h.2.1 0 16 - 1)), some (pI (h.1 14 k2)), some (pI (h.1 15 k2)), some (pI (h.1 16 k4)), some (pI (h.1 16 k6))]) dX9_goesOn_41 rfl (by decide) rfl rfl ?_
  refine Ok.aload_n (pc' := 44) rfl dX9_goesOn_43 rfl ?_
  refine Ok.getR (pc' := 47) (k := 1) dX9_goesOn_44 rfl (shM_0 _) rfl inX9 (by decide) rfl wd_982 rfl ?_
  refine Ok.iload_n (pc' := 48) rfl dX9_goesOn_47 rfl ?_
  obtain ⟨k7, e7, q7, K⟩ := K
  refine Ok.iald (pc' := 49) (z := h.1 1 k7) dX9_goesOn_48 rfl (shM_1 _) (by decide) e7 q7 rfl ?_
  obtain ⟨Kc8_0, Kc8_1, Kc8_2, Kc8_3, Kc8_4, Kc8_5⟩ := K
  refine Ok.tsw dX9_goesOn_49 rfl ⟨by decide, by decide⟩ (fun tgt ht => ?_)
  have hx : (h.1 1 k7 = 0) ∨ (h.1 1 k7 = 1) ∨ (h.1 1 k7 = 3) ∨ (h.1 1 k7 = 6) ∨ (h.1 1 k7 = 8) ∨ (h.1 1 k7 < 0 ∨ 8 < h.1 1 k7 ∨ h.1 1 k7 = 2 ∨ h.1 1 k7 = 4 ∨ h.1 1 k7 = 5 ∨ h.1 1 k7 = 7) := by omega
  rcases hx with c8 | c8 | c8 | c8 | c8 | c8
  · obtain rfl : 100 = tgt := by rw [c8] at ht; exact Int.ofNat.inj ht
    have K := Kc8_0 c8
    refine Ok.aload_n (pc' := 101) rfl dX9_goesOn_100 rfl ?_
    refine Ok.aload_n (pc' := 102) rfl dX9_goesOn_101 rfl ?_
    refine Ok.getR (pc' := 105) (k := 2) dX9_goesOn_102 rfl (shM_0 _) rfl inX9 (by decide) rfl wd_983 rfl ?_
    refine Ok.iload_n (pc' := 106) rfl dX9_goesOn_105 rfl ?_
    refine Ok.iald (pc' := 107) (z := h.1 2 k7) dX9_goesOn_106 rfl (shM_2 _) (by decide) e7 q7 rfl ?_
    refine Ok.callV (pc' := 110) (av := [pI (h.1 2 k7)]) (rest := []) dX9_goesOn_107 rfl (by decide) cvX9_goesOn_205 (shM_0 _) rfl rfl rfl (leb rfl) (leb rfl) K (fun r_ h1 K => ?_)
    show Ok shM 0 0 mX9_goesOn 110 [some (pR 0), some (pI (h.2.1 0 16 - 1)), some (pI (h.1 14 k2)), some (pI (h.1 15 k2)), some (pI (h.1 16 k4)), some (pI (h.1 16 k6))] [] h1 Post
    refine Ok.goto (tgt := 288) dX9_goesOn_110 rfl ?_
    exact Ok.vret dX9_goesOn_288 rfl (by decide) K
  · obtain rfl : 113 = tgt := by rw [c8] at ht; exact Int.ofNat.inj ht
    have K := Kc8_1 c8
    refine Ok.aload_n (pc' := 114) rfl dX9_goesOn_113 rfl ?_
    refine Ok.aload_n (pc' := 115) rfl dX9_goesOn_114 rfl ?_
    refine Ok.getR (pc' := 118) (k := 21) dX9_goesOn_115 rfl (shM_0 _) rfl inX9 (by decide) rfl wd_1002 rfl ?_
    refine Ok.bipush (pc' := 120) ⟨by decide, by decide⟩ dX9_goesOn_118 rfl ?_
    refine Ok.aload_n (pc' := 121) rfl dX9_goesOn_120 rfl ?_
    refine Ok.getI (pc' := 124) (z := h.2.1 0 22) (k := 22) dX9_goesOn_121 rfl (shM_0 _) rfl inX9 (by decide) rfl rfl wd_1003 rfl ?_
    refine Ok.iconst (pc' := 125) in_1 dX9_goesOn_124 rfl ?_
    obtain ⟨q9, K⟩ := K
    refine Ok.isub (pc' := 126) dX9_goesOn_125 rfl q9 ?_
    obtain ⟨q10, K⟩ := K
    refine Ok.imul (pc' := 127) dX9_goesOn_126 rfl q10 ?_
    refine Ok.aload_n (pc' := 128) rfl dX9_goesOn_127 rfl ?_
    refine Ok.getR (pc' := 131) (k := 2) dX9_goesOn_128 rfl (shM_0 _) rfl inX9 (by decide) rfl wd_983 rfl ?_
    refine Ok.iload_n (pc' := 132) rfl dX9_goesOn_131 rfl ?_
    refine Ok.iald (pc' := 133) (z := h.1 2 k7) dX9_goesOn_132 rfl (shM_2 _) (by decide) e7 q7 rfl ?_
    obtain ⟨q11, K⟩ := K
    refine Ok.iadd (pc' := 134) dX9_goesOn_133 rfl q11 ?_
    obtain ⟨k12, e12, q12, K⟩ := K
    refine Ok.iald (pc' := 135) (z := h.1 18 k12) dX9_goesOn_134 rfl (shM_18 _) (by decide) e12 q12 rfl ?_
    refine Ok.callV (pc' := 138) (av := [pI (h.1 18 k12)]) (rest := []) dX9_goesOn_135 rfl (by decide) cvX9_goesOn_205 (shM_0 _) rfl rfl rfl (leb rfl) (leb rfl) K (fun r_ h2 K => ?_)
    show Ok shM 0 0 mX9_goesOn 138 [some (pR 0), some (pI (h.2.1 0 16 - 1)), some (pI (h.1 14 k2)), some (pI (h.1 15 k2)), some (pI (h.1 16 k4)), some (pI (h.1 16 k6))] [] h2 Post
    refine Ok.goto (tgt := 288) dX9_goesOn_138 rfl ?_
    exact Ok.vret dX9_goesOn_288 rfl (by decide) K
  · obtain rfl : 141 = tgt := by rw [c8] at ht; exact Int.ofNat.inj ht
    have K := Kc8_2 c8
    refine Ok.iload_n (pc' := 142) rfl dX9_goesOn_141 rfl ?_
    refine Ok.if_ne (tgt := 160) dX9_goesOn_142 rfl rfl (fun c9 => ?_) (fun c9 => ?_)
    · replace K := K.1 c9
      refine Ok.iload_n (pc' := 161) rfl dX9_goesOn_160 rfl ?_
      refine Ok.iconst (pc' := 162) in_1 dX9_goesOn_161 rfl ?_
      refine Ok.icmp_ne (tgt := 191) dX9_goesOn_162 rfl rfl (fun c10 => ?_) (fun c10 => ?_)
      · replace K := K.1 c10
        refine Ok.aload_n (pc' := 192) rfl dX9_goesOn_191 rfl ?_
        refine Ok.iload (pc' := 194) rfl dX9_goesOn_192 rfl ?_
        refine Ok.callV (pc' := 197) (av := [pI (h.1 16 k6)]) (rest := []) dX9_goesOn_194 rfl (by decide) cvX9_goesOn_205 (shM_0 _) rfl rfl rfl (leb rfl) (leb rfl) K (fun r_ h3 K => ?_)
        show Ok shM 0 0 mX9_goesOn 197 [some (pR 0), some (pI (h.2.1 0 16 - 1)), some (pI (h.1 14 k2)), some (pI (h.1 15 k2)), some (pI (h.1 16 k4)), some (pI (h.1 16 k6))] [] h3 Post
        refine Ok.goto (tgt := 288) dX9_goesOn_197 rfl ?_
        exact Ok.vret dX9_goesOn_288 rfl (by decide) K
      · replace K := K.2 c10
        refine Ok.aload_n (pc' := 166) rfl dX9_goesOn_165 rfl ?_
        refine Ok.aload_n (pc' := 167) rfl dX9_goesOn_166 rfl ?_
        refine Ok.getR (pc' := 170) (k := 3) dX9_goesOn_167 rfl (shM_0 _) rfl inX9 (by decide) rfl wd_984 rfl ?_
        refine Ok.iconst (pc' := 171) in_3 dX9_goesOn_170 rfl ?_
        refine Ok.iload_n (pc' := 172) rfl dX9_goesOn_171 rfl ?_
        obtain ⟨q11, K⟩ := K
        refine Ok.imul (pc' := 173) dX9_goesOn_172 rfl q11 ?_
        refine Ok.iload (pc' := 175) rfl dX9_goesOn_173 rfl ?_
        refine Ok.if_eq (tgt := 182) dX9_goesOn_175 rfl rfl (fun c12 => ?_) (fun c12 => ?_)
        · replace K := K.1 c12
          refine Ok.iconst (pc' := 183) in_2 dX9_goesOn_182 rfl ?_
          obtain ⟨q13, K⟩ := K
          refine Ok.iadd (pc' := 184) dX9_goesOn_183 rfl q13 ?_
          obtain ⟨k14, e14, q14, K⟩ := K
          refine Ok.iald (pc' := 185) (z := h.1 3 k14) dX9_goesOn_184 rfl (shM_3 _) (by decide) e14 q14 rfl ?_
          refine Ok.callV (pc' := 188) (av := [pI (h.1 3 k14)]) (rest := []) dX9_goesOn_185 rfl (by decide) cvX9_goesOn_211 (shM_0 _) rfl rfl rfl (leb rfl) (leb rfl) K (fun r_ h4 K => ?_)
          show Ok shM 0 0 mX9_goesOn 188 [some (pR 0), some (pI (h.2.1 0 16 - 1)), some (pI (h.1 14 k2)), some (pI (h.1 15 k2)), some (pI (h.1 16 k4)), some (pI (h.1 16 k6))] [] h4 Post
          refine Ok.goto (tgt := 288) dX9_goesOn_188 rfl ?_
          exact Ok.vret dX9_goesOn_288 rfl (by decide) K
        · replace K := K.2 c12
          refine Ok.iconst (pc' := 179) in_1 dX9_goesOn_178 rfl ?_
          refine Ok.goto (tgt := 183) dX9_goesOn_179 rfl ?_
          obtain ⟨q13, K⟩ := K
          refine Ok.iadd (pc' := 184) dX9_goesOn_183 rfl q13 ?_
          obtain ⟨k14, e14, q14, K⟩ := K
          refine Ok.iald (pc' := 185) (z := h.1 3 k14) dX9_goesOn_184 rfl (shM_3 _) (by decide) e14 q14 rfl ?_
          refine Ok.callV (pc' := 188) (av := [pI (h.1 3 k14)]) (rest := []) dX9_goesOn_185 rfl (by decide) cvX9_goesOn_211 (shM_0 _) rfl rfl rfl (leb rfl) (leb rfl) K (fun r_ h5 K => ?_)
          show Ok shM 0 0 mX9_goesOn 188 [some (pR 0), some (pI (h.2.1 0 16 - 1)), some (pI (h.1 14 k2)), some (pI (h.1 15 k2)), some (pI (h.1 16 k4)), some (pI (h.1 16 k6))] [] h5 Post
          refine Ok.goto (tgt := 288) dX9_goesOn_188 rfl ?_
          exact Ok.vret dX9_goesOn_288 rfl (by decide) K
    · replace K := K.2 c9
      refine Ok.aload_n (pc' := 146) rfl dX9_goesOn_145 rfl ?_
      refine Ok.aload_n (pc' := 147) rfl dX9_goesOn_146 rfl ?_
      refine Ok.getR (pc' := 150) (k := 3) dX9_goesOn_147 rfl (shM_0 _) rfl inX9 (by decide) rfl wd_984 rfl ?_
      refine Ok.iconst (pc' := 151) in_3 dX9_goesOn_150 rfl ?_
      refine Ok.iload_n (pc' := 152) rfl dX9_goesOn_151 rfl ?_
      obtain ⟨q10, K⟩ := K
      refine Ok.imul (pc' := 153) dX9_goesOn_152 rfl q10 ?_
      obtain ⟨k11, e11, q11, K⟩ := K
      refine Ok.iald (pc' := 154) (z := h.1 3 k11) dX9_goesOn_153 rfl (shM_3 _) (by decide) e11 q11 rfl ?_
      refine Ok.callV (pc' := 157) (av := [pI (h.1 3 k11)]) (rest := []) dX9_goesOn_154 rfl (by decide) cvX9_goesOn_211 (shM_0 _) rfl rfl rfl (leb rfl) (leb rfl) K (fun r_ h6 K => ?_)
      show Ok shM 0 0 mX9_goesOn 157 [some (pR 0), some (pI (h.2.1 0 16 - 1)), some (pI (h.1 14 k2)), some (pI (h.1 15 k2)), some (pI (h.1 16 k4)), some (pI (h.1 16 k6))] [] h6 Post
      refine Ok.goto (tgt := 288) dX9_goesOn_157 rfl ?_
      exact Ok.vret dX9_goesOn_288 rfl (by decide) K
  · obtain rfl : 212 = tgt := by rw [c8] at ht; exact Int.ofNat.inj ht
    have K := Kc8_3 c8
    refine Ok.iload_n (pc' := 213) rfl dX9_goesOn_212 rfl ?_
    refine Ok.aload_n (pc' := 214) rfl dX9_goesOn_213 rfl ?_
    refine Ok.getR (pc' := 217) (k := 7) dX9_goesOn_214 rfl (shM_0 _) rfl inX9 (by decide) rfl wd_988 rfl ?_
    refine Ok.aload_n (pc' := 218) rfl dX9_goesOn_217 rfl ?_
    refine Ok.getR (pc' := 221) (k := 2) dX9_goesOn_218 rfl (shM_0 _) rfl inX9 (by decide) rfl wd_983 rfl ?_
    refine Ok.iload_n (pc' := 222) rfl dX9_goesOn_221 rfl ?_
    refine Ok.iald (pc' := 223) (z := h.1 2 k7) dX9_goesOn_222 rfl (shM_2 _) (by decide) e7 q7 rfl ?_
    obtain ⟨k9, e9, q9, K⟩ := K
    refine Ok.iald (pc' := 224) (z := h.1 6 k9) dX9_goesOn_223 rfl (shM_6 _) (by decide) e9 q9 rfl ?_
    refine Ok.icmp_ge (tgt := 244) dX9_goesOn_224 rfl rfl (fun c10 => ?_) (fun c10 => ?_)
    · replace K := K.1 c10
      refine Ok.aload_n (pc' := 245) rfl dX9_goesOn_244 rfl ?_
      refine Ok.iload_n (pc' := 246) rfl dX9_goesOn_245 rfl ?_
      refine Ok.iload_n (pc' := 247) rfl dX9_goesOn_246 rfl ?_
      refine Ok.callV (pc' := 250) (av := [pI (h.2.1 0 16 - 1), pI (h.1 14 k2)]) (rest := []) dX9_goesOn_247 rfl (by decide) cvX9_goesOn_218 (shM_0 _) rfl rfl rfl (leb rfl) (leb rfl) K (fun r_ h7 K => ?_)
      show Ok shM 0 0 mX9_goesOn 250 [some (pR 0), some (pI (h.2.1 0 16 - 1)), some (pI (h.1 14 k2)), some (pI (h.1 15 k2)), some (pI (h.1 16 k4)), some (pI (h.1 16 k6))] [] h7 Post
      refine Ok.goto (tgt := 288) dX9_goesOn_250 rfl ?_
      exact Ok.vret dX9_goesOn_288 rfl (by decide) K
    · replace K := K.2 c10
      refine Ok.aload_n (pc' := 228) rfl dX9_goesOn_227 rfl ?_
      refine Ok.aload_n (pc' := 229) rfl dX9_goesOn_228 rfl ?_
      refine Ok.getR (pc' := 232) (k := 3) dX9_goesOn_229 rfl (shM_0 _) rfl inX9 (by decide) rfl wd_984 rfl ?_
      refine Ok.iconst (pc' := 233) in_3 dX9_goesOn_232 rfl ?_
      refine Ok.iload_n (pc' := 234) rfl dX9_goesOn_233 rfl ?_
      obtain ⟨q11, K⟩ := K
      refine Ok.imul (pc' := 235) dX9_goesOn_234 rfl q11 ?_
      refine Ok.iload_n (pc' := 236) rfl dX9_goesOn_235 rfl ?_
      obtain ⟨q12, K⟩ := K
      refine Ok.iadd (pc' := 237) dX9_goesOn_236 rfl q12 ?_
      obtain ⟨k13, e13, q13, K⟩ := K
      refine Ok.iald (pc' := 238) (z := h.1 3 k13) dX9_goesOn_237 rfl (shM_3 _) (by decide) e13 q13 rfl ?_
      refine Ok.callV (pc' := 241) (av := [pI (h.1 3 k13)]) (rest := []) dX9_goesOn_238 rfl (by decide) cvX9_goesOn_211 (shM_0 _) rfl rfl rfl (leb rfl) (leb rfl) K (fun r_ h8 K => ?_)
      show Ok shM 0 0 mX9_goesOn 241 [some (pR 0), some (pI (h.2.1 0 16 - 1)), some (pI (h.1 14 k2)), some (pI (h.1 15 k2)), some (pI (h.1 16 k4)), some (pI (h.1 16 k6))] [] h8 Post
      refine Ok.goto (tgt := 288) dX9_goesOn_241 rfl ?_
      exact Ok.vret dX9_goesOn_288 rfl (by decide) K
  · obtain rfl : 200 = tgt := by rw [c8] at ht; exact Int.ofNat.inj ht
    have K := Kc8_4 c8
    refine Ok.aload_n (pc' := 201) rfl dX9_goesOn_200 rfl ?_
    refine Ok.iload_n (pc' := 202) rfl dX9_goesOn_201 rfl ?_
    refine Ok.iload_n (pc' := 203) rfl dX9_goesOn_202 rfl ?_
    refine Ok.iload_n (pc' := 204) rfl dX9_goesOn_203 rfl ?_
    refine Ok.iload (pc' := 206) rfl dX9_goesOn_204 rfl ?_
    refine Ok.callV (pc' := 209) (av := [pI (h.2.1 0 16 - 1), pI (h.1 14 k2), pI (h.1 15 k2), pI (h.1 16 k4)]) (rest := []) dX9_goesOn_206 rfl (by decide) cvX9_goesOn_214 (shM_0 _) rfl rfl rfl (leb rfl) (leb rfl) K (fun r_ h9 K => ?_)
    show Ok shM 0 0 mX9_goesOn 209 [some (pR 0), some (pI (h.2.1 0 16 - 1)), some (pI (h.1 14 k2)), some (pI (h.1 15 k2)), some (pI (h.1 16 k4)), some (pI (h.1 16 k6))] [] h9 Post
    refine Ok.goto (tgt := 288) dX9_goesOn_209 rfl ?_
    exact Ok.vret dX9_goesOn_288 rfl (by decide) K
  · obtain rfl : 253 = tgt := by
      rcases c8 with q | q | q | q | q | q
      · rw [swT_out (Or.inl q)] at ht; exact Int.ofNat.inj ht
      · rw [swT_out (Or.inr q)] at ht; exact Int.ofNat.inj ht
      · rw [q] at ht; exact Int.ofNat.inj ht
      · rw [q] at ht; exact Int.ofNat.inj ht
      · rw [q] at ht; exact Int.ofNat.inj ht
      · rw [q] at ht; exact Int.ofNat.inj ht
    have K := Kc8_5 c8
    refine Ok.iload_n (pc' := 254) rfl dX9_goesOn_253 rfl ?_
    refine Ok.aload_n (pc' := 255) rfl dX9_goesOn_254 rfl ?_
    refine Ok.iload_n (pc' := 256) rfl dX9_goesOn_255 rfl ?_
    refine Ok.callV (pc' := 259) (av := [pI (h.1 14 k2)]) (rest := [pI (h.1 15 k2)]) dX9_goesOn_256 rfl (by decide) cvX9_goesOn_96 (shM_0 _) rfl rfl rfl (leb rfl) (leb rfl) K (fun r10 h10 K => ?_)
    show Ok shM 0 0 mX9_goesOn 259 [some (pR 0), some (pI (h.2.1 0 16 - 1)), some (pI (h.1 14 k2)), some (pI (h.1 15 k2)), some (pI (h.1 16 k4)), some (pI (h.1 16 k6))] [pI r10, pI (h.1 15 k2)] h10 Post
    refine Ok.icmp_ge (tgt := 279) dX9_goesOn_259 rfl rfl (fun c9 => ?_) (fun c9 => ?_)
    · replace K := K.1 c9
      refine Ok.aload_n (pc' := 280) rfl dX9_goesOn_279 rfl ?_
      refine Ok.iload_n (pc' := 281) rfl dX9_goesOn_280 rfl ?_
      refine Ok.iload (pc' := 283) rfl dX9_goesOn_281 rfl ?_
      refine Ok.iload (pc' := 285) rfl dX9_goesOn_283 rfl ?_
      refine Ok.callV (pc' := 288) (av := [pI (h.1 14 k2), pI (h.1 16 k4), pI (h.1 16 k6)]) (rest := []) dX9_goesOn_285 rfl (by decide) cvX9_goesOn_221 (shM_0 _) rfl rfl rfl (leb rfl) (leb rfl) K (fun r_ h11 K => ?_)
      show Ok shM 0 0 mX9_goesOn 288 [some (pR 0), some (pI (h.2.1 0 16 - 1)), some (pI (h.1 14 k2)), some (pI (h.1 15 k2)), some (pI (h.1 16 k4)), some (pI (h.1 16 k6))] [] h11 Post
      exact Ok.vret dX9_goesOn_288 rfl (by decide) K
    · replace K := K.2 c9
      refine Ok.aload_n (pc' := 263) rfl dX9_goesOn_262 rfl ?_
      refine Ok.aload_n (pc' := 264) rfl dX9_goesOn_263 rfl ?_
      refine Ok.getR (pc' := 267) (k := 3) dX9_goesOn_264 rfl (shM_0 _) rfl inX9 (by decide) rfl wd_984 rfl ?_
      refine Ok.iconst (pc' := 268) in_3 dX9_goesOn_267 rfl ?_
      refine Ok.iload_n (pc' := 269) rfl dX9_goesOn_268 rfl ?_
      obtain ⟨q10, K⟩ := K
      refine Ok.imul (pc' := 270) dX9_goesOn_269 rfl q10 ?_
      refine Ok.iload_n (pc' := 271) rfl dX9_goesOn_270 rfl ?_
      obtain ⟨q11, K⟩ := K
      refine Ok.iadd (pc' := 272) dX9_goesOn_271 rfl q11 ?_
      obtain ⟨k12, e12, q12, K⟩ := K
      refine Ok.iald (pc' := 273) (z := h10.1 3 k12) dX9_goesOn_272 rfl (shM_3 _) (by decide) e12 q12 rfl ?_
      refine Ok.callV (pc' := 276) (av := [pI (h10.1 3 k12)]) (rest := []) dX9_goesOn_273 rfl (by decide) cvX9_goesOn_211 (shM_0 _) rfl rfl rfl (leb rfl) (leb rfl) K (fun r_ h12 K => ?_)
      show Ok shM 0 0 mX9_goesOn 276 [some (pR 0), some (pI (h.2.1 0 16 - 1)), some (pI (h.1 14 k2)), some (pI (h.1 15 k2)), some (pI (h.1 16 k4)), some (pI (h.1 16 k6))] [] h12 Post
      refine Ok.goto (tgt := 288) dX9_goesOn_276 rfl ?_
      exact Ok.vret dX9_goesOn_288 rfl (by decide) K
theorem sX9_whiles_0 {f s0 phase t : Int} {h : Hp} {Post : Int → Hp → Prop}
    (K : ((¬ phase = 0) → ((¬ phase = 1) → Cl shM mX9_pays [pR 0, pI 1, pI s0] h (fun r1 h1 => ((r1 = 0) → Post 0 h1) ∧ ((¬ r1 = 0) → ∃ k4 : Nat, f = (k4 : Int) ∧ k4 < 600 ∧ (Post 0 (hA h1 15 k4 0))))) ∧ ((phase = 1) → ((¬ t = 0) → inR ((3 * s0)) ∧ (inR (((3 * s0) + 1)) ∧ (∃ k6 : Nat, ((3 * s0) + 1) = (k6 : Int) ∧ k6 < 1800 ∧ (Cl shM mX9_begins [pR 0, pI (h.1 3 k6)] h (fun _ h2 => Post 0 h2))))) ∧ ((t = 0) → Cl shM mX9_ends [pR 0, pI 0] h (fun _ h3 => Post 0 h3)))) ∧ ((phase = 0) → inR ((3 * s0)) ∧ (∃ k3 : Nat, (3 * s0) = (k3 : Int) ∧ k3 < 1800 ∧ (Cl shM mX9_begins [pR 0, pI (h.1 3 k3)] h (fun _ h4 => Post 0 h4))))) :
    Cl shM mX9_whiles [pR 0, pI f, pI s0, pI phase, pI t] h Post := by
  show Ok shM 0 0 mX9_whiles 0 [some (pR 0), some (pI f), some (pI s0), some (pI phase), some (pI t)] [] h Post
  refine Ok.iload_n (pc' := 1) rfl dX9_whiles_0 rfl ?_
  refine Ok.if_ne (tgt := 19) dX9_whiles_1 rfl rfl (fun c1 => ?_) (fun c1 => ?_)
  · replace K := K.1 c1
    refine Ok.iload_n (pc' := 20) rfl dX9_whiles_19 rfl ?_
    refine Ok.iconst (pc' := 21) in_1 dX9_whiles_20 rfl ?_
    refine Ok.icmp_ne (tgt := 37) dX9_whiles_21 rfl rfl (fun c2 => ?_) (fun c2 => ?_)
    · replace K := K.1 c2
      refine Ok.iload_n (pc' := 38) rfl dX9_whiles_37 rfl ?_
      refine Ok.iconst (pc' := 39) in_1 dX9_whiles_38 rfl ?_
      refine Ok.icmp_ne (tgt := 59) dX9_whiles_39 rfl rfl (fun _ => ?_) (fun z => absurd z c2)
      refine Ok.aload_n (pc' := 60) rfl dX9_whiles_59 rfl ?_
      refine Ok.iconst (pc' := 61) in_1 dX9_whiles_60 rfl ?_
      refine Ok.iload_n (pc' := 62) rfl dX9_whiles_61 rfl ?_
      refine Ok.callV (pc' := 65) (av := [pI 1, pI s0]) (rest := []) dX9_whiles_62 rfl (by decide) cvX9_whiles_191 (shM_0 _) rfl rfl rfl (leb rfl) (leb rfl) K (fun r1 h1 K => ?_)
      show Ok shM 0 0 mX9_whiles 65 [some (pR 0), some (pI f), some (pI s0), some (pI phase), some (pI t)] [pI r1] h1 Post
      refine Ok.if_eq (tgt := 75) dX9_whiles_65 rfl rfl (fun c3 => ?_) (fun c3 => ?_)
      · replace K := K.1 c3
        exact Ok.vret dX9_whiles_75 rfl (by decide) K
      · replace K := K.2 c3
        refine Ok.aload_n (pc' := 69) rfl dX9_whiles_68 rfl ?_
        refine Ok.getR (pc' := 72) (k := 18) dX9_whiles_69 rfl (shM_0 _) rfl inX9 (by decide) rfl wd_999 rfl ?_
        refine Ok.iload_n (pc' := 73) rfl dX9_whiles_72 rfl ?_
        refine Ok.iconst (pc' := 74) in_0 dX9_whiles_73 rfl ?_
        obtain ⟨k4, e4, q4, K⟩ := K
        refine Ok.iast (pc' := 75) dX9_whiles_74 rfl (shM_15 _) (by decide) e4 q4 ?_
        exact Ok.vret dX9_whiles_75 rfl (by decide) K
    · replace K := K.2 c2
      refine Ok.iload (pc' := 26) rfl dX9_whiles_24 rfl ?_
      refine Ok.if_ne (tgt := 37) dX9_whiles_26 rfl rfl (fun c3 => ?_) (fun c3 => ?_)
      · replace K := K.1 c3
        refine Ok.iload_n (pc' := 38) rfl dX9_whiles_37 rfl ?_
        refine Ok.iconst (pc' := 39) in_1 dX9_whiles_38 rfl ?_
        refine Ok.icmp_ne (tgt := 59) dX9_whiles_39 rfl rfl (fun z => absurd c2 z) (fun _ => ?_)
        refine Ok.aload_n (pc' := 43) rfl dX9_whiles_42 rfl ?_
        refine Ok.aload_n (pc' := 44) rfl dX9_whiles_43 rfl ?_
        refine Ok.getR (pc' := 47) (k := 3) dX9_whiles_44 rfl (shM_0 _) rfl inX9 (by decide) rfl wd_984 rfl ?_
        refine Ok.iconst (pc' := 48) in_3 dX9_whiles_47 rfl ?_
        refine Ok.iload_n (pc' := 49) rfl dX9_whiles_48 rfl ?_
        obtain ⟨q4, K⟩ := K
        refine Ok.imul (pc' := 50) dX9_whiles_49 rfl q4 ?_
        refine Ok.iconst (pc' := 51) in_1 dX9_whiles_50 rfl ?_
        obtain ⟨q5, K⟩ := K
        refine Ok.iadd (pc' := 52) dX9_whiles_51 rfl q5 ?_
        obtain ⟨k6, e6, q6, K⟩ := K
        refine Ok.iald (pc' := 53) (z := h.1 3 k6) dX9_whiles_52 rfl (shM_3 _) (by decide) e6 q6 rfl ?_
        refine Ok.callV (pc' := 56) (av := [pI (h.1 3 k6)]) (rest := []) dX9_whiles_53 rfl (by decide) cvX9_whiles_211 (shM_0 _) rfl rfl rfl (leb rfl) (leb rfl) K (fun r_ h2 K => ?_)
        show Ok shM 0 0 mX9_whiles 56 [some (pR 0), some (pI f), some (pI s0), some (pI phase), some (pI t)] [] h2 Post
        refine Ok.goto (tgt := 75) dX9_whiles_56 rfl ?_
        exact Ok.vret dX9_whiles_75 rfl (by decide) K
      · replace K := K.2 c3
        refine Ok.aload_n (pc' := 30) rfl dX9_whiles_29 rfl ?_
        refine Ok.iconst (pc' := 31) in_0 dX9_whiles_30 rfl ?_
        refine Ok.callV (pc' := 34) (av := [pI 0]) (rest := []) dX9_whiles_31 rfl (by decide) cvX9_whiles_205 (shM_0 _) rfl rfl rfl (leb rfl) (leb rfl) K (fun r_ h3 K => ?_)
        show Ok shM 0 0 mX9_whiles 34 [some (pR 0), some (pI f), some (pI s0), some (pI phase), some (pI t)] [] h3 Post
        refine Ok.goto (tgt := 75) dX9_whiles_34 rfl ?_
        exact Ok.vret dX9_whiles_75 rfl (by decide) K
  · replace K := K.2 c1
    refine Ok.aload_n (pc' := 5) rfl dX9_whiles_4 rfl ?_
    refine Ok.aload_n (pc' := 6) rfl dX9_whiles_5 rfl ?_
    refine Ok.getR (pc' := 9) (k := 3) dX9_whiles_6 rfl (shM_0 _) rfl inX9 (by decide) rfl wd_984 rfl ?_
    refine Ok.iconst (pc' := 10) in_3 dX9_whiles_9 rfl ?_
    refine Ok.iload_n (pc' := 11) rfl dX9_whiles_10 rfl ?_
    obtain ⟨q2, K⟩ := K
    refine Ok.imul (pc' := 12) dX9_whiles_11 rfl q2 ?_
    obtain ⟨k3, e3, q3, K⟩ := K
    refine Ok.iald (pc' := 13) (z := h.1 3 k3) dX9_whiles_12 rfl (shM_3 _) (by decide) e3 q3 rfl ?_
    refine Ok.callV (pc' := 16) (av := [pI (h.1 3 k3)]) (rest := []) dX9_whiles_13 rfl (by decide) cvX9_whiles_211 (shM_0 _) rfl rfl rfl (leb rfl) (leb rfl) K (fun r_ h4 K => ?_)
    show Ok shM 0 0 mX9_whiles 16 [some (pR 0), some (pI f), some (pI s0), some (pI phase), some (pI t)] [] h4 Post
    refine Ok.goto (tgt := 75) dX9_whiles_16 rfl ?_
    exact Ok.vret dX9_whiles_75 rfl (by decide) K
theorem sX9_does_0 {s0 x y : Int} {h : Hp} {Post : Int → Hp → Prop}
    (K : ∃ k1 : Nat, s0 = (k1 : Int) ∧ k1 < 600 ∧ (((h.1 1 k1 = 2) → ((¬ h.1 2 k1 = 3) → Cl shM mX9_worked [pI (h.1 2 k1), pI x, pI y] h (fun r1 h1 => Cl shM mX9_ends [pR 0, pI r1] h1 (fun _ h2 => Post 0 h2))) ∧ ((h.1 2 k1 = 3) → ((¬ y = 0) → Cl shM mX9_worked [pI (h.1 2 k1), pI x, pI y] h (fun r3 h3 => Cl shM mX9_ends [pR 0, pI r3] h3 (fun _ h4 => Post 0 h4))) ∧ ((y = 0) → Cl shM mX9_refuses [pR 0, pI 1, pI s0] h (fun _ h5 => Post 0 h5)))) ∧ ((h.1 1 k1 = 4) → inR ((h.2.1 0 22 - 1)) ∧ (inR ((40 * (h.2.1 0 22 - 1))) ∧ (inR (((40 * (h.2.1 0 22 - 1)) + h.1 2 k1)) ∧ (∃ k6 : Nat, ((40 * (h.2.1 0 22 - 1)) + h.1 2 k1) = (k6 : Int) ∧ k6 < 520 ∧ (Cl shM mX9_ends [pR 0, pI x] (hA h 18 k6 x) (fun _ h6 => Post 0 h6)))))) ∧ ((h.1 1 k1 = 5) → Cl shM mX9_ends [pR 0, pI y] h (fun _ h7 => Post 0 h7)) ∧ ((h.1 1 k1 = 7) → Cl shM mX9_leaves [pR 0, pI x] h (fun _ h8 => Post 0 h8)) ∧ ((h.1 1 k1 = 11) → Cl shM mX9_ends [pR 0, pI x] h (fun _ h9 => Post 0 h9)) ∧ ((h.1 1 k1 < 2 ∨ 11 < h.1 1 k1 ∨ h.1 1 k1 = 3 ∨ h.1 1 k1 = 6 ∨ h.1 1 k1 = 8 ∨ h.1 1 k1 = 9 ∨ h.1 1 k1 = 10) → Cl shM mX9_in [pL x, pL 0, pL 7] h (fun r10 h10 => ((¬ r10 = 0) → ((¬ h10.1 1 k1 = 9) → ∃ k5 : Nat, x = (k5 : Int) ∧ k5 < 8 ∧ (Cl shM mX9_ends [pR 0, pI y] (hA h10 8 k5 y) (fun _ h11 => Post 0 h11))) ∧ ((h10.1 1 k1 = 9) → ∃ k5 : Nat, x = (k5 : Int) ∧ k5 < 8 ∧ (Cl shM mX9_ends [pR 0, pI (h10.1 8 k5)] h10 (fun _ h12 => Post 0 h12)))) ∧ ((r10 = 0) → Cl shM mX9_refuses [pR 0, pI 2, pI s0] h10 (fun _ h13 => Post 0 h13)))))) :
    Cl shM mX9_does [pR 0, pI s0, pI x, pI y] h Post := by
  show Ok shM 0 0 mX9_does 0 [some (pR 0), some (pI s0), some (pI x), some (pI y)] [] h Post
  refine Ok.aload_n (pc' := 1) rfl dX9_does_0 rfl ?_
  refine Ok.getR (pc' := 4) (k := 1) dX9_does_1 rfl (shM_0 _) rfl inX9 (by decide) rfl wd_982 rfl ?_
  refine Ok.iload_n (pc' := 5) rfl dX9_does_4 rfl ?_
  obtain ⟨k1, e1, q1, K⟩ := K
  refine Ok.iald (pc' := 6) (z := h.1 1 k1) dX9_does_5 rfl (shM_1 _) (by decide) e1 q1 rfl ?_
  obtain ⟨Kc2_0, Kc2_1, Kc2_2, Kc2_3, Kc2_4, Kc2_5⟩ := K
  refine Ok.tsw dX9_does_6 rfl ⟨by decide, by decide⟩ (fun tgt ht => ?_)
  have hx : (h.1 1 k1 = 2) ∨ (h.1 1 k1 = 4) ∨ (h.1 1 k1 = 5) ∨ (h.1 1 k1 = 7) ∨ (h.1 1 k1 = 11) ∨ (h.1 1 k1 < 2 ∨ 11 < h.1 1 k1 ∨ h.1 1 k1 = 3 ∨ h.1 1 k1 = 6 ∨ h.1 1 k1 = 8 ∨ h.1 1 k1 = 9 ∨ h.1 1 k1 = 10) := by omega
  rcases hx with c2 | c2 | c2 | c2 | c2 | c2
  · obtain rfl : 60 = tgt := by rw [c2] at ht; exact Int.ofNat.inj ht
    have K := Kc2_0 c2
    refine Ok.aload_n (pc' := 61) rfl dX9_does_60 rfl ?_
    refine Ok.getR (pc' := 64) (k := 2) dX9_does_61 rfl (shM_0 _) rfl inX9 (by decide) rfl wd_983 rfl ?_
    refine Ok.iload_n (pc' := 65) rfl dX9_does_64 rfl ?_
    refine Ok.iald (pc' := 66) (z := h.1 2 k1) dX9_does_65 rfl (shM_2 _) (by decide) e1 q1 rfl ?_
    refine Ok.iconst (pc' := 67) in_3 dX9_does_66 rfl ?_
    refine Ok.icmp_ne (tgt := 83) dX9_does_67 rfl rfl (fun c3 => ?_) (fun c3 => ?_)
    · replace K := K.1 c3
      refine Ok.aload_n (pc' := 84) rfl dX9_does_83 rfl ?_
      refine Ok.aload_n (pc' := 85) rfl dX9_does_84 rfl ?_
      refine Ok.getR (pc' := 88) (k := 2) dX9_does_85 rfl (shM_0 _) rfl inX9 (by decide) rfl wd_983 rfl ?_
      refine Ok.iload_n (pc' := 89) rfl dX9_does_88 rfl ?_
      refine Ok.iald (pc' := 90) (z := h.1 2 k1) dX9_does_89 rfl (shM_2 _) (by decide) e1 q1 rfl ?_
      refine Ok.iload_n (pc' := 91) rfl dX9_does_90 rfl ?_
      refine Ok.iload_n (pc' := 92) rfl dX9_does_91 rfl ?_
      refine Ok.callS (pc' := 95) (av := [pI (h.1 2 k1), pI x, pI y]) (rest := [pR 0]) dX9_does_92 rfl (by decide) cvX9_does_224 rfl rfl (leb rfl) (leb rfl) K (fun r1 h1 K => ?_)
      show Ok shM 0 0 mX9_does 95 [some (pR 0), some (pI s0), some (pI x), some (pI y)] [pI r1, pR 0] h1 Post
      refine Ok.callV (pc' := 98) (av := [pI r1]) (rest := []) dX9_does_95 rfl (by decide) cvX9_does_205 (shM_0 _) rfl rfl rfl (leb rfl) (leb rfl) K (fun r_ h2 K => ?_)
      show Ok shM 0 0 mX9_does 98 [some (pR 0), some (pI s0), some (pI x), some (pI y)] [] h2 Post
      refine Ok.goto (tgt := 212) dX9_does_98 rfl ?_
      exact Ok.vret dX9_does_212 rfl (by decide) K
    · replace K := K.2 c3
      refine Ok.iload_n (pc' := 71) rfl dX9_does_70 rfl ?_
      refine Ok.if_ne (tgt := 83) dX9_does_71 rfl rfl (fun c4 => ?_) (fun c4 => ?_)
      · replace K := K.1 c4
        refine Ok.aload_n (pc' := 84) rfl dX9_does_83 rfl ?_
        refine Ok.aload_n (pc' := 85) rfl dX9_does_84 rfl ?_
        refine Ok.getR (pc' := 88) (k := 2) dX9_does_85 rfl (shM_0 _) rfl inX9 (by decide) rfl wd_983 rfl ?_
        refine Ok.iload_n (pc' := 89) rfl dX9_does_88 rfl ?_
        refine Ok.iald (pc' := 90) (z := h.1 2 k1) dX9_does_89 rfl (shM_2 _) (by decide) e1 q1 rfl ?_
        refine Ok.iload_n (pc' := 91) rfl dX9_does_90 rfl ?_
        refine Ok.iload_n (pc' := 92) rfl dX9_does_91 rfl ?_
        refine Ok.callS (pc' := 95) (av := [pI (h.1 2 k1), pI x, pI y]) (rest := [pR 0]) dX9_does_92 rfl (by decide) cvX9_does_224 rfl rfl (leb rfl) (leb rfl) K (fun r3 h3 K => ?_)
        show Ok shM 0 0 mX9_does 95 [some (pR 0), some (pI s0), some (pI x), some (pI y)] [pI r3, pR 0] h3 Post
        refine Ok.callV (pc' := 98) (av := [pI r3]) (rest := []) dX9_does_95 rfl (by decide) cvX9_does_205 (shM_0 _) rfl rfl rfl (leb rfl) (leb rfl) K (fun r_ h4 K => ?_)
        show Ok shM 0 0 mX9_does 98 [some (pR 0), some (pI s0), some (pI x), some (pI y)] [] h4 Post
        refine Ok.goto (tgt := 212) dX9_does_98 rfl ?_
        exact Ok.vret dX9_does_212 rfl (by decide) K
      · replace K := K.2 c4
        refine Ok.aload_n (pc' := 75) rfl dX9_does_74 rfl ?_
        refine Ok.iconst (pc' := 76) in_1 dX9_does_75 rfl ?_
        refine Ok.iload_n (pc' := 77) rfl dX9_does_76 rfl ?_
        refine Ok.callV (pc' := 80) (av := [pI 1, pI s0]) (rest := []) dX9_does_77 rfl (by decide) cvX9_does_181 (shM_0 _) rfl rfl rfl (leb rfl) (leb rfl) K (fun r_ h5 K => ?_)
        show Ok shM 0 0 mX9_does 80 [some (pR 0), some (pI s0), some (pI x), some (pI y)] [] h5 Post
        refine Ok.goto (tgt := 212) dX9_does_80 rfl ?_
        exact Ok.vret dX9_does_212 rfl (by decide) K
  · obtain rfl : 101 = tgt := by rw [c2] at ht; exact Int.ofNat.inj ht
    have K := Kc2_1 c2
    refine Ok.aload_n (pc' := 102) rfl dX9_does_101 rfl ?_
    refine Ok.getR (pc' := 105) (k := 21) dX9_does_102 rfl (shM_0 _) rfl inX9 (by decide) rfl wd_1002 rfl ?_
    refine Ok.bipush (pc' := 107) ⟨by decide, by decide⟩ dX9_does_105 rfl ?_
    refine Ok.aload_n (pc' := 108) rfl dX9_does_107 rfl ?_
    refine Ok.getI (pc' := 111) (z := h.2.1 0 22) (k := 22) dX9_does_108 rfl (shM_0 _) rfl inX9 (by decide) rfl rfl wd_1003 rfl ?_
    refine Ok.iconst (pc' := 112) in_1 dX9_does_111 rfl ?_
    obtain ⟨q3, K⟩ := K
    refine Ok.isub (pc' := 113) dX9_does_112 rfl q3 ?_
    obtain ⟨q4, K⟩ := K
    refine Ok.imul (pc' := 114) dX9_does_113 rfl q4 ?_
    refine Ok.aload_n (pc' := 115) rfl dX9_does_114 rfl ?_
    refine Ok.getR (pc' := 118) (k := 2) dX9_does_115 rfl (shM_0 _) rfl inX9 (by decide) rfl wd_983 rfl ?_
    refine Ok.iload_n (pc' := 119) rfl dX9_does_118 rfl ?_
    refine Ok.iald (pc' := 120) (z := h.1 2 k1) dX9_does_119 rfl (shM_2 _) (by decide) e1 q1 rfl ?_
    obtain ⟨q5, K⟩ := K
    refine Ok.iadd (pc' := 121) dX9_does_120 rfl q5 ?_
    refine Ok.iload_n (pc' := 122) rfl dX9_does_121 rfl ?_
    obtain ⟨k6, e6, q6, K⟩ := K
    refine Ok.iast (pc' := 123) dX9_does_122 rfl (shM_18 _) (by decide) e6 q6 ?_
    refine Ok.aload_n (pc' := 124) rfl dX9_does_123 rfl ?_
    refine Ok.iload_n (pc' := 125) rfl dX9_does_124 rfl ?_
    refine Ok.callV (pc' := 128) (av := [pI x]) (rest := []) dX9_does_125 rfl (by decide) cvX9_does_205 (shM_0 _) rfl rfl rfl (leb rfl) (leb rfl) K (fun r_ h6 K => ?_)
    show Ok shM 0 0 mX9_does 128 [some (pR 0), some (pI s0), some (pI x), some (pI y)] [] h6 Post
    refine Ok.goto (tgt := 212) dX9_does_128 rfl ?_
    exact Ok.vret dX9_does_212 rfl (by decide) K
  · obtain rfl : 131 = tgt := by rw [c2] at ht; exact Int.ofNat.inj ht
    have K := Kc2_2 c2
    refine Ok.aload_n (pc' := 132) rfl dX9_does_131 rfl ?_
    refine Ok.iload_n (pc' := 133) rfl dX9_does_132 rfl ?_
    refine Ok.callV (pc' := 136) (av := [pI y]) (rest := []) dX9_does_133 rfl (by decide) cvX9_does_205 (shM_0 _) rfl rfl rfl (leb rfl) (leb rfl) K (fun r_ h7 K => ?_)
    show Ok shM 0 0 mX9_does 136 [some (pR 0), some (pI s0), some (pI x), some (pI y)] [] h7 Post
    refine Ok.goto (tgt := 212) dX9_does_136 rfl ?_
    exact Ok.vret dX9_does_212 rfl (by decide) K
  · obtain rfl : 139 = tgt := by rw [c2] at ht; exact Int.ofNat.inj ht
    have K := Kc2_3 c2
    refine Ok.aload_n (pc' := 140) rfl dX9_does_139 rfl ?_
    refine Ok.iload_n (pc' := 141) rfl dX9_does_140 rfl ?_
    refine Ok.callV (pc' := 144) (av := [pI x]) (rest := []) dX9_does_141 rfl (by decide) cvX9_does_227 (shM_0 _) rfl rfl rfl (leb rfl) (leb rfl) K (fun r_ h8 K => ?_)
    show Ok shM 0 0 mX9_does 144 [some (pR 0), some (pI s0), some (pI x), some (pI y)] [] h8 Post
    refine Ok.goto (tgt := 212) dX9_does_144 rfl ?_
    exact Ok.vret dX9_does_212 rfl (by decide) K
  · obtain rfl : 147 = tgt := by rw [c2] at ht; exact Int.ofNat.inj ht
    have K := Kc2_4 c2
    refine Ok.aload_n (pc' := 148) rfl dX9_does_147 rfl ?_
    refine Ok.iload_n (pc' := 149) rfl dX9_does_148 rfl ?_
    refine Ok.callV (pc' := 152) (av := [pI x]) (rest := []) dX9_does_149 rfl (by decide) cvX9_does_205 (shM_0 _) rfl rfl rfl (leb rfl) (leb rfl) K (fun r_ h9 K => ?_)
    show Ok shM 0 0 mX9_does 152 [some (pR 0), some (pI s0), some (pI x), some (pI y)] [] h9 Post
    refine Ok.goto (tgt := 212) dX9_does_152 rfl ?_
    exact Ok.vret dX9_does_212 rfl (by decide) K
  · obtain rfl : 155 = tgt := by
      rcases c2 with q | q | q | q | q | q | q
      · rw [swT_out (Or.inl q)] at ht; exact Int.ofNat.inj ht
      · rw [swT_out (Or.inr q)] at ht; exact Int.ofNat.inj ht
      · rw [q] at ht; exact Int.ofNat.inj ht
      · rw [q] at ht; exact Int.ofNat.inj ht
      · rw [q] at ht; exact Int.ofNat.inj ht
      · rw [q] at ht; exact Int.ofNat.inj ht
      · rw [q] at ht; exact Int.ofNat.inj ht
    have K := Kc2_5 c2
    refine Ok.iload_n (pc' := 156) rfl dX9_does_155 rfl ?_
    refine Ok.i2l (pc' := 157) dX9_does_156 rfl ?_
    refine Ok.lconst (n := 0) (pc' := 158) ⟨by decide, by decide⟩ rfl dX9_does_157 rfl ?_
    refine Ok.ldc2 (n := 7) (pc' := 161) ⟨by decide, by decide⟩ wd_1297 dX9_does_158 rfl ?_
    refine Ok.callS (pc' := 164) (av := [pL x, pL 0, pL 7]) (rest := []) dX9_does_161 rfl (by decide) cvX9_does_103 rfl rfl (leb rfl) (leb rfl) K (fun r10 h10 K => ?_)
    show Ok shM 0 0 mX9_does 164 [some (pR 0), some (pI s0), some (pI x), some (pI y)] [pI r10] h10 Post
    refine Ok.if_ne (tgt := 176) dX9_does_164 rfl rfl (fun c3 => ?_) (fun c3 => ?_)
    · replace K := K.1 c3
      refine Ok.aload_n (pc' := 177) rfl dX9_does_176 rfl ?_
      refine Ok.getR (pc' := 180) (k := 1) dX9_does_177 rfl (shM_0 _) rfl inX9 (by decide) rfl wd_982 rfl ?_
      refine Ok.iload_n (pc' := 181) rfl dX9_does_180 rfl ?_
      refine Ok.iald (pc' := 182) (z := h10.1 1 k1) dX9_does_181 rfl (shM_1 _) (by decide) e1 q1 rfl ?_
      refine Ok.bipush (pc' := 184) ⟨by decide, by decide⟩ dX9_does_182 rfl ?_
      refine Ok.icmp_ne (tgt := 200) dX9_does_184 rfl rfl (fun c4 => ?_) (fun c4 => ?_)
      · replace K := K.1 c4
        refine Ok.aload_n (pc' := 201) rfl dX9_does_200 rfl ?_
        refine Ok.getR (pc' := 204) (k := 9) dX9_does_201 rfl (shM_0 _) rfl inX9 (by decide) rfl wd_990 rfl ?_
        refine Ok.iload_n (pc' := 205) rfl dX9_does_204 rfl ?_
        refine Ok.iload_n (pc' := 206) rfl dX9_does_205 rfl ?_
        obtain ⟨k5, e5, q5, K⟩ := K
        refine Ok.iast (pc' := 207) dX9_does_206 rfl (shM_8 _) (by decide) e5 q5 ?_
        refine Ok.aload_n (pc' := 208) rfl dX9_does_207 rfl ?_
        refine Ok.iload_n (pc' := 209) rfl dX9_does_208 rfl ?_
        refine Ok.callV (pc' := 212) (av := [pI y]) (rest := []) dX9_does_209 rfl (by decide) cvX9_does_205 (shM_0 _) rfl rfl rfl (leb rfl) (leb rfl) K (fun r_ h11 K => ?_)
        show Ok shM 0 0 mX9_does 212 [some (pR 0), some (pI s0), some (pI x), some (pI y)] [] h11 Post
        exact Ok.vret dX9_does_212 rfl (by decide) K
      · replace K := K.2 c4
        refine Ok.aload_n (pc' := 188) rfl dX9_does_187 rfl ?_
        refine Ok.aload_n (pc' := 189) rfl dX9_does_188 rfl ?_
        refine Ok.getR (pc' := 192) (k := 9) dX9_does_189 rfl (shM_0 _) rfl inX9 (by decide) rfl wd_990 rfl ?_
        refine Ok.iload_n (pc' := 193) rfl dX9_does_192 rfl ?_
        obtain ⟨k5, e5, q5, K⟩ := K
        refine Ok.iald (pc' := 194) (z := h10.1 8 k5) dX9_does_193 rfl (shM_8 _) (by decide) e5 q5 rfl ?_
        refine Ok.callV (pc' := 197) (av := [pI (h10.1 8 k5)]) (rest := []) dX9_does_194 rfl (by decide) cvX9_does_205 (shM_0 _) rfl rfl rfl (leb rfl) (leb rfl) K (fun r_ h12 K => ?_)
        show Ok shM 0 0 mX9_does 197 [some (pR 0), some (pI s0), some (pI x), some (pI y)] [] h12 Post
        refine Ok.goto (tgt := 212) dX9_does_197 rfl ?_
        exact Ok.vret dX9_does_212 rfl (by decide) K
    · replace K := K.2 c3
      refine Ok.aload_n (pc' := 168) rfl dX9_does_167 rfl ?_
      refine Ok.iconst (pc' := 169) in_2 dX9_does_168 rfl ?_
      refine Ok.iload_n (pc' := 170) rfl dX9_does_169 rfl ?_
      refine Ok.callV (pc' := 173) (av := [pI 2, pI s0]) (rest := []) dX9_does_170 rfl (by decide) cvX9_does_181 (shM_0 _) rfl rfl rfl (leb rfl) (leb rfl) K (fun r_ h13 K => ?_)
      show Ok shM 0 0 mX9_does 173 [some (pR 0), some (pI s0), some (pI x), some (pI y)] [] h13 Post
      refine Ok.goto (tgt := 212) dX9_does_173 rfl ?_
      exact Ok.vret dX9_does_212 rfl (by decide) K
theorem sX9_run_0 {r a b c0 has : Int} {h : Hp} {Post : Int → Hp → Prop}
    (K : Cl shM mX9_isRoutine [pR 0, pI r] h (fun r1 h1 => ((r1 = 0) → Post (-1) h1) ∧ ((¬ r1 = 0) → Cl shM mX9_in [pL has, pL 0, pL 2000] h1 (fun r2 h2 => ((¬ r2 = 0) → ((h2.2.1 0 30 < 60000) → ∃ k4 : Nat, r = (k4 : Int) ∧ k4 < 10 ∧ (((¬ h2.1 7 k4 = (-4)) → Ok shM 0 0 mX9_run 103 [some (pR 0), some (pI r), some (pI a), some (pI b), some (pI c0), none, some (pI 0)] [] (hI (hI (hI (hI (hI (hI (hI (hI h2 0 31 1) 0 25 0) 0 26 0) 0 24 0) 0 27 0) 0 28 (-4)) 0 29 0) 0 23 has) Post) ∧ ((h2.1 7 k4 = (-4)) → Cl shM mX9_refuses [pR 0, pI 3, pI (-4)] (hI (hI (hI (hI (hI (hI (hI (hI h2 0 31 1) 0 25 0) 0 26 0) 0 24 0) 0 27 0) 0 28 (-4)) 0 29 0) 0 23 has) (fun _ h3 => Post (h3.2.1 0 25) h3)))) ∧ ((¬ h2.2.1 0 30 < 60000) → Post (-3) h2)) ∧ ((r2 = 0) → Post (-1) h2))))) :
    Cl shM mX9_run [pR 0, pI r, pI a, pI b, pI c0, pI has] h Post := by
  show Ok shM 0 0 mX9_run 0 [some (pR 0), some (pI r), some (pI a), some (pI b), some (pI c0), some (pI has), none] [] h Post
  refine Ok.aload_n (pc' := 1) rfl dX9_run_0 rfl ?_
  refine Ok.iload_n (pc' := 2) rfl dX9_run_1 rfl ?_
  refine Ok.callV (pc' := 5) (av := [pI r]) (rest := []) dX9_run_2 rfl (by decide) cvX9_run_145 (shM_0 _) rfl rfl rfl (leb rfl) (leb rfl) K (fun r1 h1 K => ?_)
  show Ok shM 0 0 mX9_run 5 [some (pR 0), some (pI r), some (pI a), some (pI b), some (pI c0), some (pI has), none] [pI r1] h1 Post
  refine Ok.if_eq (tgt := 21) dX9_run_5 rfl rfl (fun c1 => ?_) (fun c1 => ?_)
  · replace K := K.1 c1
    refine Ok.iconst (pc' := 22) in_m1 dX9_run_21 rfl ?_
    exact Ok.iret dX9_run_22 rfl (by decide) K
  · replace K := K.2 c1
    refine Ok.iload (pc' := 10) rfl dX9_run_8 rfl ?_
    refine Ok.i2l (pc' := 11) dX9_run_10 rfl ?_
    refine Ok.lconst (n := 0) (pc' := 12) ⟨by decide, by decide⟩ rfl dX9_run_11 rfl ?_
    refine Ok.ldc2 (n := 2000) (pc' := 15) ⟨by decide, by decide⟩ wd_1249 dX9_run_12 rfl ?_
    refine Ok.callS (pc' := 18) (av := [pL has, pL 0, pL 2000]) (rest := []) dX9_run_15 rfl (by decide) cvX9_run_103 rfl rfl (leb rfl) (leb rfl) K (fun r2 h2 K => ?_)
    show Ok shM 0 0 mX9_run 18 [some (pR 0), some (pI r), some (pI a), some (pI b), some (pI c0), some (pI has), none] [pI r2] h2 Post
    refine Ok.if_ne (tgt := 23) dX9_run_18 rfl rfl (fun c2 => ?_) (fun c2 => ?_)
    · replace K := K.1 c2
      refine Ok.aload_n (pc' := 24) rfl dX9_run_23 rfl ?_
      refine Ok.getI (pc' := 27) (z := h2.2.1 0 30) (k := 30) dX9_run_24 rfl (shM_0 _) rfl inX9 (by decide) rfl rfl wd_1011 rfl ?_
      refine Ok.ldc (n := 60000) (pc' := 29) ⟨by decide, by decide⟩ wd_1250 (by decide) dX9_run_27 rfl ?_
      refine Ok.icmp_lt (tgt := 35) dX9_run_29 rfl rfl (fun c3 => ?_) (fun c3 => ?_)
      · replace K := K.1 c3
        refine Ok.aload_n (pc' := 36) rfl dX9_run_35 rfl ?_
        refine Ok.iconst (pc' := 37) in_1 dX9_run_36 rfl ?_
        refine Ok.putI (pc' := 40) (k := 31) dX9_run_37 rfl (shM_0 _) rfl inX9 tyX9 tyX9_ok nmX9 (by decide) rfl wd_1012 rfl rfl (Or.inr ⟨rfl, Or.inr rfl⟩) ?_
        refine Ok.aload_n (pc' := 41) rfl dX9_run_40 rfl ?_
        refine Ok.iconst (pc' := 42) in_0 dX9_run_41 rfl ?_
        refine Ok.putI (pc' := 45) (k := 25) dX9_run_42 rfl (shM_0 _) rfl inX9 tyX9 tyX9_ok nmX9 (by decide) rfl wd_1006 rfl rfl (Or.inl rfl) ?_
        refine Ok.aload_n (pc' := 46) rfl dX9_run_45 rfl ?_
        refine Ok.iconst (pc' := 47) in_0 dX9_run_46 rfl ?_
        refine Ok.putI (pc' := 50) (k := 26) dX9_run_47 rfl (shM_0 _) rfl inX9 tyX9 tyX9_ok nmX9 (by decide) rfl wd_1007 rfl rfl (Or.inl rfl) ?_
        refine Ok.aload_n (pc' := 51) rfl dX9_run_50 rfl ?_
        refine Ok.iconst (pc' := 52) in_0 dX9_run_51 rfl ?_
        refine Ok.putI (pc' := 55) (k := 24) dX9_run_52 rfl (shM_0 _) rfl inX9 tyX9 tyX9_ok nmX9 (by decide) rfl wd_1005 rfl rfl (Or.inl rfl) ?_
        refine Ok.aload_n (pc' := 56) rfl dX9_run_55 rfl ?_
        refine Ok.iconst (pc' := 57) in_0 dX9_run_56 rfl ?_
        refine Ok.putI (pc' := 60) (k := 27) dX9_run_57 rfl (shM_0 _) rfl inX9 tyX9 tyX9_ok nmX9 (by decide) rfl wd_1008 rfl rfl (Or.inl rfl) ?_
        refine Ok.aload_n (pc' := 61) rfl dX9_run_60 rfl ?_
        refine Ok.bipush (pc' := 63) ⟨by decide, by decide⟩ dX9_run_61 rfl ?_
        refine Ok.putI (pc' := 66) (k := 28) dX9_run_63 rfl (shM_0 _) rfl inX9 tyX9 tyX9_ok nmX9 (by decide) rfl wd_1009 rfl rfl (Or.inl rfl) ?_
        refine Ok.aload_n (pc' := 67) rfl dX9_run_66 rfl ?_
        refine Ok.iconst (pc' := 68) in_0 dX9_run_67 rfl ?_
        refine Ok.putI (pc' := 71) (k := 29) dX9_run_68 rfl (shM_0 _) rfl inX9 tyX9 tyX9_ok nmX9 (by decide) rfl wd_1010 rfl rfl (Or.inr ⟨rfl, Or.inl rfl⟩) ?_
        refine Ok.aload_n (pc' := 72) rfl dX9_run_71 rfl ?_
        refine Ok.iload (pc' := 74) rfl dX9_run_72 rfl ?_
        refine Ok.putI (pc' := 77) (k := 23) dX9_run_74 rfl (shM_0 _) rfl inX9 tyX9 tyX9_ok nmX9 (by decide) rfl wd_1004 rfl rfl (Or.inl rfl) ?_
        refine Ok.aload_n (pc' := 78) rfl dX9_run_77 rfl ?_
        refine Ok.getR (pc' := 81) (k := 8) dX9_run_78 rfl (shM_0 _) rfl inX9 (by decide) rfl wd_989 rfl ?_
        refine Ok.iload_n (pc' := 82) rfl dX9_run_81 rfl ?_
        obtain ⟨k4, e4, q4, K⟩ := K
        refine Ok.iald (pc' := 83) (z := h2.1 7 k4) dX9_run_82 rfl (shM_7 _) (by decide) e4 q4 rfl ?_
        refine Ok.bipush (pc' := 85) ⟨by decide, by decide⟩ dX9_run_83 rfl ?_
        refine Ok.icmp_ne (tgt := 100) dX9_run_85 rfl rfl (fun c5 => ?_) (fun c5 => ?_)
        · replace K := K.1 c5
          refine Ok.iconst (pc' := 101) in_0 dX9_run_100 rfl ?_
          refine Ok.istore (pc' := 103) (ls' := [some (pR 0), some (pI r), some (pI a), some (pI b), some (pI c0), some (pI has), some (pI 0)]) dX9_run_101 rfl (by decide) rfl rfl ?_
          exact Ok.fl (ls' := [some (pR 0), some (pI r), some (pI a), some (pI b), some (pI c0), none, some (pI 0)]) K ⟨rfl, rfl, rfl, rfl, rfl, rfl, trivial⟩
        · replace K := K.2 c5
          refine Ok.aload_n (pc' := 89) rfl dX9_run_88 rfl ?_
          refine Ok.iconst (pc' := 90) in_3 dX9_run_89 rfl ?_
          refine Ok.bipush (pc' := 92) ⟨by decide, by decide⟩ dX9_run_90 rfl ?_
          refine Ok.callV (pc' := 95) (av := [pI 3, pI (-4)]) (rest := []) dX9_run_92 rfl (by decide) cvX9_run_181 (shM_0 _) rfl rfl rfl (leb rfl) (leb rfl) K (fun r_ h3 K => ?_)
          show Ok shM 0 0 mX9_run 95 [some (pR 0), some (pI r), some (pI a), some (pI b), some (pI c0), some (pI has), none] [] h3 Post
          refine Ok.aload_n (pc' := 96) rfl dX9_run_95 rfl ?_
          refine Ok.getI (pc' := 99) (z := h3.2.1 0 25) (k := 25) dX9_run_96 rfl (shM_0 _) rfl inX9 (by decide) rfl rfl wd_1006 rfl ?_
          exact Ok.iret dX9_run_99 rfl (by decide) K
      · replace K := K.2 c3
        refine Ok.bipush (pc' := 34) ⟨by decide, by decide⟩ dX9_run_32 rfl ?_
        exact Ok.iret dX9_run_34 rfl (by decide) K
    · replace K := K.2 c2
      refine Ok.iconst (pc' := 22) in_m1 dX9_run_21 rfl ?_
      exact Ok.iret dX9_run_22 rfl (by decide) K
theorem sX9_run_103 {r a b c0 v6 : Int} {h : Hp} {Post : Int → Hp → Prop}
    (K : ((40 ≤ v6) → ∃ k2 : Nat, r = (k2 : Int) ∧ k2 < 10 ∧ (Cl shM mX9_begins [pR 0, pI (h.1 7 k2)] (hI (hI (hI h 0 22 1) 0 27 1) 0 16 0) (fun _ h1 => Ok shM 0 0 mX9_run 184 [some (pR 0), none, none, none, none, none, none] [] h1 Post))) ∧ ((¬ 40 ≤ v6) → ∃ k2 : Nat, r = (k2 : Int) ∧ k2 < 10 ∧ (((v6 < h.1 6 k2) → ((¬ v6 = 0) → ((¬ v6 = 1) → ∃ k6 : Nat, v6 = (k6 : Int) ∧ k6 < 520 ∧ (inR ((v6 + 1)) ∧ (Ok shM 0 0 mX9_run 103 [some (pR 0), some (pI r), some (pI a), some (pI b), some (pI c0), none, some (pI (v6 + 1))] [] (hA h 18 k6 c0) Post))) ∧ ((v6 = 1) → ∃ k6 : Nat, v6 = (k6 : Int) ∧ k6 < 520 ∧ (inR ((v6 + 1)) ∧ (Ok shM 0 0 mX9_run 103 [some (pR 0), some (pI r), some (pI a), some (pI b), some (pI c0), none, some (pI (v6 + 1))] [] (hA h 18 k6 b) Post)))) ∧ ((v6 = 0) → ∃ k5 : Nat, v6 = (k5 : Int) ∧ k5 < 520 ∧ (inR ((v6 + 1)) ∧ (Ok shM 0 0 mX9_run 103 [some (pR 0), some (pI r), some (pI a), some (pI b), some (pI c0), none, some (pI (v6 + 1))] [] (hA h 18 k5 a) Post)))) ∧ ((¬ v6 < h.1 6 k2) → ∃ k4 : Nat, v6 = (k4 : Int) ∧ k4 < 520 ∧ (inR ((v6 + 1)) ∧ (Ok shM 0 0 mX9_run 103 [some (pR 0), some (pI r), some (pI a), some (pI b), some (pI c0), none, some (pI (v6 + 1))] [] (hA h 18 k4 0) Post)))))) :
    Ok shM 0 0 mX9_run 103 [some (pR 0), some (pI r), some (pI a), some (pI b), some (pI c0), none, some (pI v6)] [] h Post := by
  show Ok shM 0 0 mX9_run 103 [some (pR 0), some (pI r), some (pI a), some (pI b), some (pI c0), none, some (pI v6)] [] h Post
  refine Ok.iload (pc' := 105) rfl dX9_run_103 rfl ?_
  refine Ok.bipush (pc' := 107) ⟨by decide, by decide⟩ dX9_run_105 rfl ?_
  refine Ok.icmp_ge (tgt := 159) dX9_run_107 rfl rfl (fun c1 => ?_) (fun c1 => ?_)
  · replace K := K.1 c1
    refine Ok.aload_n (pc' := 160) rfl dX9_run_159 rfl ?_
    refine Ok.iconst (pc' := 161) in_1 dX9_run_160 rfl ?_
    refine Ok.putI (pc' := 164) (k := 22) dX9_run_161 rfl (shM_0 _) rfl inX9 tyX9 tyX9_ok nmX9 (by decide) rfl wd_1003 rfl rfl (Or.inl rfl) ?_
    refine Ok.aload_n (pc' := 165) rfl dX9_run_164 rfl ?_
    refine Ok.iconst (pc' := 166) in_1 dX9_run_165 rfl ?_
    refine Ok.putI (pc' := 169) (k := 27) dX9_run_166 rfl (shM_0 _) rfl inX9 tyX9 tyX9_ok nmX9 (by decide) rfl wd_1008 rfl rfl (Or.inl rfl) ?_
    refine Ok.aload_n (pc' := 170) rfl dX9_run_169 rfl ?_
    refine Ok.iconst (pc' := 171) in_0 dX9_run_170 rfl ?_
    refine Ok.putI (pc' := 174) (k := 16) dX9_run_171 rfl (shM_0 _) rfl inX9 tyX9 tyX9_ok nmX9 (by decide) rfl wd_997 rfl rfl (Or.inl rfl) ?_
    refine Ok.aload_n (pc' := 175) rfl dX9_run_174 rfl ?_
    refine Ok.aload_n (pc' := 176) rfl dX9_run_175 rfl ?_
    refine Ok.getR (pc' := 179) (k := 8) dX9_run_176 rfl (shM_0 _) rfl inX9 (by decide) rfl wd_989 rfl ?_
    refine Ok.iload_n (pc' := 180) rfl dX9_run_179 rfl ?_
    obtain ⟨k2, e2, q2, K⟩ := K
    refine Ok.iald (pc' := 181) (z := h.1 7 k2) dX9_run_180 rfl (shM_7 _) (by decide) e2 q2 rfl ?_
    refine Ok.callV (pc' := 184) (av := [pI (h.1 7 k2)]) (rest := []) dX9_run_181 rfl (by decide) cvX9_run_211 (shM_0 _) rfl rfl rfl (leb rfl) (leb rfl) K (fun r_ h1 K => ?_)
    show Ok shM 0 0 mX9_run 184 [some (pR 0), some (pI r), some (pI a), some (pI b), some (pI c0), none, some (pI v6)] [] h1 Post
    exact Ok.fl (ls' := [some (pR 0), none, none, none, none, none, none]) K ⟨rfl, trivial⟩
  · replace K := K.2 c1
    refine Ok.aload_n (pc' := 111) rfl dX9_run_110 rfl ?_
    refine Ok.getR (pc' := 114) (k := 21) dX9_run_111 rfl (shM_0 _) rfl inX9 (by decide) rfl wd_1002 rfl ?_
    refine Ok.iload (pc' := 116) rfl dX9_run_114 rfl ?_
    refine Ok.iload (pc' := 118) rfl dX9_run_116 rfl ?_
    refine Ok.aload_n (pc' := 119) rfl dX9_run_118 rfl ?_
    refine Ok.getR (pc' := 122) (k := 7) dX9_run_119 rfl (shM_0 _) rfl inX9 (by decide) rfl wd_988 rfl ?_
    refine Ok.iload_n (pc' := 123) rfl dX9_run_122 rfl ?_
    obtain ⟨k2, e2, q2, K⟩ := K
    refine Ok.iald (pc' := 124) (z := h.1 6 k2) dX9_run_123 rfl (shM_6 _) (by decide) e2 q2 rfl ?_
    refine Ok.icmp_lt (tgt := 131) dX9_run_124 rfl rfl (fun c3 => ?_) (fun c3 => ?_)
    · replace K := K.1 c3
      refine Ok.iload (pc' := 133) rfl dX9_run_131 rfl ?_
      refine Ok.if_ne (tgt := 140) dX9_run_133 rfl rfl (fun c4 => ?_) (fun c4 => ?_)
      · replace K := K.1 c4
        refine Ok.iload (pc' := 142) rfl dX9_run_140 rfl ?_
        refine Ok.iconst (pc' := 143) in_1 dX9_run_142 rfl ?_
        refine Ok.icmp_ne (tgt := 150) dX9_run_143 rfl rfl (fun c5 => ?_) (fun c5 => ?_)
        · replace K := K.1 c5
          refine Ok.iload (pc' := 152) rfl dX9_run_150 rfl ?_
          obtain ⟨k6, e6, q6, K⟩ := K
          refine Ok.iast (pc' := 153) dX9_run_152 rfl (shM_18 _) (by decide) e6 q6 ?_
          obtain ⟨q7, K⟩ := K
          refine Ok.iinc (pc' := 156) (ls' := [some (pR 0), some (pI r), some (pI a), some (pI b), some (pI c0), none, some (pI (v6 + 1))]) dX9_run_153 rfl rfl (by decide) rfl rfl q7 ?_
          refine Ok.goto (tgt := 103) dX9_run_156 rfl ?_
          exact K
        · replace K := K.2 c5
          refine Ok.iload_n (pc' := 147) rfl dX9_run_146 rfl ?_
          refine Ok.goto (tgt := 152) dX9_run_147 rfl ?_
          obtain ⟨k6, e6, q6, K⟩ := K
          refine Ok.iast (pc' := 153) dX9_run_152 rfl (shM_18 _) (by decide) e6 q6 ?_
          obtain ⟨q7, K⟩ := K
          refine Ok.iinc (pc' := 156) (ls' := [some (pR 0), some (pI r), some (pI a), some (pI b), some (pI c0), none, some (pI (v6 + 1))]) dX9_run_153 rfl rfl (by decide) rfl rfl q7 ?_
          refine Ok.goto (tgt := 103) dX9_run_156 rfl ?_
          exact K
      · replace K := K.2 c4
        refine Ok.iload_n (pc' := 137) rfl dX9_run_136 rfl ?_
        refine Ok.goto (tgt := 152) dX9_run_137 rfl ?_
        obtain ⟨k5, e5, q5, K⟩ := K
        refine Ok.iast (pc' := 153) dX9_run_152 rfl (shM_18 _) (by decide) e5 q5 ?_
        obtain ⟨q6, K⟩ := K
        refine Ok.iinc (pc' := 156) (ls' := [some (pR 0), some (pI r), some (pI a), some (pI b), some (pI c0), none, some (pI (v6 + 1))]) dX9_run_153 rfl rfl (by decide) rfl rfl q6 ?_
        refine Ok.goto (tgt := 103) dX9_run_156 rfl ?_
        exact K
    · replace K := K.2 c3
      refine Ok.iconst (pc' := 128) in_0 dX9_run_127 rfl ?_
      refine Ok.goto (tgt := 152) dX9_run_128 rfl ?_
      obtain ⟨k4, e4, q4, K⟩ := K
      refine Ok.iast (pc' := 153) dX9_run_152 rfl (shM_18 _) (by decide) e4 q4 ?_
      obtain ⟨q5, K⟩ := K
      refine Ok.iinc (pc' := 156) (ls' := [some (pR 0), some (pI r), some (pI a), some (pI b), some (pI c0), none, some (pI (v6 + 1))]) dX9_run_153 rfl rfl (by decide) rfl rfl q5 ?_
      refine Ok.goto (tgt := 103) dX9_run_156 rfl ?_
      exact K
theorem sX9_run_184 {h : Hp} {Post : Int → Hp → Prop}
    (K : ((¬ h.2.1 0 29 = 0) → inR ((h.2.1 0 30 + h.2.1 0 24)) ∧ (Post (h.2.1 0 25) (hI h 0 30 (h.2.1 0 30 + h.2.1 0 24)))) ∧ ((h.2.1 0 29 = 0) → Cl shM mX9_goesOn [pR 0] h (fun _ h1 => Ok shM 0 0 mX9_run 184 [some (pR 0), none, none, none, none, none, none] [] h1 Post))) :
    Ok shM 0 0 mX9_run 184 [some (pR 0), none, none, none, none, none, none] [] h Post := by
  show Ok shM 0 0 mX9_run 184 [some (pR 0), none, none, none, none, none, none] [] h Post
  refine Ok.aload_n (pc' := 185) rfl dX9_run_184 rfl ?_
  refine Ok.getI (pc' := 188) (z := h.2.1 0 29) (k := 29) dX9_run_185 rfl (shM_0 _) rfl inX9 (by decide) rfl rfl wd_1010 rfl ?_
  refine Ok.if_ne (tgt := 198) dX9_run_188 rfl rfl (fun c1 => ?_) (fun c1 => ?_)
  · replace K := K.1 c1
    refine Ok.aload_n (pc' := 199) rfl dX9_run_198 rfl ?_
    refine Ok.dup (pc' := 200) dX9_run_199 rfl rfl ?_
    refine Ok.getI (pc' := 203) (z := h.2.1 0 30) (k := 30) dX9_run_200 rfl (shM_0 _) rfl inX9 (by decide) rfl rfl wd_1011 rfl ?_
    refine Ok.aload_n (pc' := 204) rfl dX9_run_203 rfl ?_
    refine Ok.getI (pc' := 207) (z := h.2.1 0 24) (k := 24) dX9_run_204 rfl (shM_0 _) rfl inX9 (by decide) rfl rfl wd_1005 rfl ?_
    obtain ⟨q2, K⟩ := K
    refine Ok.iadd (pc' := 208) dX9_run_207 rfl q2 ?_
    refine Ok.putI (pc' := 211) (k := 30) dX9_run_208 rfl (shM_0 _) rfl inX9 tyX9 tyX9_ok nmX9 (by decide) rfl wd_1011 rfl rfl (Or.inl rfl) ?_
    refine Ok.aload_n (pc' := 212) rfl dX9_run_211 rfl ?_
    refine Ok.getI (pc' := 215) (z := h.2.1 0 25) (k := 25) dX9_run_212 rfl (shM_0 _) rfl inX9 (by decide) rfl rfl wd_1006 rfl ?_
    exact Ok.iret dX9_run_215 rfl (by decide) K
  · replace K := K.2 c1
    refine Ok.aload_n (pc' := 192) rfl dX9_run_191 rfl ?_
    refine Ok.callV (pc' := 195) (av := []) (rest := []) dX9_run_192 rfl (by decide) cvX9_run_241 (shM_0 _) rfl rfl rfl (leb rfl) (leb rfl) K (fun r_ h1 K => ?_)
    show Ok shM 0 0 mX9_run 195 [some (pR 0), none, none, none, none, none, none] [] h1 Post
    refine Ok.goto (tgt := 184) dX9_run_195 rfl ?_
    exact K
theorem sX9_ran_0 {what : Int} {h : Hp} {Post : Int → Hp → Prop}
    (K : ((what = 0) → Post (h.2.1 0 26) h) ∧ ((what = 1) → Post (h.2.1 0 24) h) ∧ ((what = 2) → Post (h.2.1 0 27) h) ∧ ((what = 3) → ((h.2.1 0 31 = 0) → Post 0 h) ∧ ((¬ h.2.1 0 31 = 0) → Post (h.2.1 0 28) h)) ∧ ((what < 0 ∨ 3 < what) → Post (-1000000000) h)) :
    Cl shM mX9_ran [pR 0, pI what] h Post := by
  show Ok shM 0 0 mX9_ran 0 [some (pR 0), some (pI what)] [] h Post
  refine Ok.iload_n (pc' := 1) rfl dX9_ran_0 rfl ?_
  obtain ⟨Kc1_0, Kc1_1, Kc1_2, Kc1_3, Kc1_4⟩ := K
  refine Ok.tsw dX9_ran_1 rfl ⟨by decide, by decide⟩ (fun tgt ht => ?_)
  have hx : (what = 0) ∨ (what = 1) ∨ (what = 2) ∨ (what = 3) ∨ (what < 0 ∨ 3 < what) := by omega
  rcases hx with c1 | c1 | c1 | c1 | c1
  · obtain rfl : 32 = tgt := by rw [c1] at ht; exact Int.ofNat.inj ht
    have K := Kc1_0 c1
    refine Ok.aload_n (pc' := 33) rfl dX9_ran_32 rfl ?_
    refine Ok.getI (pc' := 36) (z := h.2.1 0 26) (k := 26) dX9_ran_33 rfl (shM_0 _) rfl inX9 (by decide) rfl rfl wd_1007 rfl ?_
    exact Ok.iret dX9_ran_36 rfl (by decide) K
  · obtain rfl : 37 = tgt := by rw [c1] at ht; exact Int.ofNat.inj ht
    have K := Kc1_1 c1
    refine Ok.aload_n (pc' := 38) rfl dX9_ran_37 rfl ?_
    refine Ok.getI (pc' := 41) (z := h.2.1 0 24) (k := 24) dX9_ran_38 rfl (shM_0 _) rfl inX9 (by decide) rfl rfl wd_1005 rfl ?_
    exact Ok.iret dX9_ran_41 rfl (by decide) K
  · obtain rfl : 42 = tgt := by rw [c1] at ht; exact Int.ofNat.inj ht
    have K := Kc1_2 c1
    refine Ok.aload_n (pc' := 43) rfl dX9_ran_42 rfl ?_
    refine Ok.getI (pc' := 46) (z := h.2.1 0 27) (k := 27) dX9_ran_43 rfl (shM_0 _) rfl inX9 (by decide) rfl rfl wd_1008 rfl ?_
    exact Ok.iret dX9_ran_46 rfl (by decide) K
  · obtain rfl : 47 = tgt := by rw [c1] at ht; exact Int.ofNat.inj ht
    have K := Kc1_3 c1
    refine Ok.aload_n (pc' := 48) rfl dX9_ran_47 rfl ?_
    refine Ok.getI (pc' := 51) (z := h.2.1 0 31) (k := 31) dX9_ran_48 rfl (shM_0 _) rfl inX9 (by decide) rfl rfl wd_1012 rfl ?_
    refine Ok.if_eq (tgt := 61) dX9_ran_51 rfl rfl (fun c2 => ?_) (fun c2 => ?_)
    · replace K := K.1 c2
      refine Ok.iconst (pc' := 62) in_0 dX9_ran_61 rfl ?_
      exact Ok.iret dX9_ran_62 rfl (by decide) K
    · replace K := K.2 c2
      refine Ok.aload_n (pc' := 55) rfl dX9_ran_54 rfl ?_
      refine Ok.getI (pc' := 58) (z := h.2.1 0 28) (k := 28) dX9_ran_55 rfl (shM_0 _) rfl inX9 (by decide) rfl rfl wd_1009 rfl ?_
      refine Ok.goto (tgt := 62) dX9_ran_58 rfl ?_
      exact Ok.iret dX9_ran_62 rfl (by decide) K
  · obtain rfl : 63 = tgt := by
      rcases c1 with q | q
      · rw [swT_out (Or.inl q)] at ht; exact Int.ofNat.inj ht
      · rw [swT_out (Or.inr q)] at ht; exact Int.ofNat.inj ht
    have K := Kc1_4 c1
    refine Ok.ldc (n := (-1000000000)) (pc' := 65) ⟨by decide, by decide⟩ wd_1228 (by decide) dX9_ran_63 rfl ?_
    exact Ok.iret dX9_ran_65 rfl (by decide) K
theorem sX9_row_0 {i0 : Int} {h : Hp} {Post : Int → Hp → Prop}
    (K : Cl shM mX9_in [pL i0, pL 0, pL 7] h (fun r1 h1 => ((r1 = 0) → Post 0 h1) ∧ ((¬ r1 = 0) → ∃ k2 : Nat, i0 = (k2 : Int) ∧ k2 < 8 ∧ (Post (h1.1 8 k2) h1)))) :
    Cl shM mX9_row [pR 0, pI i0] h Post := by
  show Ok shM 0 0 mX9_row 0 [some (pR 0), some (pI i0)] [] h Post
  refine Ok.iload_n (pc' := 1) rfl dX9_row_0 rfl ?_
  refine Ok.i2l (pc' := 2) dX9_row_1 rfl ?_
  refine Ok.lconst (n := 0) (pc' := 3) ⟨by decide, by decide⟩ rfl dX9_row_2 rfl ?_
  refine Ok.ldc2 (n := 7) (pc' := 6) ⟨by decide, by decide⟩ wd_1297 dX9_row_3 rfl ?_
  refine Ok.callS (pc' := 9) (av := [pL i0, pL 0, pL 7]) (rest := []) dX9_row_6 rfl (by decide) cvX9_row_103 rfl rfl (leb rfl) (leb rfl) K (fun r1 h1 K => ?_)
  show Ok shM 0 0 mX9_row 9 [some (pR 0), some (pI i0)] [pI r1] h1 Post
  refine Ok.if_eq (tgt := 21) dX9_row_9 rfl rfl (fun c1 => ?_) (fun c1 => ?_)
  · replace K := K.1 c1
    refine Ok.iconst (pc' := 22) in_0 dX9_row_21 rfl ?_
    exact Ok.iret dX9_row_22 rfl (by decide) K
  · replace K := K.2 c1
    refine Ok.aload_n (pc' := 13) rfl dX9_row_12 rfl ?_
    refine Ok.getR (pc' := 16) (k := 9) dX9_row_13 rfl (shM_0 _) rfl inX9 (by decide) rfl wd_990 rfl ?_
    refine Ok.iload_n (pc' := 17) rfl dX9_row_16 rfl ?_
    obtain ⟨k2, e2, q2, K⟩ := K
    refine Ok.iald (pc' := 18) (z := h1.1 8 k2) dX9_row_17 rfl (shM_8 _) (by decide) e2 q2 rfl ?_
    refine Ok.goto (tgt := 22) dX9_row_18 rfl ?_
    exact Ok.iret dX9_row_22 rfl (by decide) K
theorem sX9_lay_0 {i0 v : Int} {h : Hp} {Post : Int → Hp → Prop}
    (K : Cl shM mX9_in [pL i0, pL 0, pL 7] h (fun r1 h1 => ((¬ r1 = 0) → ∃ k2 : Nat, i0 = (k2 : Int) ∧ k2 < 8 ∧ (Post 1 (hA h1 8 k2 v))) ∧ ((r1 = 0) → Post (-1) h1))) :
    Cl shM mX9_lay [pR 0, pI i0, pI v] h Post := by
  show Ok shM 0 0 mX9_lay 0 [some (pR 0), some (pI i0), some (pI v)] [] h Post
  refine Ok.iload_n (pc' := 1) rfl dX9_lay_0 rfl ?_
  refine Ok.i2l (pc' := 2) dX9_lay_1 rfl ?_
  refine Ok.lconst (n := 0) (pc' := 3) ⟨by decide, by decide⟩ rfl dX9_lay_2 rfl ?_
  refine Ok.ldc2 (n := 7) (pc' := 6) ⟨by decide, by decide⟩ wd_1297 dX9_lay_3 rfl ?_
  refine Ok.callS (pc' := 9) (av := [pL i0, pL 0, pL 7]) (rest := []) dX9_lay_6 rfl (by decide) cvX9_lay_103 rfl rfl (leb rfl) (leb rfl) K (fun r1 h1 K => ?_)
  show Ok shM 0 0 mX9_lay 9 [some (pR 0), some (pI i0), some (pI v)] [pI r1] h1 Post
  refine Ok.if_ne (tgt := 14) dX9_lay_9 rfl rfl (fun c1 => ?_) (fun c1 => ?_)
  · replace K := K.1 c1
    refine Ok.aload_n (pc' := 15) rfl dX9_lay_14 rfl ?_
    refine Ok.getR (pc' := 18) (k := 9) dX9_lay_15 rfl (shM_0 _) rfl inX9 (by decide) rfl wd_990 rfl ?_
    refine Ok.iload_n (pc' := 19) rfl dX9_lay_18 rfl ?_
    refine Ok.iload_n (pc' := 20) rfl dX9_lay_19 rfl ?_
    obtain ⟨k2, e2, q2, K⟩ := K
    refine Ok.iast (pc' := 21) dX9_lay_20 rfl (shM_8 _) (by decide) e2 q2 ?_
    refine Ok.iconst (pc' := 22) in_1 dX9_lay_21 rfl ?_
    exact Ok.iret dX9_lay_22 rfl (by decide) K
  · replace K := K.2 c1
    refine Ok.iconst (pc' := 13) in_m1 dX9_lay_12 rfl ?_
    exact Ok.iret dX9_lay_13 rfl (by decide) K
theorem sX9_clearCounts_0 {h : Hp} {Post : Int → Hp → Prop}
    (K : Ok shM 0 0 mX9_clearCounts 2 [some (pR 0), some (pI 0)] [] h Post) :
    Cl shM mX9_clearCounts [pR 0] h Post := by
  show Ok shM 0 0 mX9_clearCounts 0 [some (pR 0), none] [] h Post
  refine Ok.iconst (pc' := 1) in_0 dX9_clearCounts_0 rfl ?_
  refine Ok.istore_n (pc' := 2) (ls' := [some (pR 0), some (pI 0)]) dX9_clearCounts_1 rfl (by decide) rfl rfl ?_
  exact K
theorem sX9_clearCounts_2 {v1 : Int} {h : Hp} {Post : Int → Hp → Prop}
    (K : ((h.2.1 0 0 ≤ v1) → Post 0 h) ∧ ((¬ h.2.1 0 0 ≤ v1) → ∃ k2 : Nat, v1 = (k2 : Int) ∧ k2 < 600 ∧ (inR ((v1 + 1)) ∧ (Ok shM 0 0 mX9_clearCounts 2 [some (pR 0), some (pI (v1 + 1))] [] (hA h 5 k2 0) Post)))) :
    Ok shM 0 0 mX9_clearCounts 2 [some (pR 0), some (pI v1)] [] h Post := by
  show Ok shM 0 0 mX9_clearCounts 2 [some (pR 0), some (pI v1)] [] h Post
  refine Ok.iload_n (pc' := 3) rfl dX9_clearCounts_2 rfl ?_
  refine Ok.aload_n (pc' := 4) rfl dX9_clearCounts_3 rfl ?_
  refine Ok.getI (pc' := 7) (z := h.2.1 0 0) (k := 0) dX9_clearCounts_4 rfl (shM_0 _) rfl inX9 (by decide) rfl rfl wd_981 rfl ?_
  refine Ok.icmp_ge (tgt := 23) dX9_clearCounts_7 rfl rfl (fun c1 => ?_) (fun c1 => ?_)
  · replace K := K.1 c1
    refine Ok.iconst (pc' := 24) in_0 dX9_clearCounts_23 rfl ?_
    exact Ok.iret dX9_clearCounts_24 rfl (by decide) K
  · replace K := K.2 c1
    refine Ok.aload_n (pc' := 11) rfl dX9_clearCounts_10 rfl ?_
    refine Ok.getR (pc' := 14) (k := 5) dX9_clearCounts_11 rfl (shM_0 _) rfl inX9 (by decide) rfl wd_986 rfl ?_
    refine Ok.iload_n (pc' := 15) rfl dX9_clearCounts_14 rfl ?_
    refine Ok.iconst (pc' := 16) in_0 dX9_clearCounts_15 rfl ?_
    obtain ⟨k2, e2, q2, K⟩ := K
    refine Ok.iast (pc' := 17) dX9_clearCounts_16 rfl (shM_5 _) (by decide) e2 q2 ?_
    obtain ⟨q3, K⟩ := K
    refine Ok.iinc (pc' := 20) (ls' := [some (pR 0), some (pI (v1 + 1))]) dX9_clearCounts_17 rfl rfl (by decide) rfl rfl q3 ?_
    refine Ok.goto (tgt := 2) dX9_clearCounts_20 rfl ?_
    exact K
theorem sX9_keep_0 {h : Hp} {Post : Int → Hp → Prop}
    (K : Cl shM mX9_writesDown [pR 0] h (fun _ h1 => Cl shM mX9_keepIt [pR 0] h1 (fun _ h2 => Post 0 h2))) :
    Cl shM mX9_keep [pR 0] h Post := by
  show Ok shM 0 0 mX9_keep 0 [some (pR 0)] [] h Post
  refine Ok.aload_n (pc' := 1) rfl dX9_keep_0 rfl ?_
  refine Ok.callV (pc' := 4) (av := []) (rest := []) dX9_keep_1 rfl (by decide) cvX9_keep_244 (shM_0 _) rfl rfl rfl (leb rfl) (leb rfl) K (fun r_ h1 K => ?_)
  show Ok shM 0 0 mX9_keep 4 [some (pR 0)] [] h1 Post
  refine Ok.aload_n (pc' := 5) rfl dX9_keep_4 rfl ?_
  refine Ok.callV (pc' := 8) (av := []) (rest := []) dX9_keep_5 rfl (by decide) cvX9_keep_247 (shM_0 _) rfl rfl rfl (leb rfl) (leb rfl) K (fun r_ h2 K => ?_)
  show Ok shM 0 0 mX9_keep 8 [some (pR 0)] [] h2 Post
  exact Ok.vret dX9_keep_8 rfl (by decide) K
theorem sX9_keepIt_0 {h : Hp} {Post : Int → Hp → Prop}
    (K : ((¬ h.2.1 0 13 = 12) → Cl shM mX9_copies [pR 0, pI 12, pI (h.2.1 0 13)] h (fun _ h1 => inR ((h1.2.1 0 13 + 1)) ∧ (Post 0 (hI h1 0 13 (h1.2.1 0 13 + 1))))) ∧ ((h.2.1 0 13 = 12) → Ok shM 0 0 mX9_keepIt 11 [some (pR 0), some (pI 1)] [] h Post)) :
    Cl shM mX9_keepIt [pR 0] h Post := by
  show Ok shM 0 0 mX9_keepIt 0 [some (pR 0), none] [] h Post
  refine Ok.aload_n (pc' := 1) rfl dX9_keepIt_0 rfl ?_
  refine Ok.getI (pc' := 4) (z := h.2.1 0 13) (k := 13) dX9_keepIt_1 rfl (shM_0 _) rfl inX9 (by decide) rfl rfl wd_994 rfl ?_
  refine Ok.bipush (pc' := 6) ⟨by decide, by decide⟩ dX9_keepIt_4 rfl ?_
  refine Ok.icmp_ne (tgt := 37) dX9_keepIt_6 rfl rfl (fun c1 => ?_) (fun c1 => ?_)
  · replace K := K.1 c1
    refine Ok.aload_n (pc' := 38) rfl dX9_keepIt_37 rfl ?_
    refine Ok.bipush (pc' := 40) ⟨by decide, by decide⟩ dX9_keepIt_38 rfl ?_
    refine Ok.aload_n (pc' := 41) rfl dX9_keepIt_40 rfl ?_
    refine Ok.getI (pc' := 44) (z := h.2.1 0 13) (k := 13) dX9_keepIt_41 rfl (shM_0 _) rfl inX9 (by decide) rfl rfl wd_994 rfl ?_
    refine Ok.callV (pc' := 47) (av := [pI 12, pI (h.2.1 0 13)]) (rest := []) dX9_keepIt_44 rfl (by decide) cvX9_keepIt_250 (shM_0 _) rfl rfl rfl (leb rfl) (leb rfl) K (fun r_ h1 K => ?_)
    show Ok shM 0 0 mX9_keepIt 47 [some (pR 0), none] [] h1 Post
    refine Ok.aload_n (pc' := 48) rfl dX9_keepIt_47 rfl ?_
    refine Ok.dup (pc' := 49) dX9_keepIt_48 rfl rfl ?_
    refine Ok.getI (pc' := 52) (z := h1.2.1 0 13) (k := 13) dX9_keepIt_49 rfl (shM_0 _) rfl inX9 (by decide) rfl rfl wd_994 rfl ?_
    refine Ok.iconst (pc' := 53) in_1 dX9_keepIt_52 rfl ?_
    obtain ⟨q2, K⟩ := K
    refine Ok.iadd (pc' := 54) dX9_keepIt_53 rfl q2 ?_
    refine Ok.putI (pc' := 57) (k := 13) dX9_keepIt_54 rfl (shM_0 _) rfl inX9 tyX9 tyX9_ok nmX9 (by decide) rfl wd_994 rfl rfl (Or.inl rfl) ?_
    exact Ok.vret dX9_keepIt_57 rfl (by decide) K
  · replace K := K.2 c1
    refine Ok.iconst (pc' := 10) in_1 dX9_keepIt_9 rfl ?_
    refine Ok.istore_n (pc' := 11) (ls' := [some (pR 0), some (pI 1)]) dX9_keepIt_10 rfl (by decide) rfl rfl ?_
    exact K
theorem sX9_keepIt_11 {v1 : Int} {h : Hp} {Post : Int → Hp → Prop}
    (K : ((12 ≤ v1) → Cl shM mX9_copies [pR 0, pI 12, pI 11] (hI h 0 13 11) (fun _ h1 => inR ((h1.2.1 0 13 + 1)) ∧ (Post 0 (hI h1 0 13 (h1.2.1 0 13 + 1))))) ∧ ((¬ 12 ≤ v1) → inR ((v1 - 1)) ∧ (Cl shM mX9_copies [pR 0, pI v1, pI (v1 - 1)] h (fun _ h2 => inR ((v1 + 1)) ∧ (Ok shM 0 0 mX9_keepIt 11 [some (pR 0), some (pI (v1 + 1))] [] h2 Post))))) :
    Ok shM 0 0 mX9_keepIt 11 [some (pR 0), some (pI v1)] [] h Post := by
  show Ok shM 0 0 mX9_keepIt 11 [some (pR 0), some (pI v1)] [] h Post
  refine Ok.iload_n (pc' := 12) rfl dX9_keepIt_11 rfl ?_
  refine Ok.bipush (pc' := 14) ⟨by decide, by decide⟩ dX9_keepIt_12 rfl ?_
  refine Ok.icmp_ge (tgt := 31) dX9_keepIt_14 rfl rfl (fun c1 => ?_) (fun c1 => ?_)
  · replace K := K.1 c1
    refine Ok.aload_n (pc' := 32) rfl dX9_keepIt_31 rfl ?_
    refine Ok.bipush (pc' := 34) ⟨by decide, by decide⟩ dX9_keepIt_32 rfl ?_
    refine Ok.putI (pc' := 37) (k := 13) dX9_keepIt_34 rfl (shM_0 _) rfl inX9 tyX9 tyX9_ok nmX9 (by decide) rfl wd_994 rfl rfl (Or.inl rfl) ?_
    refine Ok.aload_n (pc' := 38) rfl dX9_keepIt_37 rfl ?_
    refine Ok.bipush (pc' := 40) ⟨by decide, by decide⟩ dX9_keepIt_38 rfl ?_
    refine Ok.aload_n (pc' := 41) rfl dX9_keepIt_40 rfl ?_
    refine Ok.getI (pc' := 44) (z := 11) (k := 13) dX9_keepIt_41 rfl (shM_0 _) rfl inX9 (by decide) rfl rfl wd_994 rfl ?_
    refine Ok.callV (pc' := 47) (av := [pI 12, pI 11]) (rest := []) dX9_keepIt_44 rfl (by decide) cvX9_keepIt_250 (shM_0 _) rfl rfl rfl (leb rfl) (leb rfl) K (fun r_ h1 K => ?_)
    show Ok shM 0 0 mX9_keepIt 47 [some (pR 0), some (pI v1)] [] h1 Post
    refine Ok.aload_n (pc' := 48) rfl dX9_keepIt_47 rfl ?_
    refine Ok.dup (pc' := 49) dX9_keepIt_48 rfl rfl ?_
    refine Ok.getI (pc' := 52) (z := h1.2.1 0 13) (k := 13) dX9_keepIt_49 rfl (shM_0 _) rfl inX9 (by decide) rfl rfl wd_994 rfl ?_
    refine Ok.iconst (pc' := 53) in_1 dX9_keepIt_52 rfl ?_
    obtain ⟨q2, K⟩ := K
    refine Ok.iadd (pc' := 54) dX9_keepIt_53 rfl q2 ?_
    refine Ok.putI (pc' := 57) (k := 13) dX9_keepIt_54 rfl (shM_0 _) rfl inX9 tyX9 tyX9_ok nmX9 (by decide) rfl wd_994 rfl rfl (Or.inl rfl) ?_
    exact Ok.vret dX9_keepIt_57 rfl (by decide) K
  · replace K := K.2 c1
    refine Ok.aload_n (pc' := 18) rfl dX9_keepIt_17 rfl ?_
    refine Ok.iload_n (pc' := 19) rfl dX9_keepIt_18 rfl ?_
    refine Ok.iload_n (pc' := 20) rfl dX9_keepIt_19 rfl ?_
    refine Ok.iconst (pc' := 21) in_1 dX9_keepIt_20 rfl ?_
    obtain ⟨q2, K⟩ := K
    refine Ok.isub (pc' := 22) dX9_keepIt_21 rfl q2 ?_
    refine Ok.callV (pc' := 25) (av := [pI v1, pI (v1 - 1)]) (rest := []) dX9_keepIt_22 rfl (by decide) cvX9_keepIt_250 (shM_0 _) rfl rfl rfl (leb rfl) (leb rfl) K (fun r_ h2 K => ?_)
    show Ok shM 0 0 mX9_keepIt 25 [some (pR 0), some (pI v1)] [] h2 Post
    obtain ⟨q3, K⟩ := K
    refine Ok.iinc (pc' := 28) (ls' := [some (pR 0), some (pI (v1 + 1))]) dX9_keepIt_25 rfl rfl (by decide) rfl rfl q3 ?_
    refine Ok.goto (tgt := 11) dX9_keepIt_28 rfl ?_
    exact K
theorem sX9_writesDown_0 {h : Hp} {Post : Int → Hp → Prop}
    (K : Ok shM 0 0 mX9_writesDown 5 [some (pR 0), some (pI 43200), some (pI 0), none] [] h Post) :
    Cl shM mX9_writesDown [pR 0] h Post := by
  show Ok shM 0 0 mX9_writesDown 0 [some (pR 0), none, none, none] [] h Post
  refine Ok.ldc (n := 43200) (pc' := 2) ⟨by decide, by decide⟩ wd_1210 (by decide) dX9_writesDown_0 rfl ?_
  refine Ok.istore_n (pc' := 3) (ls' := [some (pR 0), some (pI 43200), none, none]) dX9_writesDown_2 rfl (by decide) rfl rfl ?_
  refine Ok.iconst (pc' := 4) in_0 dX9_writesDown_3 rfl ?_
  refine Ok.istore_n (pc' := 5) (ls' := [some (pR 0), some (pI 43200), some (pI 0), none]) dX9_writesDown_4 rfl (by decide) rfl rfl ?_
  exact K
theorem sX9_writesDown_5 {v1 v2 : Int} {h : Hp} {Post : Int → Hp → Prop}
    (K : ((h.2.1 0 0 ≤ v2) → Ok shM 0 0 mX9_writesDown 114 [some (pR 0), none, some (pI 0), none] [] h Post) ∧ ((¬ h.2.1 0 0 ≤ v2) → inR ((6 * v2)) ∧ (inR ((v1 + (6 * v2))) ∧ (∃ k4 : Nat, v2 = (k4 : Int) ∧ k4 < 600 ∧ (∃ k5 : Nat, (v1 + (6 * v2)) = (k5 : Int) ∧ k5 < 46800 ∧ (inR (((v1 + (6 * v2)) + 1)) ∧ (∃ k7 : Nat, ((v1 + (6 * v2)) + 1) = (k7 : Int) ∧ k7 < 46800 ∧ (inR (((v1 + (6 * v2)) + 2)) ∧ (∃ k9 : Nat, ((v1 + (6 * v2)) + 2) = (k9 : Int) ∧ k9 < 46800 ∧ (Ok shM 0 0 mX9_writesDown 70 [some (pR 0), some (pI v1), some (pI v2), some (pI 0)] [] (hA (hA (hA h 20 k5 (h.1 1 k4)) 20 k7 (h.1 2 k4)) 20 k9 (h.1 4 k4)) Post)))))))))) :
    Ok shM 0 0 mX9_writesDown 5 [some (pR 0), some (pI v1), some (pI v2), none] [] h Post := by
  show Ok shM 0 0 mX9_writesDown 5 [some (pR 0), some (pI v1), some (pI v2), none] [] h Post
  refine Ok.iload_n (pc' := 6) rfl dX9_writesDown_5 rfl ?_
  refine Ok.aload_n (pc' := 7) rfl dX9_writesDown_6 rfl ?_
  refine Ok.getI (pc' := 10) (z := h.2.1 0 0) (k := 0) dX9_writesDown_7 rfl (shM_0 _) rfl inX9 (by decide) rfl rfl wd_981 rfl ?_
  refine Ok.icmp_ge (tgt := 112) dX9_writesDown_10 rfl rfl (fun c1 => ?_) (fun c1 => ?_)
  · replace K := K.1 c1
    refine Ok.iconst (pc' := 113) in_0 dX9_writesDown_112 rfl ?_
    refine Ok.istore_n (pc' := 114) (ls' := [some (pR 0), some (pI v1), some (pI 0), none]) dX9_writesDown_113 rfl (by decide) rfl rfl ?_
    exact Ok.fl (ls' := [some (pR 0), none, some (pI 0), none]) K ⟨rfl, rfl, trivial⟩
  · replace K := K.2 c1
    refine Ok.aload_n (pc' := 14) rfl dX9_writesDown_13 rfl ?_
    refine Ok.getR (pc' := 17) (k := 33) dX9_writesDown_14 rfl (shM_0 _) rfl inX9 (by decide) rfl wd_1014 rfl ?_
    refine Ok.iload_n (pc' := 18) rfl dX9_writesDown_17 rfl ?_
    refine Ok.bipush (pc' := 20) ⟨by decide, by decide⟩ dX9_writesDown_18 rfl ?_
    refine Ok.iload_n (pc' := 21) rfl dX9_writesDown_20 rfl ?_
    obtain ⟨q2, K⟩ := K
    refine Ok.imul (pc' := 22) dX9_writesDown_21 rfl q2 ?_
    obtain ⟨q3, K⟩ := K
    refine Ok.iadd (pc' := 23) dX9_writesDown_22 rfl q3 ?_
    refine Ok.aload_n (pc' := 24) rfl dX9_writesDown_23 rfl ?_
    refine Ok.getR (pc' := 27) (k := 1) dX9_writesDown_24 rfl (shM_0 _) rfl inX9 (by decide) rfl wd_982 rfl ?_
    refine Ok.iload_n (pc' := 28) rfl dX9_writesDown_27 rfl ?_
    obtain ⟨k4, e4, q4, K⟩ := K
    refine Ok.iald (pc' := 29) (z := h.1 1 k4) dX9_writesDown_28 rfl (shM_1 _) (by decide) e4 q4 rfl ?_
    obtain ⟨k5, e5, q5, K⟩ := K
    refine Ok.iast (pc' := 30) dX9_writesDown_29 rfl (shM_20 _) (by decide) e5 q5 ?_
    refine Ok.aload_n (pc' := 31) rfl dX9_writesDown_30 rfl ?_
    refine Ok.getR (pc' := 34) (k := 33) dX9_writesDown_31 rfl (shM_0 _) rfl inX9 (by decide) rfl wd_1014 rfl ?_
    refine Ok.iload_n (pc' := 35) rfl dX9_writesDown_34 rfl ?_
    refine Ok.bipush (pc' := 37) ⟨by decide, by decide⟩ dX9_writesDown_35 rfl ?_
    refine Ok.iload_n (pc' := 38) rfl dX9_writesDown_37 rfl ?_
    refine Ok.imul (pc' := 39) dX9_writesDown_38 rfl q2 ?_
    refine Ok.iadd (pc' := 40) dX9_writesDown_39 rfl q3 ?_
    refine Ok.iconst (pc' := 41) in_1 dX9_writesDown_40 rfl ?_
    obtain ⟨q6, K⟩ := K
    refine Ok.iadd (pc' := 42) dX9_writesDown_41 rfl q6 ?_
    refine Ok.aload_n (pc' := 43) rfl dX9_writesDown_42 rfl ?_
    refine Ok.getR (pc' := 46) (k := 2) dX9_writesDown_43 rfl (shM_0 _) rfl inX9 (by decide) rfl wd_983 rfl ?_
    refine Ok.iload_n (pc' := 47) rfl dX9_writesDown_46 rfl ?_
    refine Ok.iald (pc' := 48) (z := h.1 2 k4) dX9_writesDown_47 rfl (shM_2 _) (by decide) e4 q4 rfl ?_
    obtain ⟨k7, e7, q7, K⟩ := K
    refine Ok.iast (pc' := 49) dX9_writesDown_48 rfl (shM_20 _) (by decide) e7 q7 ?_
    refine Ok.aload_n (pc' := 50) rfl dX9_writesDown_49 rfl ?_
    refine Ok.getR (pc' := 53) (k := 33) dX9_writesDown_50 rfl (shM_0 _) rfl inX9 (by decide) rfl wd_1014 rfl ?_
    refine Ok.iload_n (pc' := 54) rfl dX9_writesDown_53 rfl ?_
    refine Ok.bipush (pc' := 56) ⟨by decide, by decide⟩ dX9_writesDown_54 rfl ?_
    refine Ok.iload_n (pc' := 57) rfl dX9_writesDown_56 rfl ?_
    refine Ok.imul (pc' := 58) dX9_writesDown_57 rfl q2 ?_
    refine Ok.iadd (pc' := 59) dX9_writesDown_58 rfl q3 ?_
    refine Ok.iconst (pc' := 60) in_2 dX9_writesDown_59 rfl ?_
    obtain ⟨q8, K⟩ := K
    refine Ok.iadd (pc' := 61) dX9_writesDown_60 rfl q8 ?_
    refine Ok.aload_n (pc' := 62) rfl dX9_writesDown_61 rfl ?_
    refine Ok.getR (pc' := 65) (k := 4) dX9_writesDown_62 rfl (shM_0 _) rfl inX9 (by decide) rfl wd_985 rfl ?_
    refine Ok.iload_n (pc' := 66) rfl dX9_writesDown_65 rfl ?_
    refine Ok.iald (pc' := 67) (z := h.1 4 k4) dX9_writesDown_66 rfl (shM_4 _) (by decide) e4 q4 rfl ?_
    obtain ⟨k9, e9, q9, K⟩ := K
    refine Ok.iast (pc' := 68) dX9_writesDown_67 rfl (shM_20 _) (by decide) e9 q9 ?_
    refine Ok.iconst (pc' := 69) in_0 dX9_writesDown_68 rfl ?_
    refine Ok.istore_n (pc' := 70) (ls' := [some (pR 0), some (pI v1), some (pI v2), some (pI 0)]) dX9_writesDown_69 rfl (by decide) rfl rfl ?_
    exact K
theorem sX9_writesDown_70 {v1 v2 v3 : Int} {h : Hp} {Post : Int → Hp → Prop}
    (K : ((3 ≤ v3) → inR ((v2 + 1)) ∧ (Ok shM 0 0 mX9_writesDown 5 [some (pR 0), some (pI v1), some (pI (v2 + 1)), none] [] h Post)) ∧ ((¬ 3 ≤ v3) → inR ((6 * v2)) ∧ (inR ((v1 + (6 * v2))) ∧ (inR (((v1 + (6 * v2)) + 3)) ∧ (inR ((((v1 + (6 * v2)) + 3) + v3)) ∧ (inR ((3 * v2)) ∧ (inR (((3 * v2) + v3)) ∧ (∃ k8 : Nat, ((3 * v2) + v3) = (k8 : Int) ∧ k8 < 1800 ∧ (∃ k9 : Nat, (((v1 + (6 * v2)) + 3) + v3) = (k9 : Int) ∧ k9 < 46800 ∧ (inR ((v3 + 1)) ∧ (Ok shM 0 0 mX9_writesDown 70 [some (pR 0), some (pI v1), some (pI v2), some (pI (v3 + 1))] [] (hA h 20 k9 (h.1 3 k8)) Post))))))))))) :
    Ok shM 0 0 mX9_writesDown 70 [some (pR 0), some (pI v1), some (pI v2), some (pI v3)] [] h Post := by
  show Ok shM 0 0 mX9_writesDown 70 [some (pR 0), some (pI v1), some (pI v2), some (pI v3)] [] h Post
  refine Ok.iload_n (pc' := 71) rfl dX9_writesDown_70 rfl ?_
  refine Ok.iconst (pc' := 72) in_3 dX9_writesDown_71 rfl ?_
  refine Ok.icmp_ge (tgt := 106) dX9_writesDown_72 rfl rfl (fun c1 => ?_) (fun c1 => ?_)
  · replace K := K.1 c1
    obtain ⟨q2, K⟩ := K
    refine Ok.iinc (pc' := 109) (ls' := [some (pR 0), some (pI v1), some (pI (v2 + 1)), some (pI v3)]) dX9_writesDown_106 rfl rfl (by decide) rfl rfl q2 ?_
    refine Ok.goto (tgt := 5) dX9_writesDown_109 rfl ?_
    exact Ok.fl (ls' := [some (pR 0), some (pI v1), some (pI (v2 + 1)), none]) K ⟨rfl, rfl, rfl, trivial⟩
  · replace K := K.2 c1
    refine Ok.aload_n (pc' := 76) rfl dX9_writesDown_75 rfl ?_
    refine Ok.getR (pc' := 79) (k := 33) dX9_writesDown_76 rfl (shM_0 _) rfl inX9 (by decide) rfl wd_1014 rfl ?_
    refine Ok.iload_n (pc' := 80) rfl dX9_writesDown_79 rfl ?_
    refine Ok.bipush (pc' := 82) ⟨by decide, by decide⟩ dX9_writesDown_80 rfl ?_
    refine Ok.iload_n (pc' := 83) rfl dX9_writesDown_82 rfl ?_
    obtain ⟨q2, K⟩ := K
    refine Ok.imul (pc' := 84) dX9_writesDown_83 rfl q2 ?_
    obtain ⟨q3, K⟩ := K
    refine Ok.iadd (pc' := 85) dX9_writesDown_84 rfl q3 ?_
    refine Ok.iconst (pc' := 86) in_3 dX9_writesDown_85 rfl ?_
    obtain ⟨q4, K⟩ := K
    refine Ok.iadd (pc' := 87) dX9_writesDown_86 rfl q4 ?_
    refine Ok.iload_n (pc' := 88) rfl dX9_writesDown_87 rfl ?_
    obtain ⟨q5, K⟩ := K
    refine Ok.iadd (pc' := 89) dX9_writesDown_88 rfl q5 ?_
    refine Ok.aload_n (pc' := 90) rfl dX9_writesDown_89 rfl ?_
    refine Ok.getR (pc' := 93) (k := 3) dX9_writesDown_90 rfl (shM_0 _) rfl inX9 (by decide) rfl wd_984 rfl ?_
    refine Ok.iconst (pc' := 94) in_3 dX9_writesDown_93 rfl ?_
    refine Ok.iload_n (pc' := 95) rfl dX9_writesDown_94 rfl ?_
    obtain ⟨q6, K⟩ := K
    refine Ok.imul (pc' := 96) dX9_writesDown_95 rfl q6 ?_
    refine Ok.iload_n (pc' := 97) rfl dX9_writesDown_96 rfl ?_
    obtain ⟨q7, K⟩ := K
    refine Ok.iadd (pc' := 98) dX9_writesDown_97 rfl q7 ?_
    obtain ⟨k8, e8, q8, K⟩ := K
    refine Ok.iald (pc' := 99) (z := h.1 3 k8) dX9_writesDown_98 rfl (shM_3 _) (by decide) e8 q8 rfl ?_
    obtain ⟨k9, e9, q9, K⟩ := K
    refine Ok.iast (pc' := 100) dX9_writesDown_99 rfl (shM_20 _) (by decide) e9 q9 ?_
    obtain ⟨q10, K⟩ := K
    refine Ok.iinc (pc' := 103) (ls' := [some (pR 0), some (pI v1), some (pI v2), some (pI (v3 + 1))]) dX9_writesDown_100 rfl rfl (by decide) rfl rfl q10 ?_
    refine Ok.goto (tgt := 70) dX9_writesDown_103 rfl ?_
    exact K
theorem sX9_writesDown_114 {v2 : Int} {h : Hp} {Post : Int → Hp → Prop}
    (K : ((10 ≤ v2) → Post 0 (hA h 19 12 (h.2.1 0 0))) ∧ ((¬ 10 ≤ v2) → inR ((120 + v2)) ∧ (∃ k3 : Nat, v2 = (k3 : Int) ∧ k3 < 10 ∧ (∃ k4 : Nat, (120 + v2) = (k4 : Int) ∧ k4 < 130 ∧ (inR ((v2 + 1)) ∧ (Ok shM 0 0 mX9_writesDown 114 [some (pR 0), none, some (pI (v2 + 1)), none] [] (hA h 21 k4 (h.1 7 k3)) Post)))))) :
    Ok shM 0 0 mX9_writesDown 114 [some (pR 0), none, some (pI v2), none] [] h Post := by
  show Ok shM 0 0 mX9_writesDown 114 [some (pR 0), none, some (pI v2), none] [] h Post
  refine Ok.iload_n (pc' := 115) rfl dX9_writesDown_114 rfl ?_
  refine Ok.bipush (pc' := 117) ⟨by decide, by decide⟩ dX9_writesDown_115 rfl ?_
  refine Ok.icmp_ge (tgt := 141) dX9_writesDown_117 rfl rfl (fun c1 => ?_) (fun c1 => ?_)
  · replace K := K.1 c1
    refine Ok.aload_n (pc' := 142) rfl dX9_writesDown_141 rfl ?_
    refine Ok.getR (pc' := 145) (k := 32) dX9_writesDown_142 rfl (shM_0 _) rfl inX9 (by decide) rfl wd_1013 rfl ?_
    refine Ok.bipush (pc' := 147) ⟨by decide, by decide⟩ dX9_writesDown_145 rfl ?_
    refine Ok.aload_n (pc' := 148) rfl dX9_writesDown_147 rfl ?_
    refine Ok.getI (pc' := 151) (z := h.2.1 0 0) (k := 0) dX9_writesDown_148 rfl (shM_0 _) rfl inX9 (by decide) rfl rfl wd_981 rfl ?_
    refine Ok.iast (pc' := 152) dX9_writesDown_151 rfl (shM_19 _) (by decide) rfl (by decide) ?_
    exact Ok.vret dX9_writesDown_152 rfl (by decide) K
  · replace K := K.2 c1
    refine Ok.aload_n (pc' := 121) rfl dX9_writesDown_120 rfl ?_
    refine Ok.getR (pc' := 124) (k := 34) dX9_writesDown_121 rfl (shM_0 _) rfl inX9 (by decide) rfl wd_1015 rfl ?_
    refine Ok.bipush (pc' := 126) ⟨by decide, by decide⟩ dX9_writesDown_124 rfl ?_
    refine Ok.iload_n (pc' := 127) rfl dX9_writesDown_126 rfl ?_
    obtain ⟨q2, K⟩ := K
    refine Ok.iadd (pc' := 128) dX9_writesDown_127 rfl q2 ?_
    refine Ok.aload_n (pc' := 129) rfl dX9_writesDown_128 rfl ?_
    refine Ok.getR (pc' := 132) (k := 8) dX9_writesDown_129 rfl (shM_0 _) rfl inX9 (by decide) rfl wd_989 rfl ?_
    refine Ok.iload_n (pc' := 133) rfl dX9_writesDown_132 rfl ?_
    obtain ⟨k3, e3, q3, K⟩ := K
    refine Ok.iald (pc' := 134) (z := h.1 7 k3) dX9_writesDown_133 rfl (shM_7 _) (by decide) e3 q3 rfl ?_
    obtain ⟨k4, e4, q4, K⟩ := K
    refine Ok.iast (pc' := 135) dX9_writesDown_134 rfl (shM_21 _) (by decide) e4 q4 ?_
    obtain ⟨q5, K⟩ := K
    refine Ok.iinc (pc' := 138) (ls' := [some (pR 0), none, some (pI (v2 + 1)), none]) dX9_writesDown_135 rfl rfl (by decide) rfl rfl q5 ?_
    refine Ok.goto (tgt := 114) dX9_writesDown_138 rfl ?_
    exact K
theorem sX9_copies_0 {from0 to : Int} {h : Hp} {Post : Int → Hp → Prop}
    (K : Ok shM 0 0 mX9_copies 2 [some (pR 0), some (pI from0), some (pI to), some (pI 0)] [] h Post) :
    Cl shM mX9_copies [pR 0, pI from0, pI to] h Post := by
  show Ok shM 0 0 mX9_copies 0 [some (pR 0), some (pI from0), some (pI to), none] [] h Post
  refine Ok.iconst (pc' := 1) in_0 dX9_copies_0 rfl ?_
  refine Ok.istore_n (pc' := 2) (ls' := [some (pR 0), some (pI from0), some (pI to), some (pI 0)]) dX9_copies_1 rfl (by decide) rfl rfl ?_
  exact K
theorem sX9_copies_2 {from0 to v3 : Int} {h : Hp} {Post : Int → Hp → Prop}
    (K : ((3600 ≤ v3) → Ok shM 0 0 mX9_copies 41 [some (pR 0), some (pI from0), some (pI to), some (pI 0)] [] h Post) ∧ ((¬ 3600 ≤ v3) → inR ((3600 * to)) ∧ (inR (((3600 * to) + v3)) ∧ (inR ((3600 * from0)) ∧ (inR (((3600 * from0) + v3)) ∧ (∃ k6 : Nat, ((3600 * from0) + v3) = (k6 : Int) ∧ k6 < 46800 ∧ (∃ k7 : Nat, ((3600 * to) + v3) = (k7 : Int) ∧ k7 < 46800 ∧ (inR ((v3 + 1)) ∧ (Ok shM 0 0 mX9_copies 2 [some (pR 0), some (pI from0), some (pI to), some (pI (v3 + 1))] [] (hA h 20 k7 (h.1 20 k6)) Post))))))))) :
    Ok shM 0 0 mX9_copies 2 [some (pR 0), some (pI from0), some (pI to), some (pI v3)] [] h Post := by
  show Ok shM 0 0 mX9_copies 2 [some (pR 0), some (pI from0), some (pI to), some (pI v3)] [] h Post
  refine Ok.iload_n (pc' := 3) rfl dX9_copies_2 rfl ?_
  refine Ok.sipush (pc' := 6) ⟨by decide, by decide⟩ dX9_copies_3 rfl ?_
  refine Ok.icmp_ge (tgt := 39) dX9_copies_6 rfl rfl (fun c1 => ?_) (fun c1 => ?_)
  · replace K := K.1 c1
    refine Ok.iconst (pc' := 40) in_0 dX9_copies_39 rfl ?_
    refine Ok.istore_n (pc' := 41) (ls' := [some (pR 0), some (pI from0), some (pI to), some (pI 0)]) dX9_copies_40 rfl (by decide) rfl rfl ?_
    exact K
  · replace K := K.2 c1
    refine Ok.aload_n (pc' := 10) rfl dX9_copies_9 rfl ?_
    refine Ok.getR (pc' := 13) (k := 33) dX9_copies_10 rfl (shM_0 _) rfl inX9 (by decide) rfl wd_1014 rfl ?_
    refine Ok.sipush (pc' := 16) ⟨by decide, by decide⟩ dX9_copies_13 rfl ?_
    refine Ok.iload_n (pc' := 17) rfl dX9_copies_16 rfl ?_
    obtain ⟨q2, K⟩ := K
    refine Ok.imul (pc' := 18) dX9_copies_17 rfl q2 ?_
    refine Ok.iload_n (pc' := 19) rfl dX9_copies_18 rfl ?_
    obtain ⟨q3, K⟩ := K
    refine Ok.iadd (pc' := 20) dX9_copies_19 rfl q3 ?_
    refine Ok.aload_n (pc' := 21) rfl dX9_copies_20 rfl ?_
    refine Ok.getR (pc' := 24) (k := 33) dX9_copies_21 rfl (shM_0 _) rfl inX9 (by decide) rfl wd_1014 rfl ?_
    refine Ok.sipush (pc' := 27) ⟨by decide, by decide⟩ dX9_copies_24 rfl ?_
    refine Ok.iload_n (pc' := 28) rfl dX9_copies_27 rfl ?_
    obtain ⟨q4, K⟩ := K
    refine Ok.imul (pc' := 29) dX9_copies_28 rfl q4 ?_
    refine Ok.iload_n (pc' := 30) rfl dX9_copies_29 rfl ?_
    obtain ⟨q5, K⟩ := K
    refine Ok.iadd (pc' := 31) dX9_copies_30 rfl q5 ?_
    obtain ⟨k6, e6, q6, K⟩ := K
    refine Ok.iald (pc' := 32) (z := h.1 20 k6) dX9_copies_31 rfl (shM_20 _) (by decide) e6 q6 rfl ?_
    obtain ⟨k7, e7, q7, K⟩ := K
    refine Ok.iast (pc' := 33) dX9_copies_32 rfl (shM_20 _) (by decide) e7 q7 ?_
    obtain ⟨q8, K⟩ := K
    refine Ok.iinc (pc' := 36) (ls' := [some (pR 0), some (pI from0), some (pI to), some (pI (v3 + 1))]) dX9_copies_33 rfl rfl (by decide) rfl rfl q8 ?_
    refine Ok.goto (tgt := 2) dX9_copies_36 rfl ?_
    exact K
theorem sX9_copies_41 {from0 to v3 : Int} {h : Hp} {Post : Int → Hp → Prop}
    (K : ((10 ≤ v3) → ∃ k2 : Nat, from0 = (k2 : Int) ∧ k2 < 13 ∧ (∃ k3 : Nat, to = (k3 : Int) ∧ k3 < 13 ∧ (Post 0 (hA h 19 k3 (h.1 19 k2))))) ∧ ((¬ 10 ≤ v3) → inR ((10 * to)) ∧ (inR (((10 * to) + v3)) ∧ (inR ((10 * from0)) ∧ (inR (((10 * from0) + v3)) ∧ (∃ k6 : Nat, ((10 * from0) + v3) = (k6 : Int) ∧ k6 < 130 ∧ (∃ k7 : Nat, ((10 * to) + v3) = (k7 : Int) ∧ k7 < 130 ∧ (inR ((v3 + 1)) ∧ (Ok shM 0 0 mX9_copies 41 [some (pR 0), some (pI from0), some (pI to), some (pI (v3 + 1))] [] (hA h 21 k7 (h.1 21 k6)) Post))))))))) :
    Ok shM 0 0 mX9_copies 41 [some (pR 0), some (pI from0), some (pI to), some (pI v3)] [] h Post := by
  show Ok shM 0 0 mX9_copies 41 [some (pR 0), some (pI from0), some (pI to), some (pI v3)] [] h Post
  refine Ok.iload_n (pc' := 42) rfl dX9_copies_41 rfl ?_
  refine Ok.bipush (pc' := 44) ⟨by decide, by decide⟩ dX9_copies_42 rfl ?_
  refine Ok.icmp_ge (tgt := 75) dX9_copies_44 rfl rfl (fun c1 => ?_) (fun c1 => ?_)
  · replace K := K.1 c1
    refine Ok.aload_n (pc' := 76) rfl dX9_copies_75 rfl ?_
    refine Ok.getR (pc' := 79) (k := 32) dX9_copies_76 rfl (shM_0 _) rfl inX9 (by decide) rfl wd_1013 rfl ?_
    refine Ok.iload_n (pc' := 80) rfl dX9_copies_79 rfl ?_
    refine Ok.aload_n (pc' := 81) rfl dX9_copies_80 rfl ?_
    refine Ok.getR (pc' := 84) (k := 32) dX9_copies_81 rfl (shM_0 _) rfl inX9 (by decide) rfl wd_1013 rfl ?_
    refine Ok.iload_n (pc' := 85) rfl dX9_copies_84 rfl ?_
    obtain ⟨k2, e2, q2, K⟩ := K
    refine Ok.iald (pc' := 86) (z := h.1 19 k2) dX9_copies_85 rfl (shM_19 _) (by decide) e2 q2 rfl ?_
    obtain ⟨k3, e3, q3, K⟩ := K
    refine Ok.iast (pc' := 87) dX9_copies_86 rfl (shM_19 _) (by decide) e3 q3 ?_
    exact Ok.vret dX9_copies_87 rfl (by decide) K
  · replace K := K.2 c1
    refine Ok.aload_n (pc' := 48) rfl dX9_copies_47 rfl ?_
    refine Ok.getR (pc' := 51) (k := 34) dX9_copies_48 rfl (shM_0 _) rfl inX9 (by decide) rfl wd_1015 rfl ?_
    refine Ok.bipush (pc' := 53) ⟨by decide, by decide⟩ dX9_copies_51 rfl ?_
    refine Ok.iload_n (pc' := 54) rfl dX9_copies_53 rfl ?_
    obtain ⟨q2, K⟩ := K
    refine Ok.imul (pc' := 55) dX9_copies_54 rfl q2 ?_
    refine Ok.iload_n (pc' := 56) rfl dX9_copies_55 rfl ?_
    obtain ⟨q3, K⟩ := K
    refine Ok.iadd (pc' := 57) dX9_copies_56 rfl q3 ?_
    refine Ok.aload_n (pc' := 58) rfl dX9_copies_57 rfl ?_
    refine Ok.getR (pc' := 61) (k := 34) dX9_copies_58 rfl (shM_0 _) rfl inX9 (by decide) rfl wd_1015 rfl ?_
    refine Ok.bipush (pc' := 63) ⟨by decide, by decide⟩ dX9_copies_61 rfl ?_
    refine Ok.iload_n (pc' := 64) rfl dX9_copies_63 rfl ?_
    obtain ⟨q4, K⟩ := K
    refine Ok.imul (pc' := 65) dX9_copies_64 rfl q4 ?_
    refine Ok.iload_n (pc' := 66) rfl dX9_copies_65 rfl ?_
    obtain ⟨q5, K⟩ := K
    refine Ok.iadd (pc' := 67) dX9_copies_66 rfl q5 ?_
    obtain ⟨k6, e6, q6, K⟩ := K
    refine Ok.iald (pc' := 68) (z := h.1 21 k6) dX9_copies_67 rfl (shM_21 _) (by decide) e6 q6 rfl ?_
    obtain ⟨k7, e7, q7, K⟩ := K
    refine Ok.iast (pc' := 69) dX9_copies_68 rfl (shM_21 _) (by decide) e7 q7 ?_
    obtain ⟨q8, K⟩ := K
    refine Ok.iinc (pc' := 72) (ls' := [some (pR 0), some (pI from0), some (pI to), some (pI (v3 + 1))]) dX9_copies_69 rfl rfl (by decide) rfl rfl q8 ?_
    refine Ok.goto (tgt := 41) dX9_copies_72 rfl ?_
    exact K
theorem sX9_back_0 {k0 : Int} {h : Hp} {Post : Int → Hp → Prop}
    (K : inR ((3600 * k0)) ∧ (Ok shM 0 0 mX9_back 8 [some (pR 0), some (pI k0), some (pI (3600 * k0)), some (pI 0), none, none] [] h Post)) :
    Cl shM mX9_back [pR 0, pI k0] h Post := by
  show Ok shM 0 0 mX9_back 0 [some (pR 0), some (pI k0), none, none, none, none] [] h Post
  refine Ok.sipush (pc' := 3) ⟨by decide, by decide⟩ dX9_back_0 rfl ?_
  refine Ok.iload_n (pc' := 4) rfl dX9_back_3 rfl ?_
  obtain ⟨q1, K⟩ := K
  refine Ok.imul (pc' := 5) dX9_back_4 rfl q1 ?_
  refine Ok.istore_n (pc' := 6) (ls' := [some (pR 0), some (pI k0), some (pI (3600 * k0)), none, none, none]) dX9_back_5 rfl (by decide) rfl rfl ?_
  refine Ok.iconst (pc' := 7) in_0 dX9_back_6 rfl ?_
  refine Ok.istore_n (pc' := 8) (ls' := [some (pR 0), some (pI k0), some (pI (3600 * k0)), some (pI 0), none, none]) dX9_back_7 rfl (by decide) rfl rfl ?_
  exact K
theorem sX9_back_8 {k0 v2 v3 : Int} {h : Hp} {Post : Int → Hp → Prop}
    (K : ((h.2.1 0 0 ≤ v3) → Ok shM 0 0 mX9_back 176 [some (pR 0), some (pI k0), none, some (pI 0), none, none] [] h Post) ∧ ((¬ h.2.1 0 0 ≤ v3) → ∃ k2 : Nat, k0 = (k2 : Int) ∧ k2 < 13 ∧ (((h.1 19 k2 ≤ v3) → ∃ k4 : Nat, v3 = (k4 : Int) ∧ k4 < 600 ∧ (Ok shM 0 0 mX9_back 119 [some (pR 0), some (pI k0), some (pI v2), some (pI v3), some (pI 0), some (pI 0)] [] (hA (hA (hA h 1 k4 (-1)) 2 k4 0) 4 k4 (-4)) Post)) ∧ ((¬ h.1 19 k2 ≤ v3) → inR ((6 * v3)) ∧ (inR ((v2 + (6 * v3))) ∧ (∃ k6 : Nat, (v2 + (6 * v3)) = (k6 : Int) ∧ k6 < 46800 ∧ (∃ k7 : Nat, v3 = (k7 : Int) ∧ k7 < 600 ∧ (inR (((v2 + (6 * v3)) + 1)) ∧ (∃ k9 : Nat, ((v2 + (6 * v3)) + 1) = (k9 : Int) ∧ k9 < 46800 ∧ (inR (((v2 + (6 * v3)) + 2)) ∧ (∃ k11 : Nat, ((v2 + (6 * v3)) + 2) = (k11 : Int) ∧ k11 < 46800 ∧ (Ok shM 0 0 mX9_back 119 [some (pR 0), some (pI k0), some (pI v2), some (pI v3), some (pI 1), some (pI 0)] [] (hA (hA (hA h 1 k7 (h.1 20 k6)) 2 k7 (h.1 20 k9)) 4 k7 (h.1 20 k11)) Post)))))))))))) :
    Ok shM 0 0 mX9_back 8 [some (pR 0), some (pI k0), some (pI v2), some (pI v3), none, none] [] h Post := by
  show Ok shM 0 0 mX9_back 8 [some (pR 0), some (pI k0), some (pI v2), some (pI v3), none, none] [] h Post
  refine Ok.iload_n (pc' := 9) rfl dX9_back_8 rfl ?_
  refine Ok.aload_n (pc' := 10) rfl dX9_back_9 rfl ?_
  refine Ok.getI (pc' := 13) (z := h.2.1 0 0) (k := 0) dX9_back_10 rfl (shM_0 _) rfl inX9 (by decide) rfl rfl wd_981 rfl ?_
  refine Ok.icmp_ge (tgt := 174) dX9_back_13 rfl rfl (fun c1 => ?_) (fun c1 => ?_)
  · replace K := K.1 c1
    refine Ok.iconst (pc' := 175) in_0 dX9_back_174 rfl ?_
    refine Ok.istore_n (pc' := 176) (ls' := [some (pR 0), some (pI k0), some (pI v2), some (pI 0), none, none]) dX9_back_175 rfl (by decide) rfl rfl ?_
    exact Ok.fl (ls' := [some (pR 0), some (pI k0), none, some (pI 0), none, none]) K ⟨rfl, rfl, rfl, trivial⟩
  · replace K := K.2 c1
    refine Ok.iload_n (pc' := 17) rfl dX9_back_16 rfl ?_
    refine Ok.aload_n (pc' := 18) rfl dX9_back_17 rfl ?_
    refine Ok.getR (pc' := 21) (k := 32) dX9_back_18 rfl (shM_0 _) rfl inX9 (by decide) rfl wd_1013 rfl ?_
    refine Ok.iload_n (pc' := 22) rfl dX9_back_21 rfl ?_
    obtain ⟨k2, e2, q2, K⟩ := K
    refine Ok.iald (pc' := 23) (z := h.1 19 k2) dX9_back_22 rfl (shM_19 _) (by decide) e2 q2 rfl ?_
    refine Ok.icmp_ge (tgt := 30) dX9_back_23 rfl rfl (fun c3 => ?_) (fun c3 => ?_)
    · replace K := K.1 c3
      refine Ok.iconst (pc' := 31) in_0 dX9_back_30 rfl ?_
      refine Ok.istore (pc' := 33) (ls' := [some (pR 0), some (pI k0), some (pI v2), some (pI v3), some (pI 0), none]) dX9_back_31 rfl (by decide) rfl rfl ?_
      refine Ok.aload_n (pc' := 34) rfl dX9_back_33 rfl ?_
      refine Ok.getR (pc' := 37) (k := 1) dX9_back_34 rfl (shM_0 _) rfl inX9 (by decide) rfl wd_982 rfl ?_
      refine Ok.iload_n (pc' := 38) rfl dX9_back_37 rfl ?_
      refine Ok.iload (pc' := 40) rfl dX9_back_38 rfl ?_
      refine Ok.if_eq (tgt := 57) dX9_back_40 rfl rfl (fun _ => ?_) (fun z => absurd (by decide) z)
      refine Ok.iconst (pc' := 58) in_m1 dX9_back_57 rfl ?_
      obtain ⟨k4, e4, q4, K⟩ := K
      refine Ok.iast (pc' := 59) dX9_back_58 rfl (shM_1 _) (by decide) e4 q4 ?_
      refine Ok.aload_n (pc' := 60) rfl dX9_back_59 rfl ?_
      refine Ok.getR (pc' := 63) (k := 2) dX9_back_60 rfl (shM_0 _) rfl inX9 (by decide) rfl wd_983 rfl ?_
      refine Ok.iload_n (pc' := 64) rfl dX9_back_63 rfl ?_
      refine Ok.iload (pc' := 66) rfl dX9_back_64 rfl ?_
      refine Ok.if_eq (tgt := 85) dX9_back_66 rfl rfl (fun _ => ?_) (fun z => absurd (by decide) z)
      refine Ok.iconst (pc' := 86) in_0 dX9_back_85 rfl ?_
      refine Ok.iast (pc' := 87) dX9_back_86 rfl (shM_2 _) (by decide) e4 q4 ?_
      refine Ok.aload_n (pc' := 88) rfl dX9_back_87 rfl ?_
      refine Ok.getR (pc' := 91) (k := 4) dX9_back_88 rfl (shM_0 _) rfl inX9 (by decide) rfl wd_985 rfl ?_
      refine Ok.iload_n (pc' := 92) rfl dX9_back_91 rfl ?_
      refine Ok.iload (pc' := 94) rfl dX9_back_92 rfl ?_
      refine Ok.if_eq (tgt := 113) dX9_back_94 rfl rfl (fun _ => ?_) (fun z => absurd (by decide) z)
      refine Ok.bipush (pc' := 115) ⟨by decide, by decide⟩ dX9_back_113 rfl ?_
      refine Ok.iast (pc' := 116) dX9_back_115 rfl (shM_4 _) (by decide) e4 q4 ?_
      refine Ok.iconst (pc' := 117) in_0 dX9_back_116 rfl ?_
      refine Ok.istore (pc' := 119) (ls' := [some (pR 0), some (pI k0), some (pI v2), some (pI v3), some (pI 0), some (pI 0)]) dX9_back_117 rfl (by decide) rfl rfl ?_
      exact K
    · replace K := K.2 c3
      refine Ok.iconst (pc' := 27) in_1 dX9_back_26 rfl ?_
      refine Ok.goto (tgt := 31) dX9_back_27 rfl ?_
      refine Ok.istore (pc' := 33) (ls' := [some (pR 0), some (pI k0), some (pI v2), some (pI v3), some (pI 1), none]) dX9_back_31 rfl (by decide) rfl rfl ?_
      refine Ok.aload_n (pc' := 34) rfl dX9_back_33 rfl ?_
      refine Ok.getR (pc' := 37) (k := 1) dX9_back_34 rfl (shM_0 _) rfl inX9 (by decide) rfl wd_982 rfl ?_
      refine Ok.iload_n (pc' := 38) rfl dX9_back_37 rfl ?_
      refine Ok.iload (pc' := 40) rfl dX9_back_38 rfl ?_
      refine Ok.if_eq (tgt := 57) dX9_back_40 rfl rfl (fun z => absurd z (by decide)) (fun _ => ?_)
      refine Ok.aload_n (pc' := 44) rfl dX9_back_43 rfl ?_
      refine Ok.getR (pc' := 47) (k := 33) dX9_back_44 rfl (shM_0 _) rfl inX9 (by decide) rfl wd_1014 rfl ?_
      refine Ok.iload_n (pc' := 48) rfl dX9_back_47 rfl ?_
      refine Ok.bipush (pc' := 50) ⟨by decide, by decide⟩ dX9_back_48 rfl ?_
      refine Ok.iload_n (pc' := 51) rfl dX9_back_50 rfl ?_
      obtain ⟨q4, K⟩ := K
      refine Ok.imul (pc' := 52) dX9_back_51 rfl q4 ?_
      obtain ⟨q5, K⟩ := K
      refine Ok.iadd (pc' := 53) dX9_back_52 rfl q5 ?_
      obtain ⟨k6, e6, q6, K⟩ := K
      refine Ok.iald (pc' := 54) (z := h.1 20 k6) dX9_back_53 rfl (shM_20 _) (by decide) e6 q6 rfl ?_
      refine Ok.goto (tgt := 58) dX9_back_54 rfl ?_
      obtain ⟨k7, e7, q7, K⟩ := K
      refine Ok.iast (pc' := 59) dX9_back_58 rfl (shM_1 _) (by decide) e7 q7 ?_
      refine Ok.aload_n (pc' := 60) rfl dX9_back_59 rfl ?_
      refine Ok.getR (pc' := 63) (k := 2) dX9_back_60 rfl (shM_0 _) rfl inX9 (by decide) rfl wd_983 rfl ?_
      refine Ok.iload_n (pc' := 64) rfl dX9_back_63 rfl ?_
      refine Ok.iload (pc' := 66) rfl dX9_back_64 rfl ?_
      refine Ok.if_eq (tgt := 85) dX9_back_66 rfl rfl (fun z => absurd z (by decide)) (fun _ => ?_)
      refine Ok.aload_n (pc' := 70) rfl dX9_back_69 rfl ?_
      refine Ok.getR (pc' := 73) (k := 33) dX9_back_70 rfl (shM_0 _) rfl inX9 (by decide) rfl wd_1014 rfl ?_
      refine Ok.iload_n (pc' := 74) rfl dX9_back_73 rfl ?_
      refine Ok.bipush (pc' := 76) ⟨by decide, by decide⟩ dX9_back_74 rfl ?_
      refine Ok.iload_n (pc' := 77) rfl dX9_back_76 rfl ?_
      refine Ok.imul (pc' := 78) dX9_back_77 rfl q4 ?_
      refine Ok.iadd (pc' := 79) dX9_back_78 rfl q5 ?_
      refine Ok.iconst (pc' := 80) in_1 dX9_back_79 rfl ?_
      obtain ⟨q8, K⟩ := K
      refine Ok.iadd (pc' := 81) dX9_back_80 rfl q8 ?_
      obtain ⟨k9, e9, q9, K⟩ := K
      refine Ok.iald (pc' := 82) (z := h.1 20 k9) dX9_back_81 rfl (shM_20 _) (by decide) e9 q9 rfl ?_
      refine Ok.goto (tgt := 86) dX9_back_82 rfl ?_
      refine Ok.iast (pc' := 87) dX9_back_86 rfl (shM_2 _) (by decide) e7 q7 ?_
      refine Ok.aload_n (pc' := 88) rfl dX9_back_87 rfl ?_
      refine Ok.getR (pc' := 91) (k := 4) dX9_back_88 rfl (shM_0 _) rfl inX9 (by decide) rfl wd_985 rfl ?_
      refine Ok.iload_n (pc' := 92) rfl dX9_back_91 rfl ?_
      refine Ok.iload (pc' := 94) rfl dX9_back_92 rfl ?_
      refine Ok.if_eq (tgt := 113) dX9_back_94 rfl rfl (fun z => absurd z (by decide)) (fun _ => ?_)
      refine Ok.aload_n (pc' := 98) rfl dX9_back_97 rfl ?_
      refine Ok.getR (pc' := 101) (k := 33) dX9_back_98 rfl (shM_0 _) rfl inX9 (by decide) rfl wd_1014 rfl ?_
      refine Ok.iload_n (pc' := 102) rfl dX9_back_101 rfl ?_
      refine Ok.bipush (pc' := 104) ⟨by decide, by decide⟩ dX9_back_102 rfl ?_
      refine Ok.iload_n (pc' := 105) rfl dX9_back_104 rfl ?_
      refine Ok.imul (pc' := 106) dX9_back_105 rfl q4 ?_
      refine Ok.iadd (pc' := 107) dX9_back_106 rfl q5 ?_
      refine Ok.iconst (pc' := 108) in_2 dX9_back_107 rfl ?_
      obtain ⟨q10, K⟩ := K
      refine Ok.iadd (pc' := 109) dX9_back_108 rfl q10 ?_
      obtain ⟨k11, e11, q11, K⟩ := K
      refine Ok.iald (pc' := 110) (z := h.1 20 k11) dX9_back_109 rfl (shM_20 _) (by decide) e11 q11 rfl ?_
      refine Ok.goto (tgt := 115) dX9_back_110 rfl ?_
      refine Ok.iast (pc' := 116) dX9_back_115 rfl (shM_4 _) (by decide) e7 q7 ?_
      refine Ok.iconst (pc' := 117) in_0 dX9_back_116 rfl ?_
      refine Ok.istore (pc' := 119) (ls' := [some (pR 0), some (pI k0), some (pI v2), some (pI v3), some (pI 1), some (pI 0)]) dX9_back_117 rfl (by decide) rfl rfl ?_
      exact K
theorem sX9_back_119 {k0 v2 v3 v4 v5 : Int} {h : Hp} {Post : Int → Hp → Prop}
    (K : ((3 ≤ v5) → inR ((v3 + 1)) ∧ (Ok shM 0 0 mX9_back 8 [some (pR 0), some (pI k0), some (pI v2), some (pI (v3 + 1)), none, none] [] h Post)) ∧ ((¬ 3 ≤ v5) → inR ((3 * v3)) ∧ (inR (((3 * v3) + v5)) ∧ (((v4 = 0) → ∃ k5 : Nat, ((3 * v3) + v5) = (k5 : Int) ∧ k5 < 1800 ∧ (inR ((v5 + 1)) ∧ (Ok shM 0 0 mX9_back 119 [some (pR 0), some (pI k0), some (pI v2), some (pI v3), some (pI v4), some (pI (v5 + 1))] [] (hA h 3 k5 (-4)) Post))) ∧ ((¬ v4 = 0) → inR ((6 * v3)) ∧ (inR ((v2 + (6 * v3))) ∧ (inR (((v2 + (6 * v3)) + 3)) ∧ (inR ((((v2 + (6 * v3)) + 3) + v5)) ∧ (∃ k9 : Nat, (((v2 + (6 * v3)) + 3) + v5) = (k9 : Int) ∧ k9 < 46800 ∧ (∃ k10 : Nat, ((3 * v3) + v5) = (k10 : Int) ∧ k10 < 1800 ∧ (inR ((v5 + 1)) ∧ (Ok shM 0 0 mX9_back 119 [some (pR 0), some (pI k0), some (pI v2), some (pI v3), some (pI v4), some (pI (v5 + 1))] [] (hA h 3 k10 (h.1 20 k9)) Post)))))))))))) :
    Ok shM 0 0 mX9_back 119 [some (pR 0), some (pI k0), some (pI v2), some (pI v3), some (pI v4), some (pI v5)] [] h Post := by
  show Ok shM 0 0 mX9_back 119 [some (pR 0), some (pI k0), some (pI v2), some (pI v3), some (pI v4), some (pI v5)] [] h Post
  refine Ok.iload (pc' := 121) rfl dX9_back_119 rfl ?_
  refine Ok.iconst (pc' := 122) in_3 dX9_back_121 rfl ?_
  refine Ok.icmp_ge (tgt := 168) dX9_back_122 rfl rfl (fun c1 => ?_) (fun c1 => ?_)
  · replace K := K.1 c1
    obtain ⟨q2, K⟩ := K
    refine Ok.iinc (pc' := 171) (ls' := [some (pR 0), some (pI k0), some (pI v2), some (pI (v3 + 1)), some (pI v4), some (pI v5)]) dX9_back_168 rfl rfl (by decide) rfl rfl q2 ?_
    refine Ok.goto (tgt := 8) dX9_back_171 rfl ?_
    exact Ok.fl (ls' := [some (pR 0), some (pI k0), some (pI v2), some (pI (v3 + 1)), none, none]) K ⟨rfl, rfl, rfl, rfl, trivial⟩
  · replace K := K.2 c1
    refine Ok.aload_n (pc' := 126) rfl dX9_back_125 rfl ?_
    refine Ok.getR (pc' := 129) (k := 3) dX9_back_126 rfl (shM_0 _) rfl inX9 (by decide) rfl wd_984 rfl ?_
    refine Ok.iconst (pc' := 130) in_3 dX9_back_129 rfl ?_
    refine Ok.iload_n (pc' := 131) rfl dX9_back_130 rfl ?_
    obtain ⟨q2, K⟩ := K
    refine Ok.imul (pc' := 132) dX9_back_131 rfl q2 ?_
    refine Ok.iload (pc' := 134) rfl dX9_back_132 rfl ?_
    obtain ⟨q3, K⟩ := K
    refine Ok.iadd (pc' := 135) dX9_back_134 rfl q3 ?_
    refine Ok.iload (pc' := 137) rfl dX9_back_135 rfl ?_
    refine Ok.if_eq (tgt := 159) dX9_back_137 rfl rfl (fun c4 => ?_) (fun c4 => ?_)
    · replace K := K.1 c4
      refine Ok.bipush (pc' := 161) ⟨by decide, by decide⟩ dX9_back_159 rfl ?_
      obtain ⟨k5, e5, q5, K⟩ := K
      refine Ok.iast (pc' := 162) dX9_back_161 rfl (shM_3 _) (by decide) e5 q5 ?_
      obtain ⟨q6, K⟩ := K
      refine Ok.iinc (pc' := 165) (ls' := [some (pR 0), some (pI k0), some (pI v2), some (pI v3), some (pI v4), some (pI (v5 + 1))]) dX9_back_162 rfl rfl (by decide) rfl rfl q6 ?_
      refine Ok.goto (tgt := 119) dX9_back_165 rfl ?_
      exact K
    · replace K := K.2 c4
      refine Ok.aload_n (pc' := 141) rfl dX9_back_140 rfl ?_
      refine Ok.getR (pc' := 144) (k := 33) dX9_back_141 rfl (shM_0 _) rfl inX9 (by decide) rfl wd_1014 rfl ?_
      refine Ok.iload_n (pc' := 145) rfl dX9_back_144 rfl ?_
      refine Ok.bipush (pc' := 147) ⟨by decide, by decide⟩ dX9_back_145 rfl ?_
      refine Ok.iload_n (pc' := 148) rfl dX9_back_147 rfl ?_
      obtain ⟨q5, K⟩ := K
      refine Ok.imul (pc' := 149) dX9_back_148 rfl q5 ?_
      obtain ⟨q6, K⟩ := K
      refine Ok.iadd (pc' := 150) dX9_back_149 rfl q6 ?_
      refine Ok.iconst (pc' := 151) in_3 dX9_back_150 rfl ?_
      obtain ⟨q7, K⟩ := K
      refine Ok.iadd (pc' := 152) dX9_back_151 rfl q7 ?_
      refine Ok.iload (pc' := 154) rfl dX9_back_152 rfl ?_
      obtain ⟨q8, K⟩ := K
      refine Ok.iadd (pc' := 155) dX9_back_154 rfl q8 ?_
      obtain ⟨k9, e9, q9, K⟩ := K
      refine Ok.iald (pc' := 156) (z := h.1 20 k9) dX9_back_155 rfl (shM_20 _) (by decide) e9 q9 rfl ?_
      refine Ok.goto (tgt := 161) dX9_back_156 rfl ?_
      obtain ⟨k10, e10, q10, K⟩ := K
      refine Ok.iast (pc' := 162) dX9_back_161 rfl (shM_3 _) (by decide) e10 q10 ?_
      obtain ⟨q11, K⟩ := K
      refine Ok.iinc (pc' := 165) (ls' := [some (pR 0), some (pI k0), some (pI v2), some (pI v3), some (pI v4), some (pI (v5 + 1))]) dX9_back_162 rfl rfl (by decide) rfl rfl q11 ?_
      refine Ok.goto (tgt := 119) dX9_back_165 rfl ?_
      exact K
theorem sX9_back_176 {k0 v3 : Int} {h : Hp} {Post : Int → Hp → Prop}
    (K : ((10 ≤ v3) → Post 0 h) ∧ ((¬ 10 ≤ v3) → inR ((10 * k0)) ∧ (inR (((10 * k0) + v3)) ∧ (∃ k4 : Nat, ((10 * k0) + v3) = (k4 : Int) ∧ k4 < 130 ∧ (∃ k5 : Nat, v3 = (k5 : Int) ∧ k5 < 10 ∧ (inR ((v3 + 1)) ∧ (Ok shM 0 0 mX9_back 176 [some (pR 0), some (pI k0), none, some (pI (v3 + 1)), none, none] [] (hA h 7 k5 (h.1 21 k4)) Post))))))) :
    Ok shM 0 0 mX9_back 176 [some (pR 0), some (pI k0), none, some (pI v3), none, none] [] h Post := by
  show Ok shM 0 0 mX9_back 176 [some (pR 0), some (pI k0), none, some (pI v3), none, none] [] h Post
  refine Ok.iload_n (pc' := 177) rfl dX9_back_176 rfl ?_
  refine Ok.bipush (pc' := 179) ⟨by decide, by decide⟩ dX9_back_177 rfl ?_
  refine Ok.icmp_ge (tgt := 205) dX9_back_179 rfl rfl (fun c1 => ?_) (fun c1 => ?_)
  · replace K := K.1 c1
    exact Ok.vret dX9_back_205 rfl (by decide) K
  · replace K := K.2 c1
    refine Ok.aload_n (pc' := 183) rfl dX9_back_182 rfl ?_
    refine Ok.getR (pc' := 186) (k := 8) dX9_back_183 rfl (shM_0 _) rfl inX9 (by decide) rfl wd_989 rfl ?_
    refine Ok.iload_n (pc' := 187) rfl dX9_back_186 rfl ?_
    refine Ok.aload_n (pc' := 188) rfl dX9_back_187 rfl ?_
    refine Ok.getR (pc' := 191) (k := 34) dX9_back_188 rfl (shM_0 _) rfl inX9 (by decide) rfl wd_1015 rfl ?_
    refine Ok.bipush (pc' := 193) ⟨by decide, by decide⟩ dX9_back_191 rfl ?_
    refine Ok.iload_n (pc' := 194) rfl dX9_back_193 rfl ?_
    obtain ⟨q2, K⟩ := K
    refine Ok.imul (pc' := 195) dX9_back_194 rfl q2 ?_
    refine Ok.iload_n (pc' := 196) rfl dX9_back_195 rfl ?_
    obtain ⟨q3, K⟩ := K
    refine Ok.iadd (pc' := 197) dX9_back_196 rfl q3 ?_
    obtain ⟨k4, e4, q4, K⟩ := K
    refine Ok.iald (pc' := 198) (z := h.1 21 k4) dX9_back_197 rfl (shM_21 _) (by decide) e4 q4 rfl ?_
    obtain ⟨k5, e5, q5, K⟩ := K
    refine Ok.iast (pc' := 199) dX9_back_198 rfl (shM_7 _) (by decide) e5 q5 ?_
    obtain ⟨q6, K⟩ := K
    refine Ok.iinc (pc' := 202) (ls' := [some (pR 0), some (pI k0), none, some (pI (v3 + 1)), none, none]) dX9_back_199 rfl rfl (by decide) rfl rfl q6 ?_
    refine Ok.goto (tgt := 176) dX9_back_202 rfl ?_
    exact K
theorem sX9_undo_0 {h : Hp} {Post : Int → Hp → Prop}
    (K : ((¬ h.2.1 0 13 = 0) → inR ((h.2.1 0 13 - 1)) ∧ (Cl shM mX9_back [pR 0, pI (h.2.1 0 13 - 1)] (hI h 0 13 (h.2.1 0 13 - 1)) (fun _ h1 => Post 1 h1))) ∧ ((h.2.1 0 13 = 0) → Post (-2) h)) :
    Cl shM mX9_undo [pR 0] h Post := by
  show Ok shM 0 0 mX9_undo 0 [some (pR 0)] [] h Post
  refine Ok.aload_n (pc' := 1) rfl dX9_undo_0 rfl ?_
  refine Ok.getI (pc' := 4) (z := h.2.1 0 13) (k := 13) dX9_undo_1 rfl (shM_0 _) rfl inX9 (by decide) rfl rfl wd_994 rfl ?_
  refine Ok.if_ne (tgt := 10) dX9_undo_4 rfl rfl (fun c1 => ?_) (fun c1 => ?_)
  · replace K := K.1 c1
    refine Ok.aload_n (pc' := 11) rfl dX9_undo_10 rfl ?_
    refine Ok.dup (pc' := 12) dX9_undo_11 rfl rfl ?_
    refine Ok.getI (pc' := 15) (z := h.2.1 0 13) (k := 13) dX9_undo_12 rfl (shM_0 _) rfl inX9 (by decide) rfl rfl wd_994 rfl ?_
    refine Ok.iconst (pc' := 16) in_1 dX9_undo_15 rfl ?_
    obtain ⟨q2, K⟩ := K
    refine Ok.isub (pc' := 17) dX9_undo_16 rfl q2 ?_
    refine Ok.putI (pc' := 20) (k := 13) dX9_undo_17 rfl (shM_0 _) rfl inX9 tyX9 tyX9_ok nmX9 (by decide) rfl wd_994 rfl rfl (Or.inl rfl) ?_
    refine Ok.aload_n (pc' := 21) rfl dX9_undo_20 rfl ?_
    refine Ok.aload_n (pc' := 22) rfl dX9_undo_21 rfl ?_
    refine Ok.getI (pc' := 25) (z := (h.2.1 0 13 - 1)) (k := 13) dX9_undo_22 rfl (shM_0 _) rfl inX9 (by decide) rfl rfl wd_994 rfl ?_
    refine Ok.callV (pc' := 28) (av := [pI (h.2.1 0 13 - 1)]) (rest := []) dX9_undo_25 rfl (by decide) cvX9_undo_254 (shM_0 _) rfl rfl rfl (leb rfl) (leb rfl) K (fun r_ h1 K => ?_)
    show Ok shM 0 0 mX9_undo 28 [some (pR 0)] [] h1 Post
    refine Ok.iconst (pc' := 29) in_1 dX9_undo_28 rfl ?_
    exact Ok.iret dX9_undo_29 rfl (by decide) K
  · replace K := K.2 c1
    refine Ok.bipush (pc' := 9) ⟨by decide, by decide⟩ dX9_undo_7 rfl ?_
    exact Ok.iret dX9_undo_9 rfl (by decide) K
theorem sX9_isCall_0 {s0 : Int} {h : Hp} {Post : Int → Hp → Prop}
    (K : Cl shM mX9_isStep [pR 0, pI s0] h (fun r1 h1 => ((r1 = 0) → Post 0 h1) ∧ ((¬ r1 = 0) → ∃ k2 : Nat, s0 = (k2 : Int) ∧ k2 < 600 ∧ (((¬ h1.1 1 k2 = 6) → Post 0 h1) ∧ ((h1.1 1 k2 = 6) → Cl shM mX9_homeOf [pR 0, pI s0] h1 (fun r2 h2 => ((r2 = (-4)) → Post 0 h2) ∧ ((¬ r2 = (-4)) → Post 1 h2))))))) :
    Cl shM mX9_isCall [pR 0, pI s0] h Post := by
  show Ok shM 0 0 mX9_isCall 0 [some (pR 0), some (pI s0)] [] h Post
  refine Ok.aload_n (pc' := 1) rfl dX9_isCall_0 rfl ?_
  refine Ok.iload_n (pc' := 2) rfl dX9_isCall_1 rfl ?_
  refine Ok.callV (pc' := 5) (av := [pI s0]) (rest := []) dX9_isCall_2 rfl (by decide) cvX9_isCall_110 (shM_0 _) rfl rfl rfl (leb rfl) (leb rfl) K (fun r1 h1 K => ?_)
  show Ok shM 0 0 mX9_isCall 5 [some (pR 0), some (pI s0)] [pI r1] h1 Post
  refine Ok.if_eq (tgt := 33) dX9_isCall_5 rfl rfl (fun c1 => ?_) (fun c1 => ?_)
  · replace K := K.1 c1
    refine Ok.iconst (pc' := 34) in_0 dX9_isCall_33 rfl ?_
    exact Ok.zret dX9_isCall_34 rfl (by decide) (Or.inl rfl) K
  · replace K := K.2 c1
    refine Ok.aload_n (pc' := 9) rfl dX9_isCall_8 rfl ?_
    refine Ok.getR (pc' := 12) (k := 1) dX9_isCall_9 rfl (shM_0 _) rfl inX9 (by decide) rfl wd_982 rfl ?_
    refine Ok.iload_n (pc' := 13) rfl dX9_isCall_12 rfl ?_
    obtain ⟨k2, e2, q2, K⟩ := K
    refine Ok.iald (pc' := 14) (z := h1.1 1 k2) dX9_isCall_13 rfl (shM_1 _) (by decide) e2 q2 rfl ?_
    refine Ok.bipush (pc' := 16) ⟨by decide, by decide⟩ dX9_isCall_14 rfl ?_
    refine Ok.icmp_ne (tgt := 33) dX9_isCall_16 rfl rfl (fun c3 => ?_) (fun c3 => ?_)
    · replace K := K.1 c3
      refine Ok.iconst (pc' := 34) in_0 dX9_isCall_33 rfl ?_
      exact Ok.zret dX9_isCall_34 rfl (by decide) (Or.inl rfl) K
    · replace K := K.2 c3
      refine Ok.aload_n (pc' := 20) rfl dX9_isCall_19 rfl ?_
      refine Ok.iload_n (pc' := 21) rfl dX9_isCall_20 rfl ?_
      refine Ok.callV (pc' := 24) (av := [pI s0]) (rest := []) dX9_isCall_21 rfl (by decide) cvX9_isCall_159 (shM_0 _) rfl rfl rfl (leb rfl) (leb rfl) K (fun r2 h2 K => ?_)
      show Ok shM 0 0 mX9_isCall 24 [some (pR 0), some (pI s0)] [pI r2] h2 Post
      refine Ok.bipush (pc' := 26) ⟨by decide, by decide⟩ dX9_isCall_24 rfl ?_
      refine Ok.icmp_eq (tgt := 33) dX9_isCall_26 rfl rfl (fun c4 => ?_) (fun c4 => ?_)
      · replace K := K.1 c4
        refine Ok.iconst (pc' := 34) in_0 dX9_isCall_33 rfl ?_
        exact Ok.zret dX9_isCall_34 rfl (by decide) (Or.inl rfl) K
      · replace K := K.2 c4
        refine Ok.iconst (pc' := 30) in_1 dX9_isCall_29 rfl ?_
        refine Ok.goto (tgt := 34) dX9_isCall_30 rfl ?_
        exact Ok.zret dX9_isCall_34 rfl (by decide) (Or.inr rfl) K
theorem sX9_weightOf_0 {call : Int} {h : Hp} {Post : Int → Hp → Prop}
    (K : ∃ k1 : Nat, call = (k1 : Int) ∧ k1 < 600 ∧ (Cl shM mX9_uses [pR 0, pI (h.1 2 k1)] h (fun r1 h1 => ∃ k2 : Nat, h.1 2 k1 = (k2 : Int) ∧ k2 < 10 ∧ (inR ((2 * h1.1 6 k2)) ∧ (inR ((r1 - h1.1 6 k2)) ∧ (inR ((3 * (r1 - h1.1 6 k2))) ∧ (inR (((2 * h1.1 6 k2) + (3 * (r1 - h1.1 6 k2)))) ∧ (Cl shM mX9_goes [pR 0, pI (h1.1 7 k2)] h1 (fun r2 h2 => inR ((((2 * h1.1 6 k2) + (3 * (r1 - h1.1 6 k2))) + r2)) ∧ (Post (((2 * h1.1 6 k2) + (3 * (r1 - h1.1 6 k2))) + r2) h2)))))))))) :
    Cl shM mX9_weightOf [pR 0, pI call] h Post := by
  show Ok shM 0 0 mX9_weightOf 0 [some (pR 0), some (pI call), none, none] [] h Post
  refine Ok.aload_n (pc' := 1) rfl dX9_weightOf_0 rfl ?_
  refine Ok.getR (pc' := 4) (k := 2) dX9_weightOf_1 rfl (shM_0 _) rfl inX9 (by decide) rfl wd_983 rfl ?_
  refine Ok.iload_n (pc' := 5) rfl dX9_weightOf_4 rfl ?_
  obtain ⟨k1, e1, q1, K⟩ := K
  refine Ok.iald (pc' := 6) (z := h.1 2 k1) dX9_weightOf_5 rfl (shM_2 _) (by decide) e1 q1 rfl ?_
  refine Ok.istore_n (pc' := 7) (ls' := [some (pR 0), some (pI call), some (pI (h.1 2 k1)), none]) dX9_weightOf_6 rfl (by decide) rfl rfl ?_
  refine Ok.aload_n (pc' := 8) rfl dX9_weightOf_7 rfl ?_
  refine Ok.iload_n (pc' := 9) rfl dX9_weightOf_8 rfl ?_
  refine Ok.callV (pc' := 12) (av := [pI (h.1 2 k1)]) (rest := []) dX9_weightOf_9 rfl (by decide) cvX9_weightOf_153 (shM_0 _) rfl rfl rfl (leb rfl) (leb rfl) K (fun r1 h1 K => ?_)
  show Ok shM 0 0 mX9_weightOf 12 [some (pR 0), some (pI call), some (pI (h.1 2 k1)), none] [pI r1] h1 Post
  refine Ok.istore_n (pc' := 13) (ls' := [some (pR 0), some (pI call), some (pI (h.1 2 k1)), some (pI r1)]) dX9_weightOf_12 rfl (by decide) rfl rfl ?_
  refine Ok.iconst (pc' := 14) in_2 dX9_weightOf_13 rfl ?_
  refine Ok.aload_n (pc' := 15) rfl dX9_weightOf_14 rfl ?_
  refine Ok.getR (pc' := 18) (k := 7) dX9_weightOf_15 rfl (shM_0 _) rfl inX9 (by decide) rfl wd_988 rfl ?_
  refine Ok.iload_n (pc' := 19) rfl dX9_weightOf_18 rfl ?_
  obtain ⟨k2, e2, q2, K⟩ := K
  refine Ok.iald (pc' := 20) (z := h1.1 6 k2) dX9_weightOf_19 rfl (shM_6 _) (by decide) e2 q2 rfl ?_
  obtain ⟨q3, K⟩ := K
  refine Ok.imul (pc' := 21) dX9_weightOf_20 rfl q3 ?_
  refine Ok.iconst (pc' := 22) in_3 dX9_weightOf_21 rfl ?_
  refine Ok.iload_n (pc' := 23) rfl dX9_weightOf_22 rfl ?_
  refine Ok.aload_n (pc' := 24) rfl dX9_weightOf_23 rfl ?_
  refine Ok.getR (pc' := 27) (k := 7) dX9_weightOf_24 rfl (shM_0 _) rfl inX9 (by decide) rfl wd_988 rfl ?_
  refine Ok.iload_n (pc' := 28) rfl dX9_weightOf_27 rfl ?_
  refine Ok.iald (pc' := 29) (z := h1.1 6 k2) dX9_weightOf_28 rfl (shM_6 _) (by decide) e2 q2 rfl ?_
  obtain ⟨q4, K⟩ := K
  refine Ok.isub (pc' := 30) dX9_weightOf_29 rfl q4 ?_
  obtain ⟨q5, K⟩ := K
  refine Ok.imul (pc' := 31) dX9_weightOf_30 rfl q5 ?_
  obtain ⟨q6, K⟩ := K
  refine Ok.iadd (pc' := 32) dX9_weightOf_31 rfl q6 ?_
  refine Ok.aload_n (pc' := 33) rfl dX9_weightOf_32 rfl ?_
  refine Ok.aload_n (pc' := 34) rfl dX9_weightOf_33 rfl ?_
  refine Ok.getR (pc' := 37) (k := 8) dX9_weightOf_34 rfl (shM_0 _) rfl inX9 (by decide) rfl wd_989 rfl ?_
  refine Ok.iload_n (pc' := 38) rfl dX9_weightOf_37 rfl ?_
  refine Ok.iald (pc' := 39) (z := h1.1 7 k2) dX9_weightOf_38 rfl (shM_7 _) (by decide) e2 q2 rfl ?_
  refine Ok.callV (pc' := 42) (av := [pI (h1.1 7 k2)]) (rest := [pI ((2 * h1.1 6 k2) + (3 * (r1 - h1.1 6 k2)))]) dX9_weightOf_39 rfl (by decide) cvX9_weightOf_100 (shM_0 _) rfl rfl rfl (leb rfl) (leb rfl) K (fun r2 h2 K => ?_)
  show Ok shM 0 0 mX9_weightOf 42 [some (pR 0), some (pI call), some (pI (h.1 2 k1)), some (pI r1)] [pI r2, pI ((2 * h1.1 6 k2) + (3 * (r1 - h1.1 6 k2)))] h2 Post
  obtain ⟨q7, K⟩ := K
  refine Ok.iadd (pc' := 43) dX9_weightOf_42 rfl q7 ?_
  exact Ok.iret dX9_weightOf_43 rfl (by decide) K
theorem sX9_puts_0 {s0 other : Int} {h : Hp} {Post : Int → Hp → Prop}
    (K : Cl shM mX9_bodyOf [pR 0, pI s0] h (fun r1 h1 => ∃ k1 : Nat, s0 = (k1 : Int) ∧ k1 < 600 ∧ (((r1 = (-4)) → ∃ k3 : Nat, other = (k3 : Int) ∧ k3 < 600 ∧ (Ok shM 0 0 mX9_puts 38 [some (pR 0), some (pI s0), some (pI other), none, some (pI (h1.1 4 k1)), some (pI 0)] [] (hA h1 4 k3 (h1.1 4 k1)) Post)) ∧ ((¬ r1 = (-4)) → ∃ k3 : Nat, r1 = (k3 : Int) ∧ k3 < 10 ∧ (∃ k4 : Nat, other = (k4 : Int) ∧ k4 < 600 ∧ (Ok shM 0 0 mX9_puts 38 [some (pR 0), some (pI s0), some (pI other), none, some (pI (h1.1 4 k1)), some (pI 0)] [] (hA (hA h1 7 k3 other) 4 k4 (h1.1 4 k1)) Post)))))) :
    Cl shM mX9_puts [pR 0, pI s0, pI other] h Post := by
  show Ok shM 0 0 mX9_puts 0 [some (pR 0), some (pI s0), some (pI other), none, none, none] [] h Post
  refine Ok.aload_n (pc' := 1) rfl dX9_puts_0 rfl ?_
  refine Ok.iload_n (pc' := 2) rfl dX9_puts_1 rfl ?_
  refine Ok.callV (pc' := 5) (av := [pI s0]) (rest := []) dX9_puts_2 rfl (by decide) cvX9_puts_114 (shM_0 _) rfl rfl rfl (leb rfl) (leb rfl) K (fun r1 h1 K => ?_)
  show Ok shM 0 0 mX9_puts 5 [some (pR 0), some (pI s0), some (pI other), none, none, none] [pI r1] h1 Post
  refine Ok.istore_n (pc' := 6) (ls' := [some (pR 0), some (pI s0), some (pI other), some (pI r1), none, none]) dX9_puts_5 rfl (by decide) rfl rfl ?_
  refine Ok.aload_n (pc' := 7) rfl dX9_puts_6 rfl ?_
  refine Ok.getR (pc' := 10) (k := 4) dX9_puts_7 rfl (shM_0 _) rfl inX9 (by decide) rfl wd_985 rfl ?_
  refine Ok.iload_n (pc' := 11) rfl dX9_puts_10 rfl ?_
  obtain ⟨k1, e1, q1, K⟩ := K
  refine Ok.iald (pc' := 12) (z := h1.1 4 k1) dX9_puts_11 rfl (shM_4 _) (by decide) e1 q1 rfl ?_
  refine Ok.istore (pc' := 14) (ls' := [some (pR 0), some (pI s0), some (pI other), some (pI r1), some (pI (h1.1 4 k1)), none]) dX9_puts_12 rfl (by decide) rfl rfl ?_
  refine Ok.iload_n (pc' := 15) rfl dX9_puts_14 rfl ?_
  refine Ok.bipush (pc' := 17) ⟨by decide, by decide⟩ dX9_puts_15 rfl ?_
  refine Ok.icmp_eq (tgt := 27) dX9_puts_17 rfl rfl (fun c2 => ?_) (fun c2 => ?_)
  · replace K := K.1 c2
    refine Ok.aload_n (pc' := 28) rfl dX9_puts_27 rfl ?_
    refine Ok.getR (pc' := 31) (k := 4) dX9_puts_28 rfl (shM_0 _) rfl inX9 (by decide) rfl wd_985 rfl ?_
    refine Ok.iload_n (pc' := 32) rfl dX9_puts_31 rfl ?_
    refine Ok.iload (pc' := 34) rfl dX9_puts_32 rfl ?_
    obtain ⟨k3, e3, q3, K⟩ := K
    refine Ok.iast (pc' := 35) dX9_puts_34 rfl (shM_4 _) (by decide) e3 q3 ?_
    refine Ok.iconst (pc' := 36) in_0 dX9_puts_35 rfl ?_
    refine Ok.istore (pc' := 38) (ls' := [some (pR 0), some (pI s0), some (pI other), some (pI r1), some (pI (h1.1 4 k1)), some (pI 0)]) dX9_puts_36 rfl (by decide) rfl rfl ?_
    exact Ok.fl (ls' := [some (pR 0), some (pI s0), some (pI other), none, some (pI (h1.1 4 k1)), some (pI 0)]) K ⟨rfl, rfl, rfl, rfl, rfl, trivial⟩
  · replace K := K.2 c2
    refine Ok.aload_n (pc' := 21) rfl dX9_puts_20 rfl ?_
    refine Ok.getR (pc' := 24) (k := 8) dX9_puts_21 rfl (shM_0 _) rfl inX9 (by decide) rfl wd_989 rfl ?_
    refine Ok.iload_n (pc' := 25) rfl dX9_puts_24 rfl ?_
    refine Ok.iload_n (pc' := 26) rfl dX9_puts_25 rfl ?_
    obtain ⟨k3, e3, q3, K⟩ := K
    refine Ok.iast (pc' := 27) dX9_puts_26 rfl (shM_7 _) (by decide) e3 q3 ?_
    refine Ok.aload_n (pc' := 28) rfl dX9_puts_27 rfl ?_
    refine Ok.getR (pc' := 31) (k := 4) dX9_puts_28 rfl (shM_0 _) rfl inX9 (by decide) rfl wd_985 rfl ?_
    refine Ok.iload_n (pc' := 32) rfl dX9_puts_31 rfl ?_
    refine Ok.iload (pc' := 34) rfl dX9_puts_32 rfl ?_
    obtain ⟨k4, e4, q4, K⟩ := K
    refine Ok.iast (pc' := 35) dX9_puts_34 rfl (shM_4 _) (by decide) e4 q4 ?_
    refine Ok.iconst (pc' := 36) in_0 dX9_puts_35 rfl ?_
    refine Ok.istore (pc' := 38) (ls' := [some (pR 0), some (pI s0), some (pI other), some (pI r1), some (pI (h1.1 4 k1)), some (pI 0)]) dX9_puts_36 rfl (by decide) rfl rfl ?_
    exact Ok.fl (ls' := [some (pR 0), some (pI s0), some (pI other), none, some (pI (h1.1 4 k1)), some (pI 0)]) K ⟨rfl, rfl, rfl, rfl, rfl, trivial⟩
theorem sX9_puts_38 {s0 other v4 v5 : Int} {h : Hp} {Post : Int → Hp → Prop}
    (K : ((3 ≤ v5) → ∃ k2 : Nat, s0 = (k2 : Int) ∧ k2 < 600 ∧ (Post 0 (hA h 4 k2 (-4)))) ∧ ((¬ 3 ≤ v5) → ((v4 = (-4)) → ∃ k3 : Nat, s0 = (k3 : Int) ∧ k3 < 600 ∧ (Post 0 (hA h 4 k3 (-4)))) ∧ ((¬ v4 = (-4)) → inR ((3 * v4)) ∧ (inR (((3 * v4) + v5)) ∧ (∃ k5 : Nat, ((3 * v4) + v5) = (k5 : Int) ∧ k5 < 1800 ∧ (((¬ h.1 3 k5 = s0) → inR ((v5 + 1)) ∧ (Ok shM 0 0 mX9_puts 38 [some (pR 0), some (pI s0), some (pI other), none, some (pI v4), some (pI (v5 + 1))] [] (hA h 3 k5 (h.1 3 k5)) Post)) ∧ ((h.1 3 k5 = s0) → inR ((v5 + 1)) ∧ (Ok shM 0 0 mX9_puts 38 [some (pR 0), some (pI s0), some (pI other), none, some (pI v4), some (pI (v5 + 1))] [] (hA h 3 k5 other) Post)))))))) :
    Ok shM 0 0 mX9_puts 38 [some (pR 0), some (pI s0), some (pI other), none, some (pI v4), some (pI v5)] [] h Post := by
  show Ok shM 0 0 mX9_puts 38 [some (pR 0), some (pI s0), some (pI other), none, some (pI v4), some (pI v5)] [] h Post
  refine Ok.iload (pc' := 40) rfl dX9_puts_38 rfl ?_
  refine Ok.iconst (pc' := 41) in_3 dX9_puts_40 rfl ?_
  refine Ok.icmp_ge (tgt := 101) dX9_puts_41 rfl rfl (fun c1 => ?_) (fun c1 => ?_)
  · replace K := K.1 c1
    refine Ok.aload_n (pc' := 102) rfl dX9_puts_101 rfl ?_
    refine Ok.getR (pc' := 105) (k := 4) dX9_puts_102 rfl (shM_0 _) rfl inX9 (by decide) rfl wd_985 rfl ?_
    refine Ok.iload_n (pc' := 106) rfl dX9_puts_105 rfl ?_
    refine Ok.bipush (pc' := 108) ⟨by decide, by decide⟩ dX9_puts_106 rfl ?_
    obtain ⟨k2, e2, q2, K⟩ := K
    refine Ok.iast (pc' := 109) dX9_puts_108 rfl (shM_4 _) (by decide) e2 q2 ?_
    exact Ok.vret dX9_puts_109 rfl (by decide) K
  · replace K := K.2 c1
    refine Ok.iload (pc' := 46) rfl dX9_puts_44 rfl ?_
    refine Ok.bipush (pc' := 48) ⟨by decide, by decide⟩ dX9_puts_46 rfl ?_
    refine Ok.icmp_eq (tgt := 101) dX9_puts_48 rfl rfl (fun c2 => ?_) (fun c2 => ?_)
    · replace K := K.1 c2
      refine Ok.aload_n (pc' := 102) rfl dX9_puts_101 rfl ?_
      refine Ok.getR (pc' := 105) (k := 4) dX9_puts_102 rfl (shM_0 _) rfl inX9 (by decide) rfl wd_985 rfl ?_
      refine Ok.iload_n (pc' := 106) rfl dX9_puts_105 rfl ?_
      refine Ok.bipush (pc' := 108) ⟨by decide, by decide⟩ dX9_puts_106 rfl ?_
      obtain ⟨k3, e3, q3, K⟩ := K
      refine Ok.iast (pc' := 109) dX9_puts_108 rfl (shM_4 _) (by decide) e3 q3 ?_
      exact Ok.vret dX9_puts_109 rfl (by decide) K
    · replace K := K.2 c2
      refine Ok.aload_n (pc' := 52) rfl dX9_puts_51 rfl ?_
      refine Ok.getR (pc' := 55) (k := 3) dX9_puts_52 rfl (shM_0 _) rfl inX9 (by decide) rfl wd_984 rfl ?_
      refine Ok.iconst (pc' := 56) in_3 dX9_puts_55 rfl ?_
      refine Ok.iload (pc' := 58) rfl dX9_puts_56 rfl ?_
      obtain ⟨q3, K⟩ := K
      refine Ok.imul (pc' := 59) dX9_puts_58 rfl q3 ?_
      refine Ok.iload (pc' := 61) rfl dX9_puts_59 rfl ?_
      obtain ⟨q4, K⟩ := K
      refine Ok.iadd (pc' := 62) dX9_puts_61 rfl q4 ?_
      refine Ok.aload_n (pc' := 63) rfl dX9_puts_62 rfl ?_
      refine Ok.getR (pc' := 66) (k := 3) dX9_puts_63 rfl (shM_0 _) rfl inX9 (by decide) rfl wd_984 rfl ?_
      refine Ok.iconst (pc' := 67) in_3 dX9_puts_66 rfl ?_
      refine Ok.iload (pc' := 69) rfl dX9_puts_67 rfl ?_
      refine Ok.imul (pc' := 70) dX9_puts_69 rfl q3 ?_
      refine Ok.iload (pc' := 72) rfl dX9_puts_70 rfl ?_
      refine Ok.iadd (pc' := 73) dX9_puts_72 rfl q4 ?_
      obtain ⟨k5, e5, q5, K⟩ := K
      refine Ok.iald (pc' := 74) (z := h.1 3 k5) dX9_puts_73 rfl (shM_3 _) (by decide) e5 q5 rfl ?_
      refine Ok.iload_n (pc' := 75) rfl dX9_puts_74 rfl ?_
      refine Ok.icmp_ne (tgt := 82) dX9_puts_75 rfl rfl (fun c6 => ?_) (fun c6 => ?_)
      · replace K := K.1 c6
        refine Ok.aload_n (pc' := 83) rfl dX9_puts_82 rfl ?_
        refine Ok.getR (pc' := 86) (k := 3) dX9_puts_83 rfl (shM_0 _) rfl inX9 (by decide) rfl wd_984 rfl ?_
        refine Ok.iconst (pc' := 87) in_3 dX9_puts_86 rfl ?_
        refine Ok.iload (pc' := 89) rfl dX9_puts_87 rfl ?_
        refine Ok.imul (pc' := 90) dX9_puts_89 rfl q3 ?_
        refine Ok.iload (pc' := 92) rfl dX9_puts_90 rfl ?_
        refine Ok.iadd (pc' := 93) dX9_puts_92 rfl q4 ?_
        refine Ok.iald (pc' := 94) (z := h.1 3 k5) dX9_puts_93 rfl (shM_3 _) (by decide) e5 q5 rfl ?_
        refine Ok.iast (pc' := 95) dX9_puts_94 rfl (shM_3 _) (by decide) e5 q5 ?_
        obtain ⟨q7, K⟩ := K
        refine Ok.iinc (pc' := 98) (ls' := [some (pR 0), some (pI s0), some (pI other), none, some (pI v4), some (pI (v5 + 1))]) dX9_puts_95 rfl rfl (by decide) rfl rfl q7 ?_
        refine Ok.goto (tgt := 38) dX9_puts_98 rfl ?_
        exact K
      · replace K := K.2 c6
        refine Ok.iload_n (pc' := 79) rfl dX9_puts_78 rfl ?_
        refine Ok.goto (tgt := 94) dX9_puts_79 rfl ?_
        refine Ok.iast (pc' := 95) dX9_puts_94 rfl (shM_3 _) (by decide) e5 q5 ?_
        obtain ⟨q7, K⟩ := K
        refine Ok.iinc (pc' := 98) (ls' := [some (pR 0), some (pI s0), some (pI other), none, some (pI v4), some (pI (v5 + 1))]) dX9_puts_95 rfl rfl (by decide) rfl rfl q7 ?_
        refine Ok.goto (tgt := 38) dX9_puts_98 rfl ?_
        exact K
