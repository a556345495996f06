theorem sX1_isMade_0 {step : Int} {h : Hp} {Post : Int → Hp → Prop}
    (K : ((step < 0) → Post 0 h) ∧ ((¬ step < 0) → ((h.2.1 2 6 ≤ step) → Post 0 h) ∧ ((¬ h.2.1 2 6 ≤ step) → Post 1 h))) :
    Cl shC mX1_isMade [pR 1, pI step] h Post := by
  show Ok shC 0 0 mX1_isMade 0 [some (pR 1), some (pI step)] [] h Post
  refine Ok.iload_n (pc' := 1) rfl dX1_isMade_0 rfl ?_
  refine Ok.if_lt (tgt := 19) dX1_isMade_1 rfl rfl (fun c1 => ?_) (fun c1 => ?_)
  · replace K := K.1 c1
    refine Ok.iconst (pc' := 20) in_0 dX1_isMade_19 rfl ?_
    exact Ok.zret dX1_isMade_20 rfl (by decide) (Or.inl rfl) K
  · replace K := K.2 c1
    refine Ok.iload_n (pc' := 5) rfl dX1_isMade_4 rfl ?_
    refine Ok.aload_n (pc' := 6) rfl dX1_isMade_5 rfl ?_
    refine Ok.getR (pc' := 9) (k := 0) dX1_isMade_6 rfl (shC_1 _) rfl inX1 (by decide) rfl wd_188 rfl ?_
    refine Ok.getIN (pc' := 12) (z := h.2.1 2 6) (k := 6) dX1_isMade_9 rfl (shC_2 _) rfl inX5 (by decide) rfl rfl wd_130 rfl ?_
    refine Ok.icmp_ge (tgt := 19) dX1_isMade_12 rfl rfl (fun c2 => ?_) (fun c2 => ?_)
    · replace K := K.1 c2
      refine Ok.iconst (pc' := 20) in_0 dX1_isMade_19 rfl ?_
      exact Ok.zret dX1_isMade_20 rfl (by decide) (Or.inl rfl) K
    · replace K := K.2 c2
      refine Ok.iconst (pc' := 16) in_1 dX1_isMade_15 rfl ?_
      refine Ok.goto (tgt := 20) dX1_isMade_16 rfl ?_
      exact Ok.zret dX1_isMade_20 rfl (by decide) (Or.inr rfl) K
theorem sX1_isStep_0 {step : Int} {h : Hp} {Post : Int → Hp → Prop}
    (K : Cl shC mX5_isStep [pR 2, pI step] h (fun r1 h1 => (r1 = 0 ∨ r1 = 1) ∧ Post r1 h1)) :
    Cl shC mX1_isStep [pR 1, pI step] h Post := by
  show Ok shC 0 0 mX1_isStep 0 [some (pR 1), some (pI step)] [] h Post
  refine Ok.aload_n (pc' := 1) rfl dX1_isStep_0 rfl ?_
  refine Ok.getR (pc' := 4) (k := 0) dX1_isStep_1 rfl (shC_1 _) rfl inX1 (by decide) rfl wd_188 rfl ?_
  refine Ok.iload_n (pc' := 5) rfl dX1_isStep_4 rfl ?_
  refine Ok.callV (pc' := 8) (av := [pI step]) (rest := []) dX1_isStep_5 rfl (by decide) cvX1_isStep_32 (shC_2 _) rfl rfl rfl (leb rfl) (leb rfl) K (fun r1 h1 K => ?_)
  show Ok shC 0 0 mX1_isStep 8 [some (pR 1), some (pI step)] [pI r1] h1 Post
  exact Ok.zret dX1_isStep_8 rfl (by decide) K.1 K.2
theorem sX1_isLoose_0 {step : Int} {h : Hp} {Post : Int → Hp → Prop}
    (K : Cl shC mX5_isStep [pR 2, pI step] h (fun r1 h1 => ((r1 = 0) → Post 0 h1) ∧ ((¬ r1 = 0) → ∃ k2 : Nat, step = (k2 : Int) ∧ k2 < 600 ∧ (((¬ h1.1 6 k2 = (-4)) → Post 0 h1) ∧ ((h1.1 6 k2 = (-4)) → Cl shC mX1_ownerOf [pR 1, pI step] h1 (fun r2 h2 => ((¬ r2 = (-4)) → Post 0 h2) ∧ ((r2 = (-4)) → Post 1 h2))))))) :
    Cl shC mX1_isLoose [pR 1, pI step] h Post := by
  show Ok shC 0 0 mX1_isLoose 0 [some (pR 1), some (pI step)] [] h Post
  refine Ok.aload_n (pc' := 1) rfl dX1_isLoose_0 rfl ?_
  refine Ok.getR (pc' := 4) (k := 0) dX1_isLoose_1 rfl (shC_1 _) rfl inX1 (by decide) rfl wd_188 rfl ?_
  refine Ok.iload_n (pc' := 5) rfl dX1_isLoose_4 rfl ?_
  refine Ok.callV (pc' := 8) (av := [pI step]) (rest := []) dX1_isLoose_5 rfl (by decide) cvX1_isLoose_32 (shC_2 _) rfl rfl rfl (leb rfl) (leb rfl) K (fun r1 h1 K => ?_)
  show Ok shC 0 0 mX1_isLoose 8 [some (pR 1), some (pI step)] [pI r1] h1 Post
  refine Ok.if_eq (tgt := 39) dX1_isLoose_8 rfl rfl (fun c1 => ?_) (fun c1 => ?_)
  · replace K := K.1 c1
    refine Ok.iconst (pc' := 40) in_0 dX1_isLoose_39 rfl ?_
    exact Ok.zret dX1_isLoose_40 rfl (by decide) (Or.inl rfl) K
  · replace K := K.2 c1
    refine Ok.aload_n (pc' := 12) rfl dX1_isLoose_11 rfl ?_
    refine Ok.getR (pc' := 15) (k := 0) dX1_isLoose_12 rfl (shC_1 _) rfl inX1 (by decide) rfl wd_188 rfl ?_
    refine Ok.getRN (pc' := 18) (k := 3) dX1_isLoose_15 rfl (shC_2 _) rfl inX5 (by decide) rfl wd_125 rfl ?_
    refine Ok.iload_n (pc' := 19) rfl dX1_isLoose_18 rfl ?_
    obtain ⟨k2, e2, q2, K⟩ := K
    refine Ok.iald (pc' := 20) (z := h1.1 6 k2) dX1_isLoose_19 rfl (shC_6 _) (by decide) e2 q2 rfl ?_
    refine Ok.bipush (pc' := 22) ⟨by decide, by decide⟩ dX1_isLoose_20 rfl ?_
    refine Ok.icmp_ne (tgt := 39) dX1_isLoose_22 rfl rfl (fun c3 => ?_) (fun c3 => ?_)
    · replace K := K.1 c3
      refine Ok.iconst (pc' := 40) in_0 dX1_isLoose_39 rfl ?_
      exact Ok.zret dX1_isLoose_40 rfl (by decide) (Or.inl rfl) K
    · replace K := K.2 c3
      refine Ok.aload_n (pc' := 26) rfl dX1_isLoose_25 rfl ?_
      refine Ok.iload_n (pc' := 27) rfl dX1_isLoose_26 rfl ?_
      refine Ok.callV (pc' := 30) (av := [pI step]) (rest := []) dX1_isLoose_27 rfl (by decide) cvX1_isLoose_40 (shC_1 _) rfl rfl rfl (leb rfl) (leb rfl) K (fun r2 h2 K => ?_)
      show Ok shC 0 0 mX1_isLoose 30 [some (pR 1), some (pI step)] [pI r2] h2 Post
      refine Ok.bipush (pc' := 32) ⟨by decide, by decide⟩ dX1_isLoose_30 rfl ?_
      refine Ok.icmp_ne (tgt := 39) dX1_isLoose_32 rfl rfl (fun c4 => ?_) (fun c4 => ?_)
      · replace K := K.1 c4
        refine Ok.iconst (pc' := 40) in_0 dX1_isLoose_39 rfl ?_
        exact Ok.zret dX1_isLoose_40 rfl (by decide) (Or.inl rfl) K
      · replace K := K.2 c4
        refine Ok.iconst (pc' := 36) in_1 dX1_isLoose_35 rfl ?_
        refine Ok.goto (tgt := 40) dX1_isLoose_36 rfl ?_
        exact Ok.zret dX1_isLoose_40 rfl (by decide) (Or.inr rfl) K
theorem sX1_isRoutine_0 {r : Int} {h : Hp} {Post : Int → Hp → Prop}
    (K : ((r < 0) → Post 0 h) ∧ ((¬ r < 0) → ((h.2.1 2 7 ≤ r) → Post 0 h) ∧ ((¬ h.2.1 2 7 ≤ r) → Post 1 h))) :
    Cl shC mX1_isRoutine [pR 1, pI r] h Post := by
  show Ok shC 0 0 mX1_isRoutine 0 [some (pR 1), some (pI r)] [] h Post
  refine Ok.iload_n (pc' := 1) rfl dX1_isRoutine_0 rfl ?_
  refine Ok.if_lt (tgt := 19) dX1_isRoutine_1 rfl rfl (fun c1 => ?_) (fun c1 => ?_)
  · replace K := K.1 c1
    refine Ok.iconst (pc' := 20) in_0 dX1_isRoutine_19 rfl ?_
    exact Ok.zret dX1_isRoutine_20 rfl (by decide) (Or.inl rfl) K
  · replace K := K.2 c1
    refine Ok.iload_n (pc' := 5) rfl dX1_isRoutine_4 rfl ?_
    refine Ok.aload_n (pc' := 6) rfl dX1_isRoutine_5 rfl ?_
    refine Ok.getR (pc' := 9) (k := 0) dX1_isRoutine_6 rfl (shC_1 _) rfl inX1 (by decide) rfl wd_188 rfl ?_
    refine Ok.getIN (pc' := 12) (z := h.2.1 2 7) (k := 7) dX1_isRoutine_9 rfl (shC_2 _) rfl inX5 (by decide) rfl rfl wd_137 rfl ?_
    refine Ok.icmp_ge (tgt := 19) dX1_isRoutine_12 rfl rfl (fun c2 => ?_) (fun c2 => ?_)
    · replace K := K.1 c2
      refine Ok.iconst (pc' := 20) in_0 dX1_isRoutine_19 rfl ?_
      exact Ok.zret dX1_isRoutine_20 rfl (by decide) (Or.inl rfl) K
    · replace K := K.2 c2
      refine Ok.iconst (pc' := 16) in_1 dX1_isRoutine_15 rfl ?_
      refine Ok.goto (tgt := 20) dX1_isRoutine_16 rfl ?_
      exact Ok.zret dX1_isRoutine_20 rfl (by decide) (Or.inr rfl) K
theorem sX1_isMissing_0 {r : Int} {h : Hp} {Post : Int → Hp → Prop}
    (K : Cl shC mX1_bodyOf [pR 1, pI r] h (fun r1 h1 => ((¬ r1 = (-4)) → Post 0 h1) ∧ ((r1 = (-4)) → Post 1 h1))) :
    Cl shC mX1_isMissing [pR 1, pI r] h Post := by
  show Ok shC 0 0 mX1_isMissing 0 [some (pR 1), some (pI r)] [] h Post
  refine Ok.aload_n (pc' := 1) rfl dX1_isMissing_0 rfl ?_
  refine Ok.iload_n (pc' := 2) rfl dX1_isMissing_1 rfl ?_
  refine Ok.callV (pc' := 5) (av := [pI r]) (rest := []) dX1_isMissing_2 rfl (by decide) cvX1_isMissing_47 (shC_1 _) rfl rfl rfl (leb rfl) (leb rfl) K (fun r1 h1 K => ?_)
  show Ok shC 0 0 mX1_isMissing 5 [some (pR 1), some (pI r)] [pI r1] h1 Post
  refine Ok.bipush (pc' := 7) ⟨by decide, by decide⟩ dX1_isMissing_5 rfl ?_
  refine Ok.icmp_ne (tgt := 14) dX1_isMissing_7 rfl rfl (fun c1 => ?_) (fun c1 => ?_)
  · replace K := K.1 c1
    refine Ok.iconst (pc' := 15) in_0 dX1_isMissing_14 rfl ?_
    exact Ok.zret dX1_isMissing_15 rfl (by decide) (Or.inl rfl) K
  · replace K := K.2 c1
    refine Ok.iconst (pc' := 11) in_1 dX1_isMissing_10 rfl ?_
    refine Ok.goto (tgt := 15) dX1_isMissing_11 rfl ?_
    exact Ok.zret dX1_isMissing_15 rfl (by decide) (Or.inr rfl) K
theorem sX1_isCallInBody_0 {step : Int} {h : Hp} {Post : Int → Hp → Prop}
    (K : Cl shC mX1_kindOf [pR 1, pI step] h (fun r1 h1 => ((¬ r1 = 6) → Post 0 h1) ∧ ((r1 = 6) → Cl shC mX1_routineOf [pR 1, pI step] h1 (fun r2 h2 => ((r2 = (-4)) → Post 0 h2) ∧ ((¬ r2 = (-4)) → Post 1 h2))))) :
    Cl shC mX1_isCallInBody [pR 1, pI step] h Post := by
  show Ok shC 0 0 mX1_isCallInBody 0 [some (pR 1), some (pI step)] [] h Post
  refine Ok.aload_n (pc' := 1) rfl dX1_isCallInBody_0 rfl ?_
  refine Ok.iload_n (pc' := 2) rfl dX1_isCallInBody_1 rfl ?_
  refine Ok.callV (pc' := 5) (av := [pI step]) (rest := []) dX1_isCallInBody_2 rfl (by decide) cvX1_isCallInBody_50 (shC_1 _) rfl rfl rfl (leb rfl) (leb rfl) K (fun r1 h1 K => ?_)
  show Ok shC 0 0 mX1_isCallInBody 5 [some (pR 1), some (pI step)] [pI r1] h1 Post
  refine Ok.bipush (pc' := 7) ⟨by decide, by decide⟩ dX1_isCallInBody_5 rfl ?_
  refine Ok.icmp_ne (tgt := 24) dX1_isCallInBody_7 rfl rfl (fun c1 => ?_) (fun c1 => ?_)
  · replace K := K.1 c1
    refine Ok.iconst (pc' := 25) in_0 dX1_isCallInBody_24 rfl ?_
    exact Ok.zret dX1_isCallInBody_25 rfl (by decide) (Or.inl rfl) K
  · replace K := K.2 c1
    refine Ok.aload_n (pc' := 11) rfl dX1_isCallInBody_10 rfl ?_
    refine Ok.iload_n (pc' := 12) rfl dX1_isCallInBody_11 rfl ?_
    refine Ok.callV (pc' := 15) (av := [pI step]) (rest := []) dX1_isCallInBody_12 rfl (by decide) cvX1_isCallInBody_53 (shC_1 _) rfl rfl rfl (leb rfl) (leb rfl) K (fun r2 h2 K => ?_)
    show Ok shC 0 0 mX1_isCallInBody 15 [some (pR 1), some (pI step)] [pI r2] h2 Post
    refine Ok.bipush (pc' := 17) ⟨by decide, by decide⟩ dX1_isCallInBody_15 rfl ?_
    refine Ok.icmp_eq (tgt := 24) dX1_isCallInBody_17 rfl rfl (fun c2 => ?_) (fun c2 => ?_)
    · replace K := K.1 c2
      refine Ok.iconst (pc' := 25) in_0 dX1_isCallInBody_24 rfl ?_
      exact Ok.zret dX1_isCallInBody_25 rfl (by decide) (Or.inl rfl) K
    · replace K := K.2 c2
      refine Ok.iconst (pc' := 21) in_1 dX1_isCallInBody_20 rfl ?_
      refine Ok.goto (tgt := 25) dX1_isCallInBody_21 rfl ?_
      exact Ok.zret dX1_isCallInBody_25 rfl (by decide) (Or.inr rfl) K
theorem sX1_kindOf_0 {step : Int} {h : Hp} {Post : Int → Hp → Prop}
    (K : ((step < 0) → Post (-1) h) ∧ ((¬ step < 0) → ((h.2.1 2 6 ≤ step) → Post (-1) h) ∧ ((¬ h.2.1 2 6 ≤ step) → ∃ k3 : Nat, step = (k3 : Int) ∧ k3 < 600 ∧ (Post (h.1 3 k3) h)))) :
    Cl shC mX1_kindOf [pR 1, pI step] h Post := by
  show Ok shC 0 0 mX1_kindOf 0 [some (pR 1), some (pI step)] [] h Post
  refine Ok.iload_n (pc' := 1) rfl dX1_kindOf_0 rfl ?_
  refine Ok.if_lt (tgt := 27) dX1_kindOf_1 rfl rfl (fun c1 => ?_) (fun c1 => ?_)
  · replace K := K.1 c1
    refine Ok.iconst (pc' := 28) in_m1 dX1_kindOf_27 rfl ?_
    exact Ok.iret dX1_kindOf_28 rfl (by decide) K
  · replace K := K.2 c1
    refine Ok.iload_n (pc' := 5) rfl dX1_kindOf_4 rfl ?_
    refine Ok.aload_n (pc' := 6) rfl dX1_kindOf_5 rfl ?_
    refine Ok.getR (pc' := 9) (k := 0) dX1_kindOf_6 rfl (shC_1 _) rfl inX1 (by decide) rfl wd_188 rfl ?_
    refine Ok.getIN (pc' := 12) (z := h.2.1 2 6) (k := 6) dX1_kindOf_9 rfl (shC_2 _) rfl inX5 (by decide) rfl rfl wd_130 rfl ?_
    refine Ok.icmp_ge (tgt := 27) dX1_kindOf_12 rfl rfl (fun c2 => ?_) (fun c2 => ?_)
    · replace K := K.1 c2
      refine Ok.iconst (pc' := 28) in_m1 dX1_kindOf_27 rfl ?_
      exact Ok.iret dX1_kindOf_28 rfl (by decide) K
    · replace K := K.2 c2
      refine Ok.aload_n (pc' := 16) rfl dX1_kindOf_15 rfl ?_
      refine Ok.getR (pc' := 19) (k := 0) dX1_kindOf_16 rfl (shC_1 _) rfl inX1 (by decide) rfl wd_188 rfl ?_
      refine Ok.getRN (pc' := 22) (k := 0) dX1_kindOf_19 rfl (shC_2 _) rfl inX5 (by decide) rfl wd_118 rfl ?_
      refine Ok.iload_n (pc' := 23) rfl dX1_kindOf_22 rfl ?_
      obtain ⟨k3, e3, q3, K⟩ := K
      refine Ok.iald (pc' := 24) (z := h.1 3 k3) dX1_kindOf_23 rfl (shC_3 _) (by decide) e3 q3 rfl ?_
      refine Ok.goto (tgt := 28) dX1_kindOf_24 rfl ?_
      exact Ok.iret dX1_kindOf_28 rfl (by decide) K
theorem sX1_numberOf_0 {step : Int} {h : Hp} {Post : Int → Hp → Prop}
    (K : ((step < 0) → Post 0 h) ∧ ((¬ step < 0) → ((h.2.1 2 6 ≤ step) → Post 0 h) ∧ ((¬ h.2.1 2 6 ≤ step) → ∃ k3 : Nat, step = (k3 : Int) ∧ k3 < 600 ∧ (Post (h.1 4 k3) h)))) :
    Cl shC mX1_numberOf [pR 1, pI step] h Post := by
  show Ok shC 0 0 mX1_numberOf 0 [some (pR 1), some (pI step)] [] h Post
  refine Ok.iload_n (pc' := 1) rfl dX1_numberOf_0 rfl ?_
  refine Ok.if_lt (tgt := 27) dX1_numberOf_1 rfl rfl (fun c1 => ?_) (fun c1 => ?_)
  · replace K := K.1 c1
    refine Ok.iconst (pc' := 28) in_0 dX1_numberOf_27 rfl ?_
    exact Ok.iret dX1_numberOf_28 rfl (by decide) K
  · replace K := K.2 c1
    refine Ok.iload_n (pc' := 5) rfl dX1_numberOf_4 rfl ?_
    refine Ok.aload_n (pc' := 6) rfl dX1_numberOf_5 rfl ?_
    refine Ok.getR (pc' := 9) (k := 0) dX1_numberOf_6 rfl (shC_1 _) rfl inX1 (by decide) rfl wd_188 rfl ?_
    refine Ok.getIN (pc' := 12) (z := h.2.1 2 6) (k := 6) dX1_numberOf_9 rfl (shC_2 _) rfl inX5 (by decide) rfl rfl wd_130 rfl ?_
    refine Ok.icmp_ge (tgt := 27) dX1_numberOf_12 rfl rfl (fun c2 => ?_) (fun c2 => ?_)
    · replace K := K.1 c2
      refine Ok.iconst (pc' := 28) in_0 dX1_numberOf_27 rfl ?_
      exact Ok.iret dX1_numberOf_28 rfl (by decide) K
    · replace K := K.2 c2
      refine Ok.aload_n (pc' := 16) rfl dX1_numberOf_15 rfl ?_
      refine Ok.getR (pc' := 19) (k := 0) dX1_numberOf_16 rfl (shC_1 _) rfl inX1 (by decide) rfl wd_188 rfl ?_
      refine Ok.getRN (pc' := 22) (k := 1) dX1_numberOf_19 rfl (shC_2 _) rfl inX5 (by decide) rfl wd_120 rfl ?_
      refine Ok.iload_n (pc' := 23) rfl dX1_numberOf_22 rfl ?_
      obtain ⟨k3, e3, q3, K⟩ := K
      refine Ok.iald (pc' := 24) (z := h.1 4 k3) dX1_numberOf_23 rfl (shC_4 _) (by decide) e3 q3 rfl ?_
      refine Ok.goto (tgt := 28) dX1_numberOf_24 rfl ?_
      exact Ok.iret dX1_numberOf_28 rfl (by decide) K
theorem sX1_partOf_0 {step place : Int} {h : Hp} {Post : Int → Hp → Prop}
    (K : ((step < 0) → Post (-4) h) ∧ ((¬ step < 0) → ((h.2.1 2 6 ≤ step) → Post (-4) h) ∧ ((¬ h.2.1 2 6 ≤ step) → ((place < 0) → Post (-4) h) ∧ ((¬ place < 0) → ((place < 3) → inR ((step * 3)) ∧ (inR (((step * 3) + place)) ∧ (∃ k7 : Nat, ((step * 3) + place) = (k7 : Int) ∧ k7 < 1800 ∧ (Post (h.1 5 k7) h)))) ∧ ((¬ place < 3) → Post (-4) h))))) :
    Cl shC mX1_partOf [pR 1, pI step, pI place] h Post := by
  show Ok shC 0 0 mX1_partOf 0 [some (pR 1), some (pI step), some (pI place)] [] h Post
  refine Ok.iload_n (pc' := 1) rfl dX1_partOf_0 rfl ?_
  refine Ok.if_lt (tgt := 24) dX1_partOf_1 rfl rfl (fun c1 => ?_) (fun c1 => ?_)
  · replace K := K.1 c1
    refine Ok.bipush (pc' := 26) ⟨by decide, by decide⟩ dX1_partOf_24 rfl ?_
    exact Ok.iret dX1_partOf_26 rfl (by decide) K
  · replace K := K.2 c1
    refine Ok.iload_n (pc' := 5) rfl dX1_partOf_4 rfl ?_
    refine Ok.aload_n (pc' := 6) rfl dX1_partOf_5 rfl ?_
    refine Ok.getR (pc' := 9) (k := 0) dX1_partOf_6 rfl (shC_1 _) rfl inX1 (by decide) rfl wd_188 rfl ?_
    refine Ok.getIN (pc' := 12) (z := h.2.1 2 6) (k := 6) dX1_partOf_9 rfl (shC_2 _) rfl inX5 (by decide) rfl rfl wd_130 rfl ?_
    refine Ok.icmp_ge (tgt := 24) dX1_partOf_12 rfl rfl (fun c2 => ?_) (fun c2 => ?_)
    · replace K := K.1 c2
      refine Ok.bipush (pc' := 26) ⟨by decide, by decide⟩ dX1_partOf_24 rfl ?_
      exact Ok.iret dX1_partOf_26 rfl (by decide) K
    · replace K := K.2 c2
      refine Ok.iload_n (pc' := 16) rfl dX1_partOf_15 rfl ?_
      refine Ok.if_lt (tgt := 24) dX1_partOf_16 rfl rfl (fun c3 => ?_) (fun c3 => ?_)
      · replace K := K.1 c3
        refine Ok.bipush (pc' := 26) ⟨by decide, by decide⟩ dX1_partOf_24 rfl ?_
        exact Ok.iret dX1_partOf_26 rfl (by decide) K
      · replace K := K.2 c3
        refine Ok.iload_n (pc' := 20) rfl dX1_partOf_19 rfl ?_
        refine Ok.iconst (pc' := 21) in_3 dX1_partOf_20 rfl ?_
        refine Ok.icmp_lt (tgt := 27) dX1_partOf_21 rfl rfl (fun c4 => ?_) (fun c4 => ?_)
        · replace K := K.1 c4
          refine Ok.aload_n (pc' := 28) rfl dX1_partOf_27 rfl ?_
          refine Ok.getR (pc' := 31) (k := 0) dX1_partOf_28 rfl (shC_1 _) rfl inX1 (by decide) rfl wd_188 rfl ?_
          refine Ok.getRN (pc' := 34) (k := 2) dX1_partOf_31 rfl (shC_2 _) rfl inX5 (by decide) rfl wd_123 rfl ?_
          refine Ok.iload_n (pc' := 35) rfl dX1_partOf_34 rfl ?_
          refine Ok.iconst (pc' := 36) in_3 dX1_partOf_35 rfl ?_
          obtain ⟨q5, K⟩ := K
          refine Ok.imul (pc' := 37) dX1_partOf_36 rfl q5 ?_
          refine Ok.iload_n (pc' := 38) rfl dX1_partOf_37 rfl ?_
          obtain ⟨q6, K⟩ := K
          refine Ok.iadd (pc' := 39) dX1_partOf_38 rfl q6 ?_
          obtain ⟨k7, e7, q7, K⟩ := K
          refine Ok.iald (pc' := 40) (z := h.1 5 k7) dX1_partOf_39 rfl (shC_5 _) (by decide) e7 q7 rfl ?_
          exact Ok.iret dX1_partOf_40 rfl (by decide) K
        · replace K := K.2 c4
          refine Ok.bipush (pc' := 26) ⟨by decide, by decide⟩ dX1_partOf_24 rfl ?_
          exact Ok.iret dX1_partOf_26 rfl (by decide) K
theorem sX1_parentOf_0 {step : Int} {h : Hp} {Post : Int → Hp → Prop}
    (K : ((step < 0) → Post (-4) h) ∧ ((¬ step < 0) → ((h.2.1 2 6 ≤ step) → Post (-4) h) ∧ ((¬ h.2.1 2 6 ≤ step) → ∃ k3 : Nat, step = (k3 : Int) ∧ k3 < 600 ∧ (Post (h.1 6 k3) h)))) :
    Cl shC mX1_parentOf [pR 1, pI step] h Post := by
  show Ok shC 0 0 mX1_parentOf 0 [some (pR 1), some (pI step)] [] h Post
  refine Ok.iload_n (pc' := 1) rfl dX1_parentOf_0 rfl ?_
  refine Ok.if_lt (tgt := 27) dX1_parentOf_1 rfl rfl (fun c1 => ?_) (fun c1 => ?_)
  · replace K := K.1 c1
    refine Ok.bipush (pc' := 29) ⟨by decide, by decide⟩ dX1_parentOf_27 rfl ?_
    exact Ok.iret dX1_parentOf_29 rfl (by decide) K
  · replace K := K.2 c1
    refine Ok.iload_n (pc' := 5) rfl dX1_parentOf_4 rfl ?_
    refine Ok.aload_n (pc' := 6) rfl dX1_parentOf_5 rfl ?_
    refine Ok.getR (pc' := 9) (k := 0) dX1_parentOf_6 rfl (shC_1 _) rfl inX1 (by decide) rfl wd_188 rfl ?_
    refine Ok.getIN (pc' := 12) (z := h.2.1 2 6) (k := 6) dX1_parentOf_9 rfl (shC_2 _) rfl inX5 (by decide) rfl rfl wd_130 rfl ?_
    refine Ok.icmp_ge (tgt := 27) dX1_parentOf_12 rfl rfl (fun c2 => ?_) (fun c2 => ?_)
    · replace K := K.1 c2
      refine Ok.bipush (pc' := 29) ⟨by decide, by decide⟩ dX1_parentOf_27 rfl ?_
      exact Ok.iret dX1_parentOf_29 rfl (by decide) K
    · replace K := K.2 c2
      refine Ok.aload_n (pc' := 16) rfl dX1_parentOf_15 rfl ?_
      refine Ok.getR (pc' := 19) (k := 0) dX1_parentOf_16 rfl (shC_1 _) rfl inX1 (by decide) rfl wd_188 rfl ?_
      refine Ok.getRN (pc' := 22) (k := 3) dX1_parentOf_19 rfl (shC_2 _) rfl inX5 (by decide) rfl wd_125 rfl ?_
      refine Ok.iload_n (pc' := 23) rfl dX1_parentOf_22 rfl ?_
      obtain ⟨k3, e3, q3, K⟩ := K
      refine Ok.iald (pc' := 24) (z := h.1 6 k3) dX1_parentOf_23 rfl (shC_6 _) (by decide) e3 q3 rfl ?_
      refine Ok.goto (tgt := 29) dX1_parentOf_24 rfl ?_
      exact Ok.iret dX1_parentOf_29 rfl (by decide) K
theorem sX1_paramsOf_0 {r : Int} {h : Hp} {Post : Int → Hp → Prop}
    (K : ((r < 0) → Post 0 h) ∧ ((¬ r < 0) → ((h.2.1 2 7 ≤ r) → Post 0 h) ∧ ((¬ h.2.1 2 7 ≤ r) → ∃ k3 : Nat, r = (k3 : Int) ∧ k3 < 10 ∧ (Post (h.1 7 k3) h)))) :
    Cl shC mX1_paramsOf [pR 1, pI r] h Post := by
  show Ok shC 0 0 mX1_paramsOf 0 [some (pR 1), some (pI r)] [] h Post
  refine Ok.iload_n (pc' := 1) rfl dX1_paramsOf_0 rfl ?_
  refine Ok.if_lt (tgt := 27) dX1_paramsOf_1 rfl rfl (fun c1 => ?_) (fun c1 => ?_)
  · replace K := K.1 c1
    refine Ok.iconst (pc' := 28) in_0 dX1_paramsOf_27 rfl ?_
    exact Ok.iret dX1_paramsOf_28 rfl (by decide) K
  · replace K := K.2 c1
    refine Ok.iload_n (pc' := 5) rfl dX1_paramsOf_4 rfl ?_
    refine Ok.aload_n (pc' := 6) rfl dX1_paramsOf_5 rfl ?_
    refine Ok.getR (pc' := 9) (k := 0) dX1_paramsOf_6 rfl (shC_1 _) rfl inX1 (by decide) rfl wd_188 rfl ?_
    refine Ok.getIN (pc' := 12) (z := h.2.1 2 7) (k := 7) dX1_paramsOf_9 rfl (shC_2 _) rfl inX5 (by decide) rfl rfl wd_137 rfl ?_
    refine Ok.icmp_ge (tgt := 27) dX1_paramsOf_12 rfl rfl (fun c2 => ?_) (fun c2 => ?_)
    · replace K := K.1 c2
      refine Ok.iconst (pc' := 28) in_0 dX1_paramsOf_27 rfl ?_
      exact Ok.iret dX1_paramsOf_28 rfl (by decide) K
    · replace K := K.2 c2
      refine Ok.aload_n (pc' := 16) rfl dX1_paramsOf_15 rfl ?_
      refine Ok.getR (pc' := 19) (k := 0) dX1_paramsOf_16 rfl (shC_1 _) rfl inX1 (by decide) rfl wd_188 rfl ?_
      refine Ok.getRN (pc' := 22) (k := 4) dX1_paramsOf_19 rfl (shC_2 _) rfl inX5 (by decide) rfl wd_127 rfl ?_
      refine Ok.iload_n (pc' := 23) rfl dX1_paramsOf_22 rfl ?_
      obtain ⟨k3, e3, q3, K⟩ := K
      refine Ok.iald (pc' := 24) (z := h.1 7 k3) dX1_paramsOf_23 rfl (shC_7 _) (by decide) e3 q3 rfl ?_
      refine Ok.goto (tgt := 28) dX1_paramsOf_24 rfl ?_
      exact Ok.iret dX1_paramsOf_28 rfl (by decide) K
theorem sX1_bodyOf_0 {r : Int} {h : Hp} {Post : Int → Hp → Prop}
    (K : ((r < 0) → Post (-4) h) ∧ ((¬ r < 0) → ((h.2.1 2 7 ≤ r) → Post (-4) h) ∧ ((¬ h.2.1 2 7 ≤ r) → ∃ k3 : Nat, r = (k3 : Int) ∧ k3 < 10 ∧ (Post (h.1 8 k3) h)))) :
    Cl shC mX1_bodyOf [pR 1, pI r] h Post := by
  show Ok shC 0 0 mX1_bodyOf 0 [some (pR 1), some (pI r)] [] h Post
  refine Ok.iload_n (pc' := 1) rfl dX1_bodyOf_0 rfl ?_
  refine Ok.if_lt (tgt := 27) dX1_bodyOf_1 rfl rfl (fun c1 => ?_) (fun c1 => ?_)
  · replace K := K.1 c1
    refine Ok.bipush (pc' := 29) ⟨by decide, by decide⟩ dX1_bodyOf_27 rfl ?_
    exact Ok.iret dX1_bodyOf_29 rfl (by decide) K
  · replace K := K.2 c1
    refine Ok.iload_n (pc' := 5) rfl dX1_bodyOf_4 rfl ?_
    refine Ok.aload_n (pc' := 6) rfl dX1_bodyOf_5 rfl ?_
    refine Ok.getR (pc' := 9) (k := 0) dX1_bodyOf_6 rfl (shC_1 _) rfl inX1 (by decide) rfl wd_188 rfl ?_
    refine Ok.getIN (pc' := 12) (z := h.2.1 2 7) (k := 7) dX1_bodyOf_9 rfl (shC_2 _) rfl inX5 (by decide) rfl rfl wd_137 rfl ?_
    refine Ok.icmp_ge (tgt := 27) dX1_bodyOf_12 rfl rfl (fun c2 => ?_) (fun c2 => ?_)
    · replace K := K.1 c2
      refine Ok.bipush (pc' := 29) ⟨by decide, by decide⟩ dX1_bodyOf_27 rfl ?_
      exact Ok.iret dX1_bodyOf_29 rfl (by decide) K
    · replace K := K.2 c2
      refine Ok.aload_n (pc' := 16) rfl dX1_bodyOf_15 rfl ?_
      refine Ok.getR (pc' := 19) (k := 0) dX1_bodyOf_16 rfl (shC_1 _) rfl inX1 (by decide) rfl wd_188 rfl ?_
      refine Ok.getRN (pc' := 22) (k := 5) dX1_bodyOf_19 rfl (shC_2 _) rfl inX5 (by decide) rfl wd_129 rfl ?_
      refine Ok.iload_n (pc' := 23) rfl dX1_bodyOf_22 rfl ?_
      obtain ⟨k3, e3, q3, K⟩ := K
      refine Ok.iald (pc' := 24) (z := h.1 8 k3) dX1_bodyOf_23 rfl (shC_8 _) (by decide) e3 q3 rfl ?_
      refine Ok.goto (tgt := 29) dX1_bodyOf_24 rfl ?_
      exact Ok.iret dX1_bodyOf_29 rfl (by decide) K
theorem sX1_ownerOf_0 {step : Int} {h : Hp} {Post : Int → Hp → Prop}
    (K : Ok shC 0 0 mX1_ownerOf 2 [some (pR 1), some (pI step), some (pI 0)] [] h Post) :
    Cl shC mX1_ownerOf [pR 1, pI step] h Post := by
  show Ok shC 0 0 mX1_ownerOf 0 [some (pR 1), some (pI step), none] [] h Post
  refine Ok.iconst (pc' := 1) in_0 dX1_ownerOf_0 rfl ?_
  refine Ok.istore_n (pc' := 2) (ls' := [some (pR 1), some (pI step), some (pI 0)]) dX1_ownerOf_1 rfl (by decide) rfl rfl ?_
  exact K
theorem sX1_ownerOf_2 {step v2 : Int} {h : Hp} {Post : Int → Hp → Prop}
    (K : ((h.2.1 2 7 ≤ v2) → Post (-4) h) ∧ ((¬ h.2.1 2 7 ≤ v2) → ∃ k2 : Nat, v2 = (k2 : Int) ∧ k2 < 10 ∧ (((¬ h.1 8 k2 = step) → inR ((v2 + 1)) ∧ (Ok shC 0 0 mX1_ownerOf 2 [some (pR 1), some (pI step), some (pI (v2 + 1))] [] h Post)) ∧ ((h.1 8 k2 = step) → Post v2 h)))) :
    Ok shC 0 0 mX1_ownerOf 2 [some (pR 1), some (pI step), some (pI v2)] [] h Post := by
  show Ok shC 0 0 mX1_ownerOf 2 [some (pR 1), some (pI step), some (pI v2)] [] h Post
  refine Ok.iload_n (pc' := 3) rfl dX1_ownerOf_2 rfl ?_
  refine Ok.aload_n (pc' := 4) rfl dX1_ownerOf_3 rfl ?_
  refine Ok.getR (pc' := 7) (k := 0) dX1_ownerOf_4 rfl (shC_1 _) rfl inX1 (by decide) rfl wd_188 rfl ?_
  refine Ok.getIN (pc' := 10) (z := h.2.1 2 7) (k := 7) dX1_ownerOf_7 rfl (shC_2 _) rfl inX5 (by decide) rfl rfl wd_137 rfl ?_
  refine Ok.icmp_ge (tgt := 34) dX1_ownerOf_10 rfl rfl (fun c1 => ?_) (fun c1 => ?_)
  · replace K := K.1 c1
    refine Ok.bipush (pc' := 36) ⟨by decide, by decide⟩ dX1_ownerOf_34 rfl ?_
    exact Ok.iret dX1_ownerOf_36 rfl (by decide) K
  · replace K := K.2 c1
    refine Ok.aload_n (pc' := 14) rfl dX1_ownerOf_13 rfl ?_
    refine Ok.getR (pc' := 17) (k := 0) dX1_ownerOf_14 rfl (shC_1 _) rfl inX1 (by decide) rfl wd_188 rfl ?_
    refine Ok.getRN (pc' := 20) (k := 5) dX1_ownerOf_17 rfl (shC_2 _) rfl inX5 (by decide) rfl wd_129 rfl ?_
    refine Ok.iload_n (pc' := 21) rfl dX1_ownerOf_20 rfl ?_
    obtain ⟨k2, e2, q2, K⟩ := K
    refine Ok.iald (pc' := 22) (z := h.1 8 k2) dX1_ownerOf_21 rfl (shC_8 _) (by decide) e2 q2 rfl ?_
    refine Ok.iload_n (pc' := 23) rfl dX1_ownerOf_22 rfl ?_
    refine Ok.icmp_ne (tgt := 28) dX1_ownerOf_23 rfl rfl (fun c3 => ?_) (fun c3 => ?_)
    · replace K := K.1 c3
      obtain ⟨q4, K⟩ := K
      refine Ok.iinc (pc' := 31) (ls' := [some (pR 1), some (pI step), some (pI (v2 + 1))]) dX1_ownerOf_28 rfl rfl (by decide) rfl rfl q4 ?_
      refine Ok.goto (tgt := 2) dX1_ownerOf_31 rfl ?_
      exact K
    · replace K := K.2 c3
      refine Ok.iload_n (pc' := 27) rfl dX1_ownerOf_26 rfl ?_
      exact Ok.iret dX1_ownerOf_27 rfl (by decide) K
theorem sX1_routineOf_0 {step : Int} {h : Hp} {Post : Int → Hp → Prop}
    (K : Cl shC mX1_isStep [pR 1, pI step] h (fun r1 h1 => ((¬ r1 = 0) → Ok shC 0 0 mX1_routineOf 15 [some (pR 1), none, some (pI step), some (pI 0)] [] h1 Post) ∧ ((r1 = 0) → Post (-4) h1))) :
    Cl shC mX1_routineOf [pR 1, pI step] h Post := by
  show Ok shC 0 0 mX1_routineOf 0 [some (pR 1), some (pI step), none, none] [] h Post
  refine Ok.aload_n (pc' := 1) rfl dX1_routineOf_0 rfl ?_
  refine Ok.iload_n (pc' := 2) rfl dX1_routineOf_1 rfl ?_
  refine Ok.callV (pc' := 5) (av := [pI step]) (rest := []) dX1_routineOf_2 rfl (by decide) cvX1_routineOf_71 (shC_1 _) rfl rfl rfl (leb rfl) (leb rfl) K (fun r1 h1 K => ?_)
  show Ok shC 0 0 mX1_routineOf 5 [some (pR 1), some (pI step), none, none] [pI r1] h1 Post
  refine Ok.if_ne (tgt := 11) dX1_routineOf_5 rfl rfl (fun c1 => ?_) (fun c1 => ?_)
  · replace K := K.1 c1
    refine Ok.iload_n (pc' := 12) rfl dX1_routineOf_11 rfl ?_
    refine Ok.istore_n (pc' := 13) (ls' := [some (pR 1), some (pI step), some (pI step), none]) dX1_routineOf_12 rfl (by decide) rfl rfl ?_
    refine Ok.iconst (pc' := 14) in_0 dX1_routineOf_13 rfl ?_
    refine Ok.istore_n (pc' := 15) (ls' := [some (pR 1), some (pI step), some (pI step), some (pI 0)]) dX1_routineOf_14 rfl (by decide) rfl rfl ?_
    exact Ok.fl (ls' := [some (pR 1), none, some (pI step), some (pI 0)]) K ⟨rfl, rfl, rfl, trivial⟩
  · replace K := K.2 c1
    refine Ok.bipush (pc' := 10) ⟨by decide, by decide⟩ dX1_routineOf_8 rfl ?_
    exact Ok.iret dX1_routineOf_10 rfl (by decide) K
theorem sX1_routineOf_15 {v2 v3 : Int} {h : Hp} {Post : Int → Hp → Prop}
    (K : ((40 ≤ v3) → Cl shC mX1_ownerOf [pR 1, pI v2] h (fun r1 h1 => Post r1 h1)) ∧ ((¬ 40 ≤ v3) → Cl shC mX1_parentOf [pR 1, pI v2] h (fun r2 h2 => ((r2 = (-4)) → Cl shC mX1_ownerOf [pR 1, pI v2] h2 (fun r3 h3 => Post r3 h3)) ∧ ((¬ r2 = (-4)) → Cl shC mX1_parentOf [pR 1, pI v2] h2 (fun r4 h4 => inR ((v3 + 1)) ∧ (Ok shC 0 0 mX1_routineOf 15 [some (pR 1), none, some (pI r4), some (pI (v3 + 1))] [] h4 Post)))))) :
    Ok shC 0 0 mX1_routineOf 15 [some (pR 1), none, some (pI v2), some (pI v3)] [] h Post := by
  show Ok shC 0 0 mX1_routineOf 15 [some (pR 1), none, some (pI v2), some (pI v3)] [] h Post
  refine Ok.iload_n (pc' := 16) rfl dX1_routineOf_15 rfl ?_
  refine Ok.bipush (pc' := 18) ⟨by decide, by decide⟩ dX1_routineOf_16 rfl ?_
  refine Ok.icmp_ge (tgt := 43) dX1_routineOf_18 rfl rfl (fun c1 => ?_) (fun c1 => ?_)
  · replace K := K.1 c1
    refine Ok.aload_n (pc' := 44) rfl dX1_routineOf_43 rfl ?_
    refine Ok.iload_n (pc' := 45) rfl dX1_routineOf_44 rfl ?_
    refine Ok.callV (pc' := 48) (av := [pI v2]) (rest := []) dX1_routineOf_45 rfl (by decide) cvX1_routineOf_40 (shC_1 _) rfl rfl rfl (leb rfl) (leb rfl) K (fun r1 h1 K => ?_)
    show Ok shC 0 0 mX1_routineOf 48 [some (pR 1), none, some (pI v2), some (pI v3)] [pI r1] h1 Post
    exact Ok.iret dX1_routineOf_48 rfl (by decide) K
  · replace K := K.2 c1
    refine Ok.aload_n (pc' := 22) rfl dX1_routineOf_21 rfl ?_
    refine Ok.iload_n (pc' := 23) rfl dX1_routineOf_22 rfl ?_
    refine Ok.callV (pc' := 26) (av := [pI v2]) (rest := []) dX1_routineOf_23 rfl (by decide) cvX1_routineOf_72 (shC_1 _) rfl rfl rfl (leb rfl) (leb rfl) K (fun r2 h2 K => ?_)
    show Ok shC 0 0 mX1_routineOf 26 [some (pR 1), none, some (pI v2), some (pI v3)] [pI r2] h2 Post
    refine Ok.bipush (pc' := 28) ⟨by decide, by decide⟩ dX1_routineOf_26 rfl ?_
    refine Ok.icmp_eq (tgt := 43) dX1_routineOf_28 rfl rfl (fun c2 => ?_) (fun c2 => ?_)
    · replace K := K.1 c2
      refine Ok.aload_n (pc' := 44) rfl dX1_routineOf_43 rfl ?_
      refine Ok.iload_n (pc' := 45) rfl dX1_routineOf_44 rfl ?_
      refine Ok.callV (pc' := 48) (av := [pI v2]) (rest := []) dX1_routineOf_45 rfl (by decide) cvX1_routineOf_40 (shC_1 _) rfl rfl rfl (leb rfl) (leb rfl) K (fun r3 h3 K => ?_)
      show Ok shC 0 0 mX1_routineOf 48 [some (pR 1), none, some (pI v2), some (pI v3)] [pI r3] h3 Post
      exact Ok.iret dX1_routineOf_48 rfl (by decide) K
    · replace K := K.2 c2
      refine Ok.aload_n (pc' := 32) rfl dX1_routineOf_31 rfl ?_
      refine Ok.iload_n (pc' := 33) rfl dX1_routineOf_32 rfl ?_
      refine Ok.callV (pc' := 36) (av := [pI v2]) (rest := []) dX1_routineOf_33 rfl (by decide) cvX1_routineOf_72 (shC_1 _) rfl rfl rfl (leb rfl) (leb rfl) K (fun r4 h4 K => ?_)
      show Ok shC 0 0 mX1_routineOf 36 [some (pR 1), none, some (pI v2), some (pI v3)] [pI r4] h4 Post
      refine Ok.istore_n (pc' := 37) (ls' := [some (pR 1), none, some (pI r4), some (pI v3)]) dX1_routineOf_36 rfl (by decide) rfl rfl ?_
      obtain ⟨q3, K⟩ := K
      refine Ok.iinc (pc' := 40) (ls' := [some (pR 1), none, some (pI r4), some (pI (v3 + 1))]) dX1_routineOf_37 rfl rfl (by decide) rfl rfl q3 ?_
      refine Ok.goto (tgt := 15) dX1_routineOf_40 rfl ?_
      exact K
theorem sX1_stepsAbove_0 {step : Int} {h : Hp} {Post : Int → Hp → Prop}
    (K : Cl shC mX1_parentOf [pR 1, pI step] h (fun r1 h1 => Ok shC 0 0 mX1_stepsAbove 8 [some (pR 1), none, some (pI 0), some (pI r1)] [] h1 Post)) :
    Cl shC mX1_stepsAbove [pR 1, pI step] h Post := by
  show Ok shC 0 0 mX1_stepsAbove 0 [some (pR 1), some (pI step), none, none] [] h Post
  refine Ok.iconst (pc' := 1) in_0 dX1_stepsAbove_0 rfl ?_
  refine Ok.istore_n (pc' := 2) (ls' := [some (pR 1), some (pI step), some (pI 0), none]) dX1_stepsAbove_1 rfl (by decide) rfl rfl ?_
  refine Ok.aload_n (pc' := 3) rfl dX1_stepsAbove_2 rfl ?_
  refine Ok.iload_n (pc' := 4) rfl dX1_stepsAbove_3 rfl ?_
  refine Ok.callV (pc' := 7) (av := [pI step]) (rest := []) dX1_stepsAbove_4 rfl (by decide) cvX1_stepsAbove_72 (shC_1 _) rfl rfl rfl (leb rfl) (leb rfl) K (fun r1 h1 K => ?_)
  show Ok shC 0 0 mX1_stepsAbove 7 [some (pR 1), some (pI step), some (pI 0), none] [pI r1] h1 Post
  refine Ok.istore_n (pc' := 8) (ls' := [some (pR 1), some (pI step), some (pI 0), some (pI r1)]) dX1_stepsAbove_7 rfl (by decide) rfl rfl ?_
  exact Ok.fl (ls' := [some (pR 1), none, some (pI 0), some (pI r1)]) K ⟨rfl, rfl, rfl, trivial⟩
theorem sX1_stepsAbove_8 {v2 v3 : Int} {h : Hp} {Post : Int → Hp → Prop}
    (K : ((v3 = (-4)) → Post v2 h) ∧ ((¬ v3 = (-4)) → ((40 ≤ v2) → Post v2 h) ∧ ((¬ 40 ≤ v2) → inR ((v2 + 1)) ∧ (Cl shC mX1_parentOf [pR 1, pI v3] h (fun r1 h1 => Ok shC 0 0 mX1_stepsAbove 8 [some (pR 1), none, some (pI (v2 + 1)), some (pI r1)] [] h1 Post))))) :
    Ok shC 0 0 mX1_stepsAbove 8 [some (pR 1), none, some (pI v2), some (pI v3)] [] h Post := by
  show Ok shC 0 0 mX1_stepsAbove 8 [some (pR 1), none, some (pI v2), some (pI v3)] [] h Post
  refine Ok.iload_n (pc' := 9) rfl dX1_stepsAbove_8 rfl ?_
  refine Ok.bipush (pc' := 11) ⟨by decide, by decide⟩ dX1_stepsAbove_9 rfl ?_
  refine Ok.icmp_eq (tgt := 32) dX1_stepsAbove_11 rfl rfl (fun c1 => ?_) (fun c1 => ?_)
  · replace K := K.1 c1
    refine Ok.iload_n (pc' := 33) rfl dX1_stepsAbove_32 rfl ?_
    exact Ok.iret dX1_stepsAbove_33 rfl (by decide) K
  · replace K := K.2 c1
    refine Ok.iload_n (pc' := 15) rfl dX1_stepsAbove_14 rfl ?_
    refine Ok.bipush (pc' := 17) ⟨by decide, by decide⟩ dX1_stepsAbove_15 rfl ?_
    refine Ok.icmp_ge (tgt := 32) dX1_stepsAbove_17 rfl rfl (fun c2 => ?_) (fun c2 => ?_)
    · replace K := K.1 c2
      refine Ok.iload_n (pc' := 33) rfl dX1_stepsAbove_32 rfl ?_
      exact Ok.iret dX1_stepsAbove_33 rfl (by decide) K
    · replace K := K.2 c2
      obtain ⟨q3, K⟩ := K
      refine Ok.iinc (pc' := 23) (ls' := [some (pR 1), none, some (pI (v2 + 1)), some (pI v3)]) dX1_stepsAbove_20 rfl rfl (by decide) rfl rfl q3 ?_
      refine Ok.aload_n (pc' := 24) rfl dX1_stepsAbove_23 rfl ?_
      refine Ok.iload_n (pc' := 25) rfl dX1_stepsAbove_24 rfl ?_
      refine Ok.callV (pc' := 28) (av := [pI v3]) (rest := []) dX1_stepsAbove_25 rfl (by decide) cvX1_stepsAbove_72 (shC_1 _) rfl rfl rfl (leb rfl) (leb rfl) K (fun r1 h1 K => ?_)
      show Ok shC 0 0 mX1_stepsAbove 28 [some (pR 1), none, some (pI (v2 + 1)), some (pI v3)] [pI r1] h1 Post
      refine Ok.istore_n (pc' := 29) (ls' := [some (pR 1), none, some (pI (v2 + 1)), some (pI r1)]) dX1_stepsAbove_28 rfl (by decide) rfl rfl ?_
      refine Ok.goto (tgt := 8) dX1_stepsAbove_29 rfl ?_
      exact K
theorem sX1_sizeOf_0 {step : Int} {h : Hp} {Post : Int → Hp → Prop}
    (K : Cl shC mX6_over [pR 9, pR 2, pI step] h (fun _ h1 => Post (h1.2.1 9 4) h1)) :
    Cl shC mX1_sizeOf [pR 1, pI step] h Post := by
  show Ok shC 0 0 mX1_sizeOf 0 [some (pR 1), some (pI step)] [] h Post
  refine Ok.aload_n (pc' := 1) rfl dX1_sizeOf_0 rfl ?_
  refine Ok.getR (pc' := 4) (k := 1) dX1_sizeOf_1 rfl (shC_1 _) rfl inX1 (by decide) rfl wd_193 rfl ?_
  refine Ok.aload_n (pc' := 5) rfl dX1_sizeOf_4 rfl ?_
  refine Ok.getR (pc' := 8) (k := 0) dX1_sizeOf_5 rfl (shC_1 _) rfl inX1 (by decide) rfl wd_188 rfl ?_
  refine Ok.iload_n (pc' := 9) rfl dX1_sizeOf_8 rfl ?_
  refine Ok.callV (pc' := 12) (av := [pR 2, pI step]) (rest := []) dX1_sizeOf_9 rfl (by decide) cvX1_sizeOf_75 (shC_9 _) rfl rfl rfl (leb rfl) (leb rfl) K (fun r_ h1 K => ?_)
  show Ok shC 0 0 mX1_sizeOf 12 [some (pR 1), some (pI step)] [] h1 Post
  refine Ok.aload_n (pc' := 13) rfl dX1_sizeOf_12 rfl ?_
  refine Ok.getR (pc' := 16) (k := 1) dX1_sizeOf_13 rfl (shC_1 _) rfl inX1 (by decide) rfl wd_193 rfl ?_
  refine Ok.getIN (pc' := 19) (z := h1.2.1 9 4) (k := 4) dX1_sizeOf_16 rfl (shC_9 _) rfl inX6 (by decide) rfl rfl wd_176 rfl ?_
  exact Ok.iret dX1_sizeOf_19 rfl (by decide) K
theorem sX1_highOf_0 {step : Int} {h : Hp} {Post : Int → Hp → Prop}
    (K : Cl shC mX6_over [pR 9, pR 2, pI step] h (fun _ h1 => Ok shC 0 0 mX1_highOf 16 [some (pR 1), none, some (pI 0), some (pI 0)] [] h1 Post)) :
    Cl shC mX1_highOf [pR 1, pI step] h Post := by
  show Ok shC 0 0 mX1_highOf 0 [some (pR 1), some (pI step), none, none] [] h Post
  refine Ok.aload_n (pc' := 1) rfl dX1_highOf_0 rfl ?_
  refine Ok.getR (pc' := 4) (k := 1) dX1_highOf_1 rfl (shC_1 _) rfl inX1 (by decide) rfl wd_193 rfl ?_
  refine Ok.aload_n (pc' := 5) rfl dX1_highOf_4 rfl ?_
  refine Ok.getR (pc' := 8) (k := 0) dX1_highOf_5 rfl (shC_1 _) rfl inX1 (by decide) rfl wd_188 rfl ?_
  refine Ok.iload_n (pc' := 9) rfl dX1_highOf_8 rfl ?_
  refine Ok.callV (pc' := 12) (av := [pR 2, pI step]) (rest := []) dX1_highOf_9 rfl (by decide) cvX1_highOf_75 (shC_9 _) rfl rfl rfl (leb rfl) (leb rfl) K (fun r_ h1 K => ?_)
  show Ok shC 0 0 mX1_highOf 12 [some (pR 1), some (pI step), none, none] [] h1 Post
  refine Ok.iconst (pc' := 13) in_0 dX1_highOf_12 rfl ?_
  refine Ok.istore_n (pc' := 14) (ls' := [some (pR 1), some (pI step), some (pI 0), none]) dX1_highOf_13 rfl (by decide) rfl rfl ?_
  refine Ok.iconst (pc' := 15) in_0 dX1_highOf_14 rfl ?_
  refine Ok.istore_n (pc' := 16) (ls' := [some (pR 1), some (pI step), some (pI 0), some (pI 0)]) dX1_highOf_15 rfl (by decide) rfl rfl ?_
  exact Ok.fl (ls' := [some (pR 1), none, some (pI 0), some (pI 0)]) K ⟨rfl, rfl, rfl, trivial⟩
theorem sX1_highOf_16 {v2 v3 : Int} {h : Hp} {Post : Int → Hp → Prop}
    (K : ((h.2.1 9 4 ≤ v3) → Post v2 h) ∧ ((¬ h.2.1 9 4 ≤ v3) → ∃ k2 : Nat, v3 = (k2 : Int) ∧ k2 < 600 ∧ (inR ((v3 + 1)) ∧ (Ok shC 0 0 mX1_highOf 16 [some (pR 1), none, some (pI (max v2 (h.1 11 k2))), some (pI (v3 + 1))] [] h Post)))) :
    Ok shC 0 0 mX1_highOf 16 [some (pR 1), none, some (pI v2), some (pI v3)] [] h Post := by
  show Ok shC 0 0 mX1_highOf 16 [some (pR 1), none, some (pI v2), some (pI v3)] [] h Post
  refine Ok.iload_n (pc' := 17) rfl dX1_highOf_16 rfl ?_
  refine Ok.aload_n (pc' := 18) rfl dX1_highOf_17 rfl ?_
  refine Ok.getR (pc' := 21) (k := 1) dX1_highOf_18 rfl (shC_1 _) rfl inX1 (by decide) rfl wd_193 rfl ?_
  refine Ok.getIN (pc' := 24) (z := h.2.1 9 4) (k := 4) dX1_highOf_21 rfl (shC_9 _) rfl inX6 (by decide) rfl rfl wd_176 rfl ?_
  refine Ok.icmp_ge (tgt := 47) dX1_highOf_24 rfl rfl (fun c1 => ?_) (fun c1 => ?_)
  · replace K := K.1 c1
    refine Ok.iload_n (pc' := 48) rfl dX1_highOf_47 rfl ?_
    exact Ok.iret dX1_highOf_48 rfl (by decide) K
  · replace K := K.2 c1
    refine Ok.iload_n (pc' := 28) rfl dX1_highOf_27 rfl ?_
    refine Ok.aload_n (pc' := 29) rfl dX1_highOf_28 rfl ?_
    refine Ok.getR (pc' := 32) (k := 1) dX1_highOf_29 rfl (shC_1 _) rfl inX1 (by decide) rfl wd_193 rfl ?_
    refine Ok.getRN (pc' := 35) (k := 1) dX1_highOf_32 rfl (shC_9 _) rfl inX6 (by decide) rfl wd_170 rfl ?_
    refine Ok.iload_n (pc' := 36) rfl dX1_highOf_35 rfl ?_
    obtain ⟨k2, e2, q2, K⟩ := K
    refine Ok.iald (pc' := 37) (z := h.1 11 k2) dX1_highOf_36 rfl (shC_11 _) (by decide) e2 q2 rfl ?_
    refine Ok.mmax (pc' := 40) dX1_highOf_37 rfl (by decide) mwX1_highOf_85 (by decide) (leb rfl) ?_
    refine Ok.istore_n (pc' := 41) (ls' := [some (pR 1), none, some (pI (max v2 (h.1 11 k2))), some (pI v3)]) dX1_highOf_40 rfl (by decide) rfl rfl ?_
    obtain ⟨q3, K⟩ := K
    refine Ok.iinc (pc' := 44) (ls' := [some (pR 1), none, some (pI (max v2 (h.1 11 k2))), some (pI (v3 + 1))]) dX1_highOf_41 rfl rfl (by decide) rfl rfl q3 ?_
    refine Ok.goto (tgt := 16) dX1_highOf_44 rfl ?_
    exact K
theorem sX1_usesOf_0 {r : Int} {h : Hp} {Post : Int → Hp → Prop}
    (K : Cl shC mX1_bodyOf [pR 1, pI r] h (fun r1 h1 => Cl shC mX6_over [pR 9, pR 2, pI r1] h1 (fun _ h2 => Cl shC mX1_paramsOf [pR 1, pI r] h2 (fun r3 h3 => Ok shC 0 0 mX1_usesOf 24 [some (pR 1), none, some (pI r3), some (pI 0), none] [] h3 Post)))) :
    Cl shC mX1_usesOf [pR 1, pI r] h Post := by
  show Ok shC 0 0 mX1_usesOf 0 [some (pR 1), some (pI r), none, none, none] [] h Post
  refine Ok.aload_n (pc' := 1) rfl dX1_usesOf_0 rfl ?_
  refine Ok.getR (pc' := 4) (k := 1) dX1_usesOf_1 rfl (shC_1 _) rfl inX1 (by decide) rfl wd_193 rfl ?_
  refine Ok.aload_n (pc' := 5) rfl dX1_usesOf_4 rfl ?_
  refine Ok.getR (pc' := 8) (k := 0) dX1_usesOf_5 rfl (shC_1 _) rfl inX1 (by decide) rfl wd_188 rfl ?_
  refine Ok.aload_n (pc' := 9) rfl dX1_usesOf_8 rfl ?_
  refine Ok.iload_n (pc' := 10) rfl dX1_usesOf_9 rfl ?_
  refine Ok.callV (pc' := 13) (av := [pI r]) (rest := [pR 2, pR 9]) dX1_usesOf_10 rfl (by decide) cvX1_usesOf_47 (shC_1 _) rfl rfl rfl (leb rfl) (leb rfl) K (fun r1 h1 K => ?_)
  show Ok shC 0 0 mX1_usesOf 13 [some (pR 1), some (pI r), none, none, none] [pI r1, pR 2, pR 9] h1 Post
  refine Ok.callV (pc' := 16) (av := [pR 2, pI r1]) (rest := []) dX1_usesOf_13 rfl (by decide) cvX1_usesOf_75 (shC_9 _) rfl rfl rfl (leb rfl) (leb rfl) K (fun r_ h2 K => ?_)
  show Ok shC 0 0 mX1_usesOf 16 [some (pR 1), some (pI r), none, none, none] [] h2 Post
  refine Ok.aload_n (pc' := 17) rfl dX1_usesOf_16 rfl ?_
  refine Ok.iload_n (pc' := 18) rfl dX1_usesOf_17 rfl ?_
  refine Ok.callV (pc' := 21) (av := [pI r]) (rest := []) dX1_usesOf_18 rfl (by decide) cvX1_usesOf_91 (shC_1 _) rfl rfl rfl (leb rfl) (leb rfl) K (fun r3 h3 K => ?_)
  show Ok shC 0 0 mX1_usesOf 21 [some (pR 1), some (pI r), none, none, none] [pI r3] h3 Post
  refine Ok.istore_n (pc' := 22) (ls' := [some (pR 1), some (pI r), some (pI r3), none, none]) dX1_usesOf_21 rfl (by decide) rfl rfl ?_
  refine Ok.iconst (pc' := 23) in_0 dX1_usesOf_22 rfl ?_
  refine Ok.istore_n (pc' := 24) (ls' := [some (pR 1), some (pI r), some (pI r3), some (pI 0), none]) dX1_usesOf_23 rfl (by decide) rfl rfl ?_
  exact Ok.fl (ls' := [some (pR 1), none, some (pI r3), some (pI 0), none]) K ⟨rfl, rfl, rfl, trivial⟩
theorem sX1_usesOf_24 {v2 v3 : Int} {h : Hp} {Post : Int → Hp → Prop}
    (K : ((h.2.1 9 4 ≤ v3) → Post v2 h) ∧ ((¬ h.2.1 9 4 ≤ v3) → ∃ k2 : Nat, v3 = (k2 : Int) ∧ k2 < 600 ∧ (Cl shC mX1_kindOf [pR 1, pI (h.1 10 k2)] h (fun r1 h1 => ((r1 = 1) → Cl shC mX1_numberOf [pR 1, pI (h1.1 10 k2)] h1 (fun r2 h2 => inR ((r2 + 1)) ∧ (inR ((v3 + 1)) ∧ (Ok shC 0 0 mX1_usesOf 24 [some (pR 1), none, some (pI (max v2 (r2 + 1))), some (pI (v3 + 1)), none] [] h2 Post)))) ∧ ((¬ r1 = 1) → ((¬ r1 = 4) → inR ((v3 + 1)) ∧ (Ok shC 0 0 mX1_usesOf 24 [some (pR 1), none, some (pI v2), some (pI (v3 + 1)), none] [] h1 Post)) ∧ ((r1 = 4) → Cl shC mX1_numberOf [pR 1, pI (h1.1 10 k2)] h1 (fun r3 h3 => inR ((r3 + 1)) ∧ (inR ((v3 + 1)) ∧ (Ok shC 0 0 mX1_usesOf 24 [some (pR 1), none, some (pI (max v2 (r3 + 1))), some (pI (v3 + 1)), none] [] h3 Post))))))))) :
    Ok shC 0 0 mX1_usesOf 24 [some (pR 1), none, some (pI v2), some (pI v3), none] [] h Post := by
  show Ok shC 0 0 mX1_usesOf 24 [some (pR 1), none, some (pI v2), some (pI v3), none] [] h Post
  refine Ok.iload_n (pc' := 25) rfl dX1_usesOf_24 rfl ?_
  refine Ok.aload_n (pc' := 26) rfl dX1_usesOf_25 rfl ?_
  refine Ok.getR (pc' := 29) (k := 1) dX1_usesOf_26 rfl (shC_1 _) rfl inX1 (by decide) rfl wd_193 rfl ?_
  refine Ok.getIN (pc' := 32) (z := h.2.1 9 4) (k := 4) dX1_usesOf_29 rfl (shC_9 _) rfl inX6 (by decide) rfl rfl wd_176 rfl ?_
  refine Ok.icmp_ge (tgt := 88) dX1_usesOf_32 rfl rfl (fun c1 => ?_) (fun c1 => ?_)
  · replace K := K.1 c1
    refine Ok.iload_n (pc' := 89) rfl dX1_usesOf_88 rfl ?_
    exact Ok.iret dX1_usesOf_89 rfl (by decide) K
  · replace K := K.2 c1
    refine Ok.aload_n (pc' := 36) rfl dX1_usesOf_35 rfl ?_
    refine Ok.aload_n (pc' := 37) rfl dX1_usesOf_36 rfl ?_
    refine Ok.getR (pc' := 40) (k := 1) dX1_usesOf_37 rfl (shC_1 _) rfl inX1 (by decide) rfl wd_193 rfl ?_
    refine Ok.getRN (pc' := 43) (k := 0) dX1_usesOf_40 rfl (shC_9 _) rfl inX6 (by decide) rfl wd_166 rfl ?_
    refine Ok.iload_n (pc' := 44) rfl dX1_usesOf_43 rfl ?_
    obtain ⟨k2, e2, q2, K⟩ := K
    refine Ok.iald (pc' := 45) (z := h.1 10 k2) dX1_usesOf_44 rfl (shC_10 _) (by decide) e2 q2 rfl ?_
    refine Ok.callV (pc' := 48) (av := [pI (h.1 10 k2)]) (rest := []) dX1_usesOf_45 rfl (by decide) cvX1_usesOf_50 (shC_1 _) rfl rfl rfl (leb rfl) (leb rfl) K (fun r1 h1 K => ?_)
    show Ok shC 0 0 mX1_usesOf 48 [some (pR 1), none, some (pI v2), some (pI v3), none] [pI r1] h1 Post
    refine Ok.istore (pc' := 50) (ls' := [some (pR 1), none, some (pI v2), some (pI v3), some (pI r1)]) dX1_usesOf_48 rfl (by decide) rfl rfl ?_
    refine Ok.iload (pc' := 52) rfl dX1_usesOf_50 rfl ?_
    refine Ok.iconst (pc' := 53) in_1 dX1_usesOf_52 rfl ?_
    refine Ok.icmp_eq (tgt := 62) dX1_usesOf_53 rfl rfl (fun c3 => ?_) (fun c3 => ?_)
    · replace K := K.1 c3
      refine Ok.iload_n (pc' := 63) rfl dX1_usesOf_62 rfl ?_
      refine Ok.aload_n (pc' := 64) rfl dX1_usesOf_63 rfl ?_
      refine Ok.aload_n (pc' := 65) rfl dX1_usesOf_64 rfl ?_
      refine Ok.getR (pc' := 68) (k := 1) dX1_usesOf_65 rfl (shC_1 _) rfl inX1 (by decide) rfl wd_193 rfl ?_
      refine Ok.getRN (pc' := 71) (k := 0) dX1_usesOf_68 rfl (shC_9 _) rfl inX6 (by decide) rfl wd_166 rfl ?_
      refine Ok.iload_n (pc' := 72) rfl dX1_usesOf_71 rfl ?_
      refine Ok.iald (pc' := 73) (z := h1.1 10 k2) dX1_usesOf_72 rfl (shC_10 _) (by decide) e2 q2 rfl ?_
      refine Ok.callV (pc' := 76) (av := [pI (h1.1 10 k2)]) (rest := [pI v2]) dX1_usesOf_73 rfl (by decide) cvX1_usesOf_97 (shC_1 _) rfl rfl rfl (leb rfl) (leb rfl) K (fun r2 h2 K => ?_)
      show Ok shC 0 0 mX1_usesOf 76 [some (pR 1), none, some (pI v2), some (pI v3), some (pI r1)] [pI r2, pI v2] h2 Post
      refine Ok.iconst (pc' := 77) in_1 dX1_usesOf_76 rfl ?_
      obtain ⟨q4, K⟩ := K
      refine Ok.iadd (pc' := 78) dX1_usesOf_77 rfl q4 ?_
      refine Ok.mmax (pc' := 81) dX1_usesOf_78 rfl (by decide) mwX1_usesOf_85 (by decide) (leb rfl) ?_
      refine Ok.istore_n (pc' := 82) (ls' := [some (pR 1), none, some (pI (max v2 (r2 + 1))), some (pI v3), some (pI r1)]) dX1_usesOf_81 rfl (by decide) rfl rfl ?_
      obtain ⟨q5, K⟩ := K
      refine Ok.iinc (pc' := 85) (ls' := [some (pR 1), none, some (pI (max v2 (r2 + 1))), some (pI (v3 + 1)), some (pI r1)]) dX1_usesOf_82 rfl rfl (by decide) rfl rfl q5 ?_
      refine Ok.goto (tgt := 24) dX1_usesOf_85 rfl ?_
      exact Ok.fl (ls' := [some (pR 1), none, some (pI (max v2 (r2 + 1))), some (pI (v3 + 1)), none]) K ⟨rfl, rfl, rfl, trivial⟩
    · replace K := K.2 c3
      refine Ok.iload (pc' := 58) rfl dX1_usesOf_56 rfl ?_
      refine Ok.iconst (pc' := 59) in_4 dX1_usesOf_58 rfl ?_
      refine Ok.icmp_ne (tgt := 82) dX1_usesOf_59 rfl rfl (fun c4 => ?_) (fun c4 => ?_)
      · replace K := K.1 c4
        obtain ⟨q5, K⟩ := K
        refine Ok.iinc (pc' := 85) (ls' := [some (pR 1), none, some (pI v2), some (pI (v3 + 1)), some (pI r1)]) dX1_usesOf_82 rfl rfl (by decide) rfl rfl q5 ?_
        refine Ok.goto (tgt := 24) dX1_usesOf_85 rfl ?_
        exact Ok.fl (ls' := [some (pR 1), none, some (pI v2), some (pI (v3 + 1)), none]) K ⟨rfl, rfl, rfl, trivial⟩
      · replace K := K.2 c4
        refine Ok.iload_n (pc' := 63) rfl dX1_usesOf_62 rfl ?_
        refine Ok.aload_n (pc' := 64) rfl dX1_usesOf_63 rfl ?_
        refine Ok.aload_n (pc' := 65) rfl dX1_usesOf_64 rfl ?_
        refine Ok.getR (pc' := 68) (k := 1) dX1_usesOf_65 rfl (shC_1 _) rfl inX1 (by decide) rfl wd_193 rfl ?_
        refine Ok.getRN (pc' := 71) (k := 0) dX1_usesOf_68 rfl (shC_9 _) rfl inX6 (by decide) rfl wd_166 rfl ?_
        refine Ok.iload_n (pc' := 72) rfl dX1_usesOf_71 rfl ?_
        refine Ok.iald (pc' := 73) (z := h1.1 10 k2) dX1_usesOf_72 rfl (shC_10 _) (by decide) e2 q2 rfl ?_
        refine Ok.callV (pc' := 76) (av := [pI (h1.1 10 k2)]) (rest := [pI v2]) dX1_usesOf_73 rfl (by decide) cvX1_usesOf_97 (shC_1 _) rfl rfl rfl (leb rfl) (leb rfl) K (fun r3 h3 K => ?_)
        show Ok shC 0 0 mX1_usesOf 76 [some (pR 1), none, some (pI v2), some (pI v3), some (pI r1)] [pI r3, pI v2] h3 Post
        refine Ok.iconst (pc' := 77) in_1 dX1_usesOf_76 rfl ?_
        obtain ⟨q5, K⟩ := K
        refine Ok.iadd (pc' := 78) dX1_usesOf_77 rfl q5 ?_
        refine Ok.mmax (pc' := 81) dX1_usesOf_78 rfl (by decide) mwX1_usesOf_85 (by decide) (leb rfl) ?_
        refine Ok.istore_n (pc' := 82) (ls' := [some (pR 1), none, some (pI (max v2 (r3 + 1))), some (pI v3), some (pI r1)]) dX1_usesOf_81 rfl (by decide) rfl rfl ?_
        obtain ⟨q6, K⟩ := K
        refine Ok.iinc (pc' := 85) (ls' := [some (pR 1), none, some (pI (max v2 (r3 + 1))), some (pI (v3 + 1)), some (pI r1)]) dX1_usesOf_82 rfl rfl (by decide) rfl rfl q6 ?_
        refine Ok.goto (tgt := 24) dX1_usesOf_85 rfl ?_
        exact Ok.fl (ls' := [some (pR 1), none, some (pI (max v2 (r3 + 1))), some (pI (v3 + 1)), none]) K ⟨rfl, rfl, rfl, trivial⟩
theorem sX1_callsIn_0 {r : Int} {h : Hp} {Post : Int → Hp → Prop}
    (K : Cl shC mX1_bodyOf [pR 1, pI r] h (fun r1 h1 => Cl shC mX6_over [pR 9, pR 2, pI r1] h1 (fun _ h2 => Ok shC 0 0 mX1_callsIn 20 [some (pR 1), none, some (pI 0), some (pI 0)] [] h2 Post))) :
    Cl shC mX1_callsIn [pR 1, pI r] h Post := by
  show Ok shC 0 0 mX1_callsIn 0 [some (pR 1), some (pI r), none, none] [] h Post
  refine Ok.aload_n (pc' := 1) rfl dX1_callsIn_0 rfl ?_
  refine Ok.getR (pc' := 4) (k := 1) dX1_callsIn_1 rfl (shC_1 _) rfl inX1 (by decide) rfl wd_193 rfl ?_
  refine Ok.aload_n (pc' := 5) rfl dX1_callsIn_4 rfl ?_
  refine Ok.getR (pc' := 8) (k := 0) dX1_callsIn_5 rfl (shC_1 _) rfl inX1 (by decide) rfl wd_188 rfl ?_
  refine Ok.aload_n (pc' := 9) rfl dX1_callsIn_8 rfl ?_
  refine Ok.iload_n (pc' := 10) rfl dX1_callsIn_9 rfl ?_
  refine Ok.callV (pc' := 13) (av := [pI r]) (rest := [pR 2, pR 9]) dX1_callsIn_10 rfl (by decide) cvX1_callsIn_47 (shC_1 _) rfl rfl rfl (leb rfl) (leb rfl) K (fun r1 h1 K => ?_)
  show Ok shC 0 0 mX1_callsIn 13 [some (pR 1), some (pI r), none, none] [pI r1, pR 2, pR 9] h1 Post
  refine Ok.callV (pc' := 16) (av := [pR 2, pI r1]) (rest := []) dX1_callsIn_13 rfl (by decide) cvX1_callsIn_75 (shC_9 _) rfl rfl rfl (leb rfl) (leb rfl) K (fun r_ h2 K => ?_)
  show Ok shC 0 0 mX1_callsIn 16 [some (pR 1), some (pI r), none, none] [] h2 Post
  refine Ok.iconst (pc' := 17) in_0 dX1_callsIn_16 rfl ?_
  refine Ok.istore_n (pc' := 18) (ls' := [some (pR 1), some (pI r), some (pI 0), none]) dX1_callsIn_17 rfl (by decide) rfl rfl ?_
  refine Ok.iconst (pc' := 19) in_0 dX1_callsIn_18 rfl ?_
  refine Ok.istore_n (pc' := 20) (ls' := [some (pR 1), some (pI r), some (pI 0), some (pI 0)]) dX1_callsIn_19 rfl (by decide) rfl rfl ?_
  exact Ok.fl (ls' := [some (pR 1), none, some (pI 0), some (pI 0)]) K ⟨rfl, rfl, rfl, trivial⟩
theorem sX1_callsIn_20 {v2 v3 : Int} {h : Hp} {Post : Int → Hp → Prop}
    (K : ((h.2.1 9 4 ≤ v3) → Post v2 h) ∧ ((¬ h.2.1 9 4 ≤ v3) → ∃ k2 : Nat, v3 = (k2 : Int) ∧ k2 < 600 ∧ (Cl shC mX1_kindOf [pR 1, pI (h.1 10 k2)] h (fun r1 h1 => ((¬ r1 = 6) → inR ((v2 + 0)) ∧ (inR ((v3 + 1)) ∧ (Ok shC 0 0 mX1_callsIn 20 [some (pR 1), none, some (pI (v2 + 0)), some (pI (v3 + 1))] [] h1 Post))) ∧ ((r1 = 6) → inR ((v2 + 1)) ∧ (inR ((v3 + 1)) ∧ (Ok shC 0 0 mX1_callsIn 20 [some (pR 1), none, some (pI (v2 + 1)), some (pI (v3 + 1))] [] h1 Post))))))) :
    Ok shC 0 0 mX1_callsIn 20 [some (pR 1), none, some (pI v2), some (pI v3)] [] h Post := by
  show Ok shC 0 0 mX1_callsIn 20 [some (pR 1), none, some (pI v2), some (pI v3)] [] h Post
  refine Ok.iload_n (pc' := 21) rfl dX1_callsIn_20 rfl ?_
  refine Ok.aload_n (pc' := 22) rfl dX1_callsIn_21 rfl ?_
  refine Ok.getR (pc' := 25) (k := 1) dX1_callsIn_22 rfl (shC_1 _) rfl inX1 (by decide) rfl wd_193 rfl ?_
  refine Ok.getIN (pc' := 28) (z := h.2.1 9 4) (k := 4) dX1_callsIn_25 rfl (shC_9 _) rfl inX6 (by decide) rfl rfl wd_176 rfl ?_
  refine Ok.icmp_ge (tgt := 63) dX1_callsIn_28 rfl rfl (fun c1 => ?_) (fun c1 => ?_)
  · replace K := K.1 c1
    refine Ok.iload_n (pc' := 64) rfl dX1_callsIn_63 rfl ?_
    exact Ok.iret dX1_callsIn_64 rfl (by decide) K
  · replace K := K.2 c1
    refine Ok.iload_n (pc' := 32) rfl dX1_callsIn_31 rfl ?_
    refine Ok.aload_n (pc' := 33) rfl dX1_callsIn_32 rfl ?_
    refine Ok.aload_n (pc' := 34) rfl dX1_callsIn_33 rfl ?_
    refine Ok.getR (pc' := 37) (k := 1) dX1_callsIn_34 rfl (shC_1 _) rfl inX1 (by decide) rfl wd_193 rfl ?_
    refine Ok.getRN (pc' := 40) (k := 0) dX1_callsIn_37 rfl (shC_9 _) rfl inX6 (by decide) rfl wd_166 rfl ?_
    refine Ok.iload_n (pc' := 41) rfl dX1_callsIn_40 rfl ?_
    obtain ⟨k2, e2, q2, K⟩ := K
    refine Ok.iald (pc' := 42) (z := h.1 10 k2) dX1_callsIn_41 rfl (shC_10 _) (by decide) e2 q2 rfl ?_
    refine Ok.callV (pc' := 45) (av := [pI (h.1 10 k2)]) (rest := [pI v2]) dX1_callsIn_42 rfl (by decide) cvX1_callsIn_50 (shC_1 _) rfl rfl rfl (leb rfl) (leb rfl) K (fun r1 h1 K => ?_)
    show Ok shC 0 0 mX1_callsIn 45 [some (pR 1), none, some (pI v2), some (pI v3)] [pI r1, pI v2] h1 Post
    refine Ok.bipush (pc' := 47) ⟨by decide, by decide⟩ dX1_callsIn_45 rfl ?_
    refine Ok.icmp_ne (tgt := 54) dX1_callsIn_47 rfl rfl (fun c3 => ?_) (fun c3 => ?_)
    · replace K := K.1 c3
      refine Ok.iconst (pc' := 55) in_0 dX1_callsIn_54 rfl ?_
      obtain ⟨q4, K⟩ := K
      refine Ok.iadd (pc' := 56) dX1_callsIn_55 rfl q4 ?_
      refine Ok.istore_n (pc' := 57) (ls' := [some (pR 1), none, some (pI (v2 + 0)), some (pI v3)]) dX1_callsIn_56 rfl (by decide) rfl rfl ?_
      obtain ⟨q5, K⟩ := K
      refine Ok.iinc (pc' := 60) (ls' := [some (pR 1), none, some (pI (v2 + 0)), some (pI (v3 + 1))]) dX1_callsIn_57 rfl rfl (by decide) rfl rfl q5 ?_
      refine Ok.goto (tgt := 20) dX1_callsIn_60 rfl ?_
      exact K
    · replace K := K.2 c3
      refine Ok.iconst (pc' := 51) in_1 dX1_callsIn_50 rfl ?_
      refine Ok.goto (tgt := 55) dX1_callsIn_51 rfl ?_
      obtain ⟨q4, K⟩ := K
      refine Ok.iadd (pc' := 56) dX1_callsIn_55 rfl q4 ?_
      refine Ok.istore_n (pc' := 57) (ls' := [some (pR 1), none, some (pI (v2 + 1)), some (pI v3)]) dX1_callsIn_56 rfl (by decide) rfl rfl ?_
      obtain ⟨q5, K⟩ := K
      refine Ok.iinc (pc' := 60) (ls' := [some (pR 1), none, some (pI (v2 + 1)), some (pI (v3 + 1))]) dX1_callsIn_57 rfl rfl (by decide) rfl rfl q5 ?_
      refine Ok.goto (tgt := 20) dX1_callsIn_60 rfl ?_
      exact K
theorem sX1_callsOf_0 {r : Int} {h : Hp} {Post : Int → Hp → Prop}
    (K : Ok shC 0 0 mX1_callsOf 4 [some (pR 1), some (pI r), some (pI 0), some (pI 0)] [] h Post) :
    Cl shC mX1_callsOf [pR 1, pI r] h Post := by
  show Ok shC 0 0 mX1_callsOf 0 [some (pR 1), some (pI r), none, none] [] h Post
  refine Ok.iconst (pc' := 1) in_0 dX1_callsOf_0 rfl ?_
  refine Ok.istore_n (pc' := 2) (ls' := [some (pR 1), some (pI r), some (pI 0), none]) dX1_callsOf_1 rfl (by decide) rfl rfl ?_
  refine Ok.iconst (pc' := 3) in_0 dX1_callsOf_2 rfl ?_
  refine Ok.istore_n (pc' := 4) (ls' := [some (pR 1), some (pI r), some (pI 0), some (pI 0)]) dX1_callsOf_3 rfl (by decide) rfl rfl ?_
  exact K
theorem sX1_callsOf_4 {r v2 v3 : Int} {h : Hp} {Post : Int → Hp → Prop}
    (K : ((h.2.1 2 6 ≤ v3) → Post v2 h) ∧ ((¬ h.2.1 2 6 ≤ v3) → Cl shC mX1_numberOf [pR 1, pI v3] h (fun r1 h1 => ((¬ r1 = r) → inR ((v2 + 0)) ∧ (inR ((v3 + 1)) ∧ (Ok shC 0 0 mX1_callsOf 4 [some (pR 1), some (pI r), some (pI (v2 + 0)), some (pI (v3 + 1))] [] h1 Post))) ∧ ((r1 = r) → Cl shC mX1_isCallInBody [pR 1, pI v3] h1 (fun r2 h2 => ((r2 = 0) → inR ((v2 + 0)) ∧ (inR ((v3 + 1)) ∧ (Ok shC 0 0 mX1_callsOf 4 [some (pR 1), some (pI r), some (pI (v2 + 0)), some (pI (v3 + 1))] [] h2 Post))) ∧ ((¬ r2 = 0) → inR ((v2 + 1)) ∧ (inR ((v3 + 1)) ∧ (Ok shC 0 0 mX1_callsOf 4 [some (pR 1), some (pI r), some (pI (v2 + 1)), some (pI (v3 + 1))] [] h2 Post)))))))) :
    Ok shC 0 0 mX1_callsOf 4 [some (pR 1), some (pI r), some (pI v2), some (pI v3)] [] h Post := by
  show Ok shC 0 0 mX1_callsOf 4 [some (pR 1), some (pI r), some (pI v2), some (pI v3)] [] h Post
  refine Ok.iload_n (pc' := 5) rfl dX1_callsOf_4 rfl ?_
  refine Ok.aload_n (pc' := 6) rfl dX1_callsOf_5 rfl ?_
  refine Ok.getR (pc' := 9) (k := 0) dX1_callsOf_6 rfl (shC_1 _) rfl inX1 (by decide) rfl wd_188 rfl ?_
  refine Ok.getIN (pc' := 12) (z := h.2.1 2 6) (k := 6) dX1_callsOf_9 rfl (shC_2 _) rfl inX5 (by decide) rfl rfl wd_130 rfl ?_
  refine Ok.icmp_ge (tgt := 46) dX1_callsOf_12 rfl rfl (fun c1 => ?_) (fun c1 => ?_)
  · replace K := K.1 c1
    refine Ok.iload_n (pc' := 47) rfl dX1_callsOf_46 rfl ?_
    exact Ok.iret dX1_callsOf_47 rfl (by decide) K
  · replace K := K.2 c1
    refine Ok.iload_n (pc' := 16) rfl dX1_callsOf_15 rfl ?_
    refine Ok.aload_n (pc' := 17) rfl dX1_callsOf_16 rfl ?_
    refine Ok.iload_n (pc' := 18) rfl dX1_callsOf_17 rfl ?_
    refine Ok.callV (pc' := 21) (av := [pI v3]) (rest := [pI v2]) dX1_callsOf_18 rfl (by decide) cvX1_callsOf_97 (shC_1 _) rfl rfl rfl (leb rfl) (leb rfl) K (fun r1 h1 K => ?_)
    show Ok shC 0 0 mX1_callsOf 21 [some (pR 1), some (pI r), some (pI v2), some (pI v3)] [pI r1, pI v2] h1 Post
    refine Ok.iload_n (pc' := 22) rfl dX1_callsOf_21 rfl ?_
    refine Ok.icmp_ne (tgt := 37) dX1_callsOf_22 rfl rfl (fun c2 => ?_) (fun c2 => ?_)
    · replace K := K.1 c2
      refine Ok.iconst (pc' := 38) in_0 dX1_callsOf_37 rfl ?_
      obtain ⟨q3, K⟩ := K
      refine Ok.iadd (pc' := 39) dX1_callsOf_38 rfl q3 ?_
      refine Ok.istore_n (pc' := 40) (ls' := [some (pR 1), some (pI r), some (pI (v2 + 0)), some (pI v3)]) dX1_callsOf_39 rfl (by decide) rfl rfl ?_
      obtain ⟨q4, K⟩ := K
      refine Ok.iinc (pc' := 43) (ls' := [some (pR 1), some (pI r), some (pI (v2 + 0)), some (pI (v3 + 1))]) dX1_callsOf_40 rfl rfl (by decide) rfl rfl q4 ?_
      refine Ok.goto (tgt := 4) dX1_callsOf_43 rfl ?_
      exact K
    · replace K := K.2 c2
      refine Ok.aload_n (pc' := 26) rfl dX1_callsOf_25 rfl ?_
      refine Ok.iload_n (pc' := 27) rfl dX1_callsOf_26 rfl ?_
      refine Ok.callV (pc' := 30) (av := [pI v3]) (rest := [pI v2]) dX1_callsOf_27 rfl (by decide) cvX1_callsOf_100 (shC_1 _) rfl rfl rfl (leb rfl) (leb rfl) K (fun r2 h2 K => ?_)
      show Ok shC 0 0 mX1_callsOf 30 [some (pR 1), some (pI r), some (pI v2), some (pI v3)] [pI r2, pI v2] h2 Post
      refine Ok.if_eq (tgt := 37) dX1_callsOf_30 rfl rfl (fun c3 => ?_) (fun c3 => ?_)
      · replace K := K.1 c3
        refine Ok.iconst (pc' := 38) in_0 dX1_callsOf_37 rfl ?_
        obtain ⟨q4, K⟩ := K
        refine Ok.iadd (pc' := 39) dX1_callsOf_38 rfl q4 ?_
        refine Ok.istore_n (pc' := 40) (ls' := [some (pR 1), some (pI r), some (pI (v2 + 0)), some (pI v3)]) dX1_callsOf_39 rfl (by decide) rfl rfl ?_
        obtain ⟨q5, K⟩ := K
        refine Ok.iinc (pc' := 43) (ls' := [some (pR 1), some (pI r), some (pI (v2 + 0)), some (pI (v3 + 1))]) dX1_callsOf_40 rfl rfl (by decide) rfl rfl q5 ?_
        refine Ok.goto (tgt := 4) dX1_callsOf_43 rfl ?_
        exact K
      · replace K := K.2 c3
        refine Ok.iconst (pc' := 34) in_1 dX1_callsOf_33 rfl ?_
        refine Ok.goto (tgt := 38) dX1_callsOf_34 rfl ?_
        obtain ⟨q4, K⟩ := K
        refine Ok.iadd (pc' := 39) dX1_callsOf_38 rfl q4 ?_
        refine Ok.istore_n (pc' := 40) (ls' := [some (pR 1), some (pI r), some (pI (v2 + 1)), some (pI v3)]) dX1_callsOf_39 rfl (by decide) rfl rfl ?_
        obtain ⟨q5, K⟩ := K
        refine Ok.iinc (pc' := 43) (ls' := [some (pR 1), some (pI r), some (pI (v2 + 1)), some (pI (v3 + 1))]) dX1_callsOf_40 rfl rfl (by decide) rfl rfl q5 ?_
        refine Ok.goto (tgt := 4) dX1_callsOf_43 rfl ?_
        exact K
theorem sX1_areAlike_0 {x y : Int} {h : Hp} {Post : Int → Hp → Prop}
    (K : Cl shC mX6_over [pR 9, pR 2, pI x] h (fun _ h1 => Cl shC mX6_over [pR 14, pR 2, pI y] h1 (fun _ h2 => ((h2.2.1 9 4 = h2.2.1 14 4) → Ok shC 0 0 mX1_areAlike 45 [some (pR 1), none, none, some (pI 0), none, none] [] h2 Post) ∧ ((¬ h2.2.1 9 4 = h2.2.1 14 4) → Post 0 h2)))) :
    Cl shC mX1_areAlike [pR 1, pI x, pI y] h Post := by
  show Ok shC 0 0 mX1_areAlike 0 [some (pR 1), some (pI x), some (pI y), none, none, none] [] h Post
  refine Ok.aload_n (pc' := 1) rfl dX1_areAlike_0 rfl ?_
  refine Ok.getR (pc' := 4) (k := 1) dX1_areAlike_1 rfl (shC_1 _) rfl inX1 (by decide) rfl wd_193 rfl ?_
  refine Ok.aload_n (pc' := 5) rfl dX1_areAlike_4 rfl ?_
  refine Ok.getR (pc' := 8) (k := 0) dX1_areAlike_5 rfl (shC_1 _) rfl inX1 (by decide) rfl wd_188 rfl ?_
  refine Ok.iload_n (pc' := 9) rfl dX1_areAlike_8 rfl ?_
  refine Ok.callV (pc' := 12) (av := [pR 2, pI x]) (rest := []) dX1_areAlike_9 rfl (by decide) cvX1_areAlike_75 (shC_9 _) rfl rfl rfl (leb rfl) (leb rfl) K (fun r_ h1 K => ?_)
  show Ok shC 0 0 mX1_areAlike 12 [some (pR 1), some (pI x), some (pI y), none, none, none] [] h1 Post
  refine Ok.aload_n (pc' := 13) rfl dX1_areAlike_12 rfl ?_
  refine Ok.getR (pc' := 16) (k := 2) dX1_areAlike_13 rfl (shC_1 _) rfl inX1 (by decide) rfl wd_195 rfl ?_
  refine Ok.aload_n (pc' := 17) rfl dX1_areAlike_16 rfl ?_
  refine Ok.getR (pc' := 20) (k := 0) dX1_areAlike_17 rfl (shC_1 _) rfl inX1 (by decide) rfl wd_188 rfl ?_
  refine Ok.iload_n (pc' := 21) rfl dX1_areAlike_20 rfl ?_
  refine Ok.callV (pc' := 24) (av := [pR 2, pI y]) (rest := []) dX1_areAlike_21 rfl (by decide) cvX1_areAlike_75 (shC_14 _) rfl rfl rfl (leb rfl) (leb rfl) K (fun r_ h2 K => ?_)
  show Ok shC 0 0 mX1_areAlike 24 [some (pR 1), some (pI x), some (pI y), none, none, none] [] h2 Post
  refine Ok.aload_n (pc' := 25) rfl dX1_areAlike_24 rfl ?_
  refine Ok.getR (pc' := 28) (k := 1) dX1_areAlike_25 rfl (shC_1 _) rfl inX1 (by decide) rfl wd_193 rfl ?_
  refine Ok.getIN (pc' := 31) (z := h2.2.1 9 4) (k := 4) dX1_areAlike_28 rfl (shC_9 _) rfl inX6 (by decide) rfl rfl wd_176 rfl ?_
  refine Ok.aload_n (pc' := 32) rfl dX1_areAlike_31 rfl ?_
  refine Ok.getR (pc' := 35) (k := 2) dX1_areAlike_32 rfl (shC_1 _) rfl inX1 (by decide) rfl wd_195 rfl ?_
  refine Ok.getIN (pc' := 38) (z := h2.2.1 14 4) (k := 4) dX1_areAlike_35 rfl (shC_14 _) rfl inX6 (by decide) rfl rfl wd_176 rfl ?_
  refine Ok.icmp_eq (tgt := 43) dX1_areAlike_38 rfl rfl (fun c1 => ?_) (fun c1 => ?_)
  · replace K := K.1 c1
    refine Ok.iconst (pc' := 44) in_0 dX1_areAlike_43 rfl ?_
    refine Ok.istore_n (pc' := 45) (ls' := [some (pR 1), some (pI x), some (pI y), some (pI 0), none, none]) dX1_areAlike_44 rfl (by decide) rfl rfl ?_
    exact Ok.fl (ls' := [some (pR 1), none, none, some (pI 0), none, none]) K ⟨rfl, rfl, trivial⟩
  · replace K := K.2 c1
    refine Ok.iconst (pc' := 42) in_0 dX1_areAlike_41 rfl ?_
    exact Ok.zret dX1_areAlike_42 rfl (by decide) (Or.inl rfl) K
theorem sX1_areAlike_45 {v3 : Int} {h : Hp} {Post : Int → Hp → Prop}
    (K : ((h.2.1 9 4 ≤ v3) → Post 1 h) ∧ ((¬ h.2.1 9 4 ≤ v3) → ∃ k2 : Nat, v3 = (k2 : Int) ∧ k2 < 600 ∧ (((¬ h.1 11 k2 = h.1 16 k2) → Post 0 h) ∧ ((h.1 11 k2 = h.1 16 k2) → Cl shC mX1_kindOf [pR 1, pI (h.1 10 k2)] h (fun r1 h1 => Cl shC mX1_kindOf [pR 1, pI (h.1 15 k2)] h1 (fun r2 h2 => ((¬ r1 = r2) → Post 0 h2) ∧ ((r1 = r2) → Cl shC mX1_numberOf [pR 1, pI (h.1 10 k2)] h2 (fun r3 h3 => Cl shC mX1_numberOf [pR 1, pI (h.1 15 k2)] h3 (fun r4 h4 => ((r3 = r4) → inR ((v3 + 1)) ∧ (Ok shC 0 0 mX1_areAlike 45 [some (pR 1), none, none, some (pI (v3 + 1)), none, none] [] h4 Post)) ∧ ((¬ r3 = r4) → Post 0 h4)))))))))) :
    Ok shC 0 0 mX1_areAlike 45 [some (pR 1), none, none, some (pI v3), none, none] [] h Post := by
  show Ok shC 0 0 mX1_areAlike 45 [some (pR 1), none, none, some (pI v3), none, none] [] h Post
  refine Ok.iload_n (pc' := 46) rfl dX1_areAlike_45 rfl ?_
  refine Ok.aload_n (pc' := 47) rfl dX1_areAlike_46 rfl ?_
  refine Ok.getR (pc' := 50) (k := 1) dX1_areAlike_47 rfl (shC_1 _) rfl inX1 (by decide) rfl wd_193 rfl ?_
  refine Ok.getIN (pc' := 53) (z := h.2.1 9 4) (k := 4) dX1_areAlike_50 rfl (shC_9 _) rfl inX6 (by decide) rfl rfl wd_176 rfl ?_
  refine Ok.icmp_ge (tgt := 137) dX1_areAlike_53 rfl rfl (fun c1 => ?_) (fun c1 => ?_)
  · replace K := K.1 c1
    refine Ok.iconst (pc' := 138) in_1 dX1_areAlike_137 rfl ?_
    exact Ok.zret dX1_areAlike_138 rfl (by decide) (Or.inr rfl) K
  · replace K := K.2 c1
    refine Ok.aload_n (pc' := 57) rfl dX1_areAlike_56 rfl ?_
    refine Ok.getR (pc' := 60) (k := 1) dX1_areAlike_57 rfl (shC_1 _) rfl inX1 (by decide) rfl wd_193 rfl ?_
    refine Ok.getRN (pc' := 63) (k := 0) dX1_areAlike_60 rfl (shC_9 _) rfl inX6 (by decide) rfl wd_166 rfl ?_
    refine Ok.iload_n (pc' := 64) rfl dX1_areAlike_63 rfl ?_
    obtain ⟨k2, e2, q2, K⟩ := K
    refine Ok.iald (pc' := 65) (z := h.1 10 k2) dX1_areAlike_64 rfl (shC_10 _) (by decide) e2 q2 rfl ?_
    refine Ok.istore (pc' := 67) (ls' := [some (pR 1), none, none, some (pI v3), some (pI (h.1 10 k2)), none]) dX1_areAlike_65 rfl (by decide) rfl rfl ?_
    refine Ok.aload_n (pc' := 68) rfl dX1_areAlike_67 rfl ?_
    refine Ok.getR (pc' := 71) (k := 2) dX1_areAlike_68 rfl (shC_1 _) rfl inX1 (by decide) rfl wd_195 rfl ?_
    refine Ok.getRN (pc' := 74) (k := 0) dX1_areAlike_71 rfl (shC_14 _) rfl inX6 (by decide) rfl wd_166 rfl ?_
    refine Ok.iload_n (pc' := 75) rfl dX1_areAlike_74 rfl ?_
    refine Ok.iald (pc' := 76) (z := h.1 15 k2) dX1_areAlike_75 rfl (shC_15 _) (by decide) e2 q2 rfl ?_
    refine Ok.istore (pc' := 78) (ls' := [some (pR 1), none, none, some (pI v3), some (pI (h.1 10 k2)), some (pI (h.1 15 k2))]) dX1_areAlike_76 rfl (by decide) rfl rfl ?_
    refine Ok.aload_n (pc' := 79) rfl dX1_areAlike_78 rfl ?_
    refine Ok.getR (pc' := 82) (k := 1) dX1_areAlike_79 rfl (shC_1 _) rfl inX1 (by decide) rfl wd_193 rfl ?_
    refine Ok.getRN (pc' := 85) (k := 1) dX1_areAlike_82 rfl (shC_9 _) rfl inX6 (by decide) rfl wd_170 rfl ?_
    refine Ok.iload_n (pc' := 86) rfl dX1_areAlike_85 rfl ?_
    refine Ok.iald (pc' := 87) (z := h.1 11 k2) dX1_areAlike_86 rfl (shC_11 _) (by decide) e2 q2 rfl ?_
    refine Ok.aload_n (pc' := 88) rfl dX1_areAlike_87 rfl ?_
    refine Ok.getR (pc' := 91) (k := 2) dX1_areAlike_88 rfl (shC_1 _) rfl inX1 (by decide) rfl wd_195 rfl ?_
    refine Ok.getRN (pc' := 94) (k := 1) dX1_areAlike_91 rfl (shC_14 _) rfl inX6 (by decide) rfl wd_170 rfl ?_
    refine Ok.iload_n (pc' := 95) rfl dX1_areAlike_94 rfl ?_
    refine Ok.iald (pc' := 96) (z := h.1 16 k2) dX1_areAlike_95 rfl (shC_16 _) (by decide) e2 q2 rfl ?_
    refine Ok.icmp_ne (tgt := 129) dX1_areAlike_96 rfl rfl (fun c3 => ?_) (fun c3 => ?_)
    · replace K := K.1 c3
      refine Ok.iconst (pc' := 130) in_0 dX1_areAlike_129 rfl ?_
      exact Ok.zret dX1_areAlike_130 rfl (by decide) (Or.inl rfl) K
    · replace K := K.2 c3
      refine Ok.aload_n (pc' := 100) rfl dX1_areAlike_99 rfl ?_
      refine Ok.iload (pc' := 102) rfl dX1_areAlike_100 rfl ?_
      refine Ok.callV (pc' := 105) (av := [pI (h.1 10 k2)]) (rest := []) dX1_areAlike_102 rfl (by decide) cvX1_areAlike_50 (shC_1 _) rfl rfl rfl (leb rfl) (leb rfl) K (fun r1 h1 K => ?_)
      show Ok shC 0 0 mX1_areAlike 105 [some (pR 1), none, none, some (pI v3), some (pI (h.1 10 k2)), some (pI (h.1 15 k2))] [pI r1] h1 Post
      refine Ok.aload_n (pc' := 106) rfl dX1_areAlike_105 rfl ?_
      refine Ok.iload (pc' := 108) rfl dX1_areAlike_106 rfl ?_
      refine Ok.callV (pc' := 111) (av := [pI (h.1 15 k2)]) (rest := [pI r1]) dX1_areAlike_108 rfl (by decide) cvX1_areAlike_50 (shC_1 _) rfl rfl rfl (leb rfl) (leb rfl) K (fun r2 h2 K => ?_)
      show Ok shC 0 0 mX1_areAlike 111 [some (pR 1), none, none, some (pI v3), some (pI (h.1 10 k2)), some (pI (h.1 15 k2))] [pI r2, pI r1] h2 Post
      refine Ok.icmp_ne (tgt := 129) dX1_areAlike_111 rfl rfl (fun c4 => ?_) (fun c4 => ?_)
      · replace K := K.1 c4
        refine Ok.iconst (pc' := 130) in_0 dX1_areAlike_129 rfl ?_
        exact Ok.zret dX1_areAlike_130 rfl (by decide) (Or.inl rfl) K
      · replace K := K.2 c4
        refine Ok.aload_n (pc' := 115) rfl dX1_areAlike_114 rfl ?_
        refine Ok.iload (pc' := 117) rfl dX1_areAlike_115 rfl ?_
        refine Ok.callV (pc' := 120) (av := [pI (h.1 10 k2)]) (rest := []) dX1_areAlike_117 rfl (by decide) cvX1_areAlike_97 (shC_1 _) rfl rfl rfl (leb rfl) (leb rfl) K (fun r3 h3 K => ?_)
        show Ok shC 0 0 mX1_areAlike 120 [some (pR 1), none, none, some (pI v3), some (pI (h.1 10 k2)), some (pI (h.1 15 k2))] [pI r3] h3 Post
        refine Ok.aload_n (pc' := 121) rfl dX1_areAlike_120 rfl ?_
        refine Ok.iload (pc' := 123) rfl dX1_areAlike_121 rfl ?_
        refine Ok.callV (pc' := 126) (av := [pI (h.1 15 k2)]) (rest := [pI r3]) dX1_areAlike_123 rfl (by decide) cvX1_areAlike_97 (shC_1 _) rfl rfl rfl (leb rfl) (leb rfl) K (fun r4 h4 K => ?_)
        show Ok shC 0 0 mX1_areAlike 126 [some (pR 1), none, none, some (pI v3), some (pI (h.1 10 k2)), some (pI (h.1 15 k2))] [pI r4, pI r3] h4 Post
        refine Ok.icmp_eq (tgt := 131) dX1_areAlike_126 rfl rfl (fun c5 => ?_) (fun c5 => ?_)
        · replace K := K.1 c5
          obtain ⟨q6, K⟩ := K
          refine Ok.iinc (pc' := 134) (ls' := [some (pR 1), none, none, some (pI (v3 + 1)), some (pI (h.1 10 k2)), some (pI (h.1 15 k2))]) dX1_areAlike_131 rfl rfl (by decide) rfl rfl q6 ?_
          refine Ok.goto (tgt := 45) dX1_areAlike_134 rfl ?_
          exact Ok.fl (ls' := [some (pR 1), none, none, some (pI (v3 + 1)), none, none]) K ⟨rfl, rfl, trivial⟩
        · replace K := K.2 c5
          refine Ok.iconst (pc' := 130) in_0 dX1_areAlike_129 rfl ?_
          exact Ok.zret dX1_areAlike_130 rfl (by decide) (Or.inl rfl) K
theorem sX1_goneSteps_0 {h : Hp} {Post : Int → Hp → Prop}
    (K : Ok shC 0 0 mX1_goneSteps 4 [some (pR 1), some (pI 0), some (pI 0)] [] h Post) :
    Cl shC mX1_goneSteps [pR 1] h Post := by
  show Ok shC 0 0 mX1_goneSteps 0 [some (pR 1), none, none] [] h Post
  refine Ok.iconst (pc' := 1) in_0 dX1_goneSteps_0 rfl ?_
  refine Ok.istore_n (pc' := 2) (ls' := [some (pR 1), some (pI 0), none]) dX1_goneSteps_1 rfl (by decide) rfl rfl ?_
  refine Ok.iconst (pc' := 3) in_0 dX1_goneSteps_2 rfl ?_
  refine Ok.istore_n (pc' := 4) (ls' := [some (pR 1), some (pI 0), some (pI 0)]) dX1_goneSteps_3 rfl (by decide) rfl rfl ?_
  exact K
theorem sX1_goneSteps_4 {v1 v2 : Int} {h : Hp} {Post : Int → Hp → Prop}
    (K : ((h.2.1 2 6 ≤ v2) → Post v1 h) ∧ ((¬ h.2.1 2 6 ≤ v2) → Cl shC mX1_isStep [pR 1, pI v2] h (fun r1 h1 => ((r1 = 0) → inR ((v1 + 1)) ∧ (inR ((v2 + 1)) ∧ (Ok shC 0 0 mX1_goneSteps 4 [some (pR 1), some (pI (v1 + 1)), some (pI (v2 + 1))] [] h1 Post))) ∧ ((¬ r1 = 0) → inR ((v1 + 0)) ∧ (inR ((v2 + 1)) ∧ (Ok shC 0 0 mX1_goneSteps 4 [some (pR 1), some (pI (v1 + 0)), some (pI (v2 + 1))] [] h1 Post)))))) :
    Ok shC 0 0 mX1_goneSteps 4 [some (pR 1), some (pI v1), some (pI v2)] [] h Post := by
  show Ok shC 0 0 mX1_goneSteps 4 [some (pR 1), some (pI v1), some (pI v2)] [] h Post
  refine Ok.iload_n (pc' := 5) rfl dX1_goneSteps_4 rfl ?_
  refine Ok.aload_n (pc' := 6) rfl dX1_goneSteps_5 rfl ?_
  refine Ok.getR (pc' := 9) (k := 0) dX1_goneSteps_6 rfl (shC_1 _) rfl inX1 (by decide) rfl wd_188 rfl ?_
  refine Ok.getIN (pc' := 12) (z := h.2.1 2 6) (k := 6) dX1_goneSteps_9 rfl (shC_2 _) rfl inX5 (by decide) rfl rfl wd_130 rfl ?_
  refine Ok.icmp_ge (tgt := 37) dX1_goneSteps_12 rfl rfl (fun c1 => ?_) (fun c1 => ?_)
  · replace K := K.1 c1
    refine Ok.iload_n (pc' := 38) rfl dX1_goneSteps_37 rfl ?_
    exact Ok.iret dX1_goneSteps_38 rfl (by decide) K
  · replace K := K.2 c1
    refine Ok.iload_n (pc' := 16) rfl dX1_goneSteps_15 rfl ?_
    refine Ok.aload_n (pc' := 17) rfl dX1_goneSteps_16 rfl ?_
    refine Ok.iload_n (pc' := 18) rfl dX1_goneSteps_17 rfl ?_
    refine Ok.callV (pc' := 21) (av := [pI v2]) (rest := [pI v1]) dX1_goneSteps_18 rfl (by decide) cvX1_goneSteps_71 (shC_1 _) rfl rfl rfl (leb rfl) (leb rfl) K (fun r1 h1 K => ?_)
    show Ok shC 0 0 mX1_goneSteps 21 [some (pR 1), some (pI v1), some (pI v2)] [pI r1, pI v1] h1 Post
    refine Ok.if_eq (tgt := 28) dX1_goneSteps_21 rfl rfl (fun c2 => ?_) (fun c2 => ?_)
    · replace K := K.1 c2
      refine Ok.iconst (pc' := 29) in_1 dX1_goneSteps_28 rfl ?_
      obtain ⟨q3, K⟩ := K
      refine Ok.iadd (pc' := 30) dX1_goneSteps_29 rfl q3 ?_
      refine Ok.istore_n (pc' := 31) (ls' := [some (pR 1), some (pI (v1 + 1)), some (pI v2)]) dX1_goneSteps_30 rfl (by decide) rfl rfl ?_
      obtain ⟨q4, K⟩ := K
      refine Ok.iinc (pc' := 34) (ls' := [some (pR 1), some (pI (v1 + 1)), some (pI (v2 + 1))]) dX1_goneSteps_31 rfl rfl (by decide) rfl rfl q4 ?_
      refine Ok.goto (tgt := 4) dX1_goneSteps_34 rfl ?_
      exact K
    · replace K := K.2 c2
      refine Ok.iconst (pc' := 25) in_0 dX1_goneSteps_24 rfl ?_
      refine Ok.goto (tgt := 29) dX1_goneSteps_25 rfl ?_
      obtain ⟨q3, K⟩ := K
      refine Ok.iadd (pc' := 30) dX1_goneSteps_29 rfl q3 ?_
      refine Ok.istore_n (pc' := 31) (ls' := [some (pR 1), some (pI (v1 + 0)), some (pI v2)]) dX1_goneSteps_30 rfl (by decide) rfl rfl ?_
      obtain ⟨q4, K⟩ := K
      refine Ok.iinc (pc' := 34) (ls' := [some (pR 1), some (pI (v1 + 0)), some (pI (v2 + 1))]) dX1_goneSteps_31 rfl rfl (by decide) rfl rfl q4 ?_
      refine Ok.goto (tgt := 4) dX1_goneSteps_34 rfl ?_
      exact K
theorem sX1_looseSteps_0 {h : Hp} {Post : Int → Hp → Prop}
    (K : Ok shC 0 0 mX1_looseSteps 4 [some (pR 1), some (pI 0), some (pI 0)] [] h Post) :
    Cl shC mX1_looseSteps [pR 1] h Post := by
  show Ok shC 0 0 mX1_looseSteps 0 [some (pR 1), none, none] [] h Post
  refine Ok.iconst (pc' := 1) in_0 dX1_looseSteps_0 rfl ?_
  refine Ok.istore_n (pc' := 2) (ls' := [some (pR 1), some (pI 0), none]) dX1_looseSteps_1 rfl (by decide) rfl rfl ?_
  refine Ok.iconst (pc' := 3) in_0 dX1_looseSteps_2 rfl ?_
  refine Ok.istore_n (pc' := 4) (ls' := [some (pR 1), some (pI 0), some (pI 0)]) dX1_looseSteps_3 rfl (by decide) rfl rfl ?_
  exact K
theorem sX1_looseSteps_4 {v1 v2 : Int} {h : Hp} {Post : Int → Hp → Prop}
    (K : ((h.2.1 2 6 ≤ v2) → Post v1 h) ∧ ((¬ h.2.1 2 6 ≤ v2) → Cl shC mX1_isLoose [pR 1, pI v2] h (fun r1 h1 => ((r1 = 0) → inR ((v1 + 0)) ∧ (inR ((v2 + 1)) ∧ (Ok shC 0 0 mX1_looseSteps 4 [some (pR 1), some (pI (v1 + 0)), some (pI (v2 + 1))] [] h1 Post))) ∧ ((¬ r1 = 0) → inR ((v1 + 1)) ∧ (inR ((v2 + 1)) ∧ (Ok shC 0 0 mX1_looseSteps 4 [some (pR 1), some (pI (v1 + 1)), some (pI (v2 + 1))] [] h1 Post)))))) :
    Ok shC 0 0 mX1_looseSteps 4 [some (pR 1), some (pI v1), some (pI v2)] [] h Post := by
  show Ok shC 0 0 mX1_looseSteps 4 [some (pR 1), some (pI v1), some (pI v2)] [] h Post
  refine Ok.iload_n (pc' := 5) rfl dX1_looseSteps_4 rfl ?_
  refine Ok.aload_n (pc' := 6) rfl dX1_looseSteps_5 rfl ?_
  refine Ok.getR (pc' := 9) (k := 0) dX1_looseSteps_6 rfl (shC_1 _) rfl inX1 (by decide) rfl wd_188 rfl ?_
  refine Ok.getIN (pc' := 12) (z := h.2.1 2 6) (k := 6) dX1_looseSteps_9 rfl (shC_2 _) rfl inX5 (by decide) rfl rfl wd_130 rfl ?_
  refine Ok.icmp_ge (tgt := 37) dX1_looseSteps_12 rfl rfl (fun c1 => ?_) (fun c1 => ?_)
  · replace K := K.1 c1
    refine Ok.iload_n (pc' := 38) rfl dX1_looseSteps_37 rfl ?_
    exact Ok.iret dX1_looseSteps_38 rfl (by decide) K
  · replace K := K.2 c1
    refine Ok.iload_n (pc' := 16) rfl dX1_looseSteps_15 rfl ?_
    refine Ok.aload_n (pc' := 17) rfl dX1_looseSteps_16 rfl ?_
    refine Ok.iload_n (pc' := 18) rfl dX1_looseSteps_17 rfl ?_
    refine Ok.callV (pc' := 21) (av := [pI v2]) (rest := [pI v1]) dX1_looseSteps_18 rfl (by decide) cvX1_looseSteps_103 (shC_1 _) rfl rfl rfl (leb rfl) (leb rfl) K (fun r1 h1 K => ?_)
    show Ok shC 0 0 mX1_looseSteps 21 [some (pR 1), some (pI v1), some (pI v2)] [pI r1, pI v1] h1 Post
    refine Ok.if_eq (tgt := 28) dX1_looseSteps_21 rfl rfl (fun c2 => ?_) (fun c2 => ?_)
    · replace K := K.1 c2
      refine Ok.iconst (pc' := 29) in_0 dX1_looseSteps_28 rfl ?_
      obtain ⟨q3, K⟩ := K
      refine Ok.iadd (pc' := 30) dX1_looseSteps_29 rfl q3 ?_
      refine Ok.istore_n (pc' := 31) (ls' := [some (pR 1), some (pI (v1 + 0)), some (pI v2)]) dX1_looseSteps_30 rfl (by decide) rfl rfl ?_
      obtain ⟨q4, K⟩ := K
      refine Ok.iinc (pc' := 34) (ls' := [some (pR 1), some (pI (v1 + 0)), some (pI (v2 + 1))]) dX1_looseSteps_31 rfl rfl (by decide) rfl rfl q4 ?_
      refine Ok.goto (tgt := 4) dX1_looseSteps_34 rfl ?_
      exact K
    · replace K := K.2 c2
      refine Ok.iconst (pc' := 25) in_1 dX1_looseSteps_24 rfl ?_
      refine Ok.goto (tgt := 29) dX1_looseSteps_25 rfl ?_
      obtain ⟨q3, K⟩ := K
      refine Ok.iadd (pc' := 30) dX1_looseSteps_29 rfl q3 ?_
      refine Ok.istore_n (pc' := 31) (ls' := [some (pR 1), some (pI (v1 + 1)), some (pI v2)]) dX1_looseSteps_30 rfl (by decide) rfl rfl ?_
      obtain ⟨q4, K⟩ := K
      refine Ok.iinc (pc' := 34) (ls' := [some (pR 1), some (pI (v1 + 1)), some (pI (v2 + 1))]) dX1_looseSteps_31 rfl rfl (by decide) rfl rfl q4 ?_
      refine Ok.goto (tgt := 4) dX1_looseSteps_34 rfl ?_
      exact K
theorem sX1_missingRoutines_0 {h : Hp} {Post : Int → Hp → Prop}
    (K : Ok shC 0 0 mX1_missingRoutines 4 [some (pR 1), some (pI 0), some (pI 0)] [] h Post) :
    Cl shC mX1_missingRoutines [pR 1] h Post := by
  show Ok shC 0 0 mX1_missingRoutines 0 [some (pR 1), none, none] [] h Post
  refine Ok.iconst (pc' := 1) in_0 dX1_missingRoutines_0 rfl ?_
  refine Ok.istore_n (pc' := 2) (ls' := [some (pR 1), some (pI 0), none]) dX1_missingRoutines_1 rfl (by decide) rfl rfl ?_
  refine Ok.iconst (pc' := 3) in_0 dX1_missingRoutines_2 rfl ?_
  refine Ok.istore_n (pc' := 4) (ls' := [some (pR 1), some (pI 0), some (pI 0)]) dX1_missingRoutines_3 rfl (by decide) rfl rfl ?_
  exact K
theorem sX1_missingRoutines_4 {v1 v2 : Int} {h : Hp} {Post : Int → Hp → Prop}
    (K : ((h.2.1 2 7 ≤ v2) → Post v1 h) ∧ ((¬ h.2.1 2 7 ≤ v2) → Cl shC mX1_isMissing [pR 1, pI v2] h (fun r1 h1 => ((r1 = 0) → inR ((v1 + 0)) ∧ (inR ((v2 + 1)) ∧ (Ok shC 0 0 mX1_missingRoutines 4 [some (pR 1), some (pI (v1 + 0)), some (pI (v2 + 1))] [] h1 Post))) ∧ ((¬ r1 = 0) → inR ((v1 + 1)) ∧ (inR ((v2 + 1)) ∧ (Ok shC 0 0 mX1_missingRoutines 4 [some (pR 1), some (pI (v1 + 1)), some (pI (v2 + 1))] [] h1 Post)))))) :
    Ok shC 0 0 mX1_missingRoutines 4 [some (pR 1), some (pI v1), some (pI v2)] [] h Post := by
  show Ok shC 0 0 mX1_missingRoutines 4 [some (pR 1), some (pI v1), some (pI v2)] [] h Post
  refine Ok.iload_n (pc' := 5) rfl dX1_missingRoutines_4 rfl ?_
  refine Ok.aload_n (pc' := 6) rfl dX1_missingRoutines_5 rfl ?_
  refine Ok.getR (pc' := 9) (k := 0) dX1_missingRoutines_6 rfl (shC_1 _) rfl inX1 (by decide) rfl wd_188 rfl ?_
  refine Ok.getIN (pc' := 12) (z := h.2.1 2 7) (k := 7) dX1_missingRoutines_9 rfl (shC_2 _) rfl inX5 (by decide) rfl rfl wd_137 rfl ?_
  refine Ok.icmp_ge (tgt := 37) dX1_missingRoutines_12 rfl rfl (fun c1 => ?_) (fun c1 => ?_)
  · replace K := K.1 c1
    refine Ok.iload_n (pc' := 38) rfl dX1_missingRoutines_37 rfl ?_
    exact Ok.iret dX1_missingRoutines_38 rfl (by decide) K
  · replace K := K.2 c1
    refine Ok.iload_n (pc' := 16) rfl dX1_missingRoutines_15 rfl ?_
    refine Ok.aload_n (pc' := 17) rfl dX1_missingRoutines_16 rfl ?_
    refine Ok.iload_n (pc' := 18) rfl dX1_missingRoutines_17 rfl ?_
    refine Ok.callV (pc' := 21) (av := [pI v2]) (rest := [pI v1]) dX1_missingRoutines_18 rfl (by decide) cvX1_missingRoutines_106 (shC_1 _) rfl rfl rfl (leb rfl) (leb rfl) K (fun r1 h1 K => ?_)
    show Ok shC 0 0 mX1_missingRoutines 21 [some (pR 1), some (pI v1), some (pI v2)] [pI r1, pI v1] h1 Post
    refine Ok.if_eq (tgt := 28) dX1_missingRoutines_21 rfl rfl (fun c2 => ?_) (fun c2 => ?_)
    · replace K := K.1 c2
      refine Ok.iconst (pc' := 29) in_0 dX1_missingRoutines_28 rfl ?_
      obtain ⟨q3, K⟩ := K
      refine Ok.iadd (pc' := 30) dX1_missingRoutines_29 rfl q3 ?_
      refine Ok.istore_n (pc' := 31) (ls' := [some (pR 1), some (pI (v1 + 0)), some (pI v2)]) dX1_missingRoutines_30 rfl (by decide) rfl rfl ?_
      obtain ⟨q4, K⟩ := K
      refine Ok.iinc (pc' := 34) (ls' := [some (pR 1), some (pI (v1 + 0)), some (pI (v2 + 1))]) dX1_missingRoutines_31 rfl rfl (by decide) rfl rfl q4 ?_
      refine Ok.goto (tgt := 4) dX1_missingRoutines_34 rfl ?_
      exact K
    · replace K := K.2 c2
      refine Ok.iconst (pc' := 25) in_1 dX1_missingRoutines_24 rfl ?_
      refine Ok.goto (tgt := 29) dX1_missingRoutines_25 rfl ?_
      obtain ⟨q3, K⟩ := K
      refine Ok.iadd (pc' := 30) dX1_missingRoutines_29 rfl q3 ?_
      refine Ok.istore_n (pc' := 31) (ls' := [some (pR 1), some (pI (v1 + 1)), some (pI v2)]) dX1_missingRoutines_30 rfl (by decide) rfl rfl ?_
      obtain ⟨q4, K⟩ := K
      refine Ok.iinc (pc' := 34) (ls' := [some (pR 1), some (pI (v1 + 1)), some (pI (v2 + 1))]) dX1_missingRoutines_31 rfl rfl (by decide) rfl rfl q4 ?_
      refine Ok.goto (tgt := 4) dX1_missingRoutines_34 rfl ?_
      exact K
theorem sX1_addRoutine_0 {params : Int} {h : Hp} {Post : Int → Hp → Prop}
    (K : ((h.2.1 2 7 < 10) → ∃ k2 : Nat, h.2.1 2 7 = (k2 : Int) ∧ k2 < 10 ∧ (inR ((h.2.1 2 7 + 1)) ∧ (Post (h.2.1 2 7) (hI (hA (hA h 7 k2 params) 8 k2 (-4)) 2 7 (h.2.1 2 7 + 1))))) ∧ ((¬ h.2.1 2 7 < 10) → Post (-4) h)) :
    Cl shC mX1_addRoutine [pR 1, pI params] h Post := by
  show Ok shC 0 0 mX1_addRoutine 0 [some (pR 1), some (pI params), none] [] h Post
  refine Ok.aload_n (pc' := 1) rfl dX1_addRoutine_0 rfl ?_
  refine Ok.getR (pc' := 4) (k := 0) dX1_addRoutine_1 rfl (shC_1 _) rfl inX1 (by decide) rfl wd_188 rfl ?_
  refine Ok.getIN (pc' := 7) (z := h.2.1 2 7) (k := 7) dX1_addRoutine_4 rfl (shC_2 _) rfl inX5 (by decide) rfl rfl wd_137 rfl ?_
  refine Ok.istore_n (pc' := 8) (ls' := [some (pR 1), some (pI params), some (pI (h.2.1 2 7))]) dX1_addRoutine_7 rfl (by decide) rfl rfl ?_
  refine Ok.iload_n (pc' := 9) rfl dX1_addRoutine_8 rfl ?_
  refine Ok.bipush (pc' := 11) ⟨by decide, by decide⟩ dX1_addRoutine_9 rfl ?_
  refine Ok.icmp_lt (tgt := 17) dX1_addRoutine_11 rfl rfl (fun c1 => ?_) (fun c1 => ?_)
  · replace K := K.1 c1
    refine Ok.aload_n (pc' := 18) rfl dX1_addRoutine_17 rfl ?_
    refine Ok.getR (pc' := 21) (k := 0) dX1_addRoutine_18 rfl (shC_1 _) rfl inX1 (by decide) rfl wd_188 rfl ?_
    refine Ok.getRN (pc' := 24) (k := 4) dX1_addRoutine_21 rfl (shC_2 _) rfl inX5 (by decide) rfl wd_127 rfl ?_
    refine Ok.iload_n (pc' := 25) rfl dX1_addRoutine_24 rfl ?_
    refine Ok.iload_n (pc' := 26) rfl dX1_addRoutine_25 rfl ?_
    obtain ⟨k2, e2, q2, K⟩ := K
    refine Ok.iast (pc' := 27) dX1_addRoutine_26 rfl (shC_7 _) (by decide) e2 q2 ?_
    refine Ok.aload_n (pc' := 28) rfl dX1_addRoutine_27 rfl ?_
    refine Ok.getR (pc' := 31) (k := 0) dX1_addRoutine_28 rfl (shC_1 _) rfl inX1 (by decide) rfl wd_188 rfl ?_
    refine Ok.getRN (pc' := 34) (k := 5) dX1_addRoutine_31 rfl (shC_2 _) rfl inX5 (by decide) rfl wd_129 rfl ?_
    refine Ok.iload_n (pc' := 35) rfl dX1_addRoutine_34 rfl ?_
    refine Ok.bipush (pc' := 37) ⟨by decide, by decide⟩ dX1_addRoutine_35 rfl ?_
    refine Ok.iast (pc' := 38) dX1_addRoutine_37 rfl (shC_8 _) (by decide) e2 q2 ?_
    refine Ok.aload_n (pc' := 39) rfl dX1_addRoutine_38 rfl ?_
    refine Ok.getR (pc' := 42) (k := 0) dX1_addRoutine_39 rfl (shC_1 _) rfl inX1 (by decide) rfl wd_188 rfl ?_
    refine Ok.iload_n (pc' := 43) rfl dX1_addRoutine_42 rfl ?_
    refine Ok.iconst (pc' := 44) in_1 dX1_addRoutine_43 rfl ?_
    obtain ⟨q3, K⟩ := K
    refine Ok.iadd (pc' := 45) dX1_addRoutine_44 rfl q3 ?_
    refine Ok.putIN (pc' := 48) (k := 7) dX1_addRoutine_45 rfl (shC_2 _) rfl inX5 tyX5 tyX5_ok nmX5 (by decide) rfl wd_137 rfl rfl (Or.inl rfl) ?_
    refine Ok.iload_n (pc' := 49) rfl dX1_addRoutine_48 rfl ?_
    exact Ok.iret dX1_addRoutine_49 rfl (by decide) K
  · replace K := K.2 c1
    refine Ok.bipush (pc' := 16) ⟨by decide, by decide⟩ dX1_addRoutine_14 rfl ?_
    exact Ok.iret dX1_addRoutine_16 rfl (by decide) K
theorem sX1_setBody_0 {r step : Int} {h : Hp} {Post : Int → Hp → Prop}
    (K : ((r < 0) → Post 0 h) ∧ ((¬ r < 0) → ((h.2.1 2 7 ≤ r) → Post 0 h) ∧ ((¬ h.2.1 2 7 ≤ r) → ∃ k3 : Nat, r = (k3 : Int) ∧ k3 < 10 ∧ (Post 0 (hA h 8 k3 step))))) :
    Cl shC mX1_setBody [pR 1, pI r, pI step] h Post := by
  show Ok shC 0 0 mX1_setBody 0 [some (pR 1), some (pI r), some (pI step)] [] h Post
  refine Ok.iload_n (pc' := 1) rfl dX1_setBody_0 rfl ?_
  refine Ok.if_lt (tgt := 25) dX1_setBody_1 rfl rfl (fun c1 => ?_) (fun c1 => ?_)
  · replace K := K.1 c1
    exact Ok.vret dX1_setBody_25 rfl (by decide) K
  · replace K := K.2 c1
    refine Ok.iload_n (pc' := 5) rfl dX1_setBody_4 rfl ?_
    refine Ok.aload_n (pc' := 6) rfl dX1_setBody_5 rfl ?_
    refine Ok.getR (pc' := 9) (k := 0) dX1_setBody_6 rfl (shC_1 _) rfl inX1 (by decide) rfl wd_188 rfl ?_
    refine Ok.getIN (pc' := 12) (z := h.2.1 2 7) (k := 7) dX1_setBody_9 rfl (shC_2 _) rfl inX5 (by decide) rfl rfl wd_137 rfl ?_
    refine Ok.icmp_ge (tgt := 25) dX1_setBody_12 rfl rfl (fun c2 => ?_) (fun c2 => ?_)
    · replace K := K.1 c2
      exact Ok.vret dX1_setBody_25 rfl (by decide) K
    · replace K := K.2 c2
      refine Ok.aload_n (pc' := 16) rfl dX1_setBody_15 rfl ?_
      refine Ok.getR (pc' := 19) (k := 0) dX1_setBody_16 rfl (shC_1 _) rfl inX1 (by decide) rfl wd_188 rfl ?_
      refine Ok.getRN (pc' := 22) (k := 5) dX1_setBody_19 rfl (shC_2 _) rfl inX5 (by decide) rfl wd_129 rfl ?_
      refine Ok.iload_n (pc' := 23) rfl dX1_setBody_22 rfl ?_
      refine Ok.iload_n (pc' := 24) rfl dX1_setBody_23 rfl ?_
      obtain ⟨k3, e3, q3, K⟩ := K
      refine Ok.iast (pc' := 25) dX1_setBody_24 rfl (shC_8 _) (by decide) e3 q3 ?_
      exact Ok.vret dX1_setBody_25 rfl (by decide) K
theorem sX1_add_0 {kind number : Int} {h : Hp} {Post : Int → Hp → Prop}
    (K : ((h.2.1 2 6 < 600) → Cl shC mX5_clear [pR 2, pI (h.2.1 2 6), pI kind, pI number] h (fun _ h1 => inR ((h.2.1 2 6 + 1)) ∧ (Post (h.2.1 2 6) (hI h1 2 6 (h.2.1 2 6 + 1))))) ∧ ((¬ h.2.1 2 6 < 600) → Post (-4) h)) :
    Cl shC mX1_add [pR 1, pI kind, pI number] h Post := by
  show Ok shC 0 0 mX1_add 0 [some (pR 1), some (pI kind), some (pI number), none] [] h Post
  refine Ok.aload_n (pc' := 1) rfl dX1_add_0 rfl ?_
  refine Ok.getR (pc' := 4) (k := 0) dX1_add_1 rfl (shC_1 _) rfl inX1 (by decide) rfl wd_188 rfl ?_
  refine Ok.getIN (pc' := 7) (z := h.2.1 2 6) (k := 6) dX1_add_4 rfl (shC_2 _) rfl inX5 (by decide) rfl rfl wd_130 rfl ?_
  refine Ok.istore_n (pc' := 8) (ls' := [some (pR 1), some (pI kind), some (pI number), some (pI (h.2.1 2 6))]) dX1_add_7 rfl (by decide) rfl rfl ?_
  refine Ok.iload_n (pc' := 9) rfl dX1_add_8 rfl ?_
  refine Ok.sipush (pc' := 12) ⟨by decide, by decide⟩ dX1_add_9 rfl ?_
  refine Ok.icmp_lt (tgt := 18) dX1_add_12 rfl rfl (fun c1 => ?_) (fun c1 => ?_)
  · replace K := K.1 c1
    refine Ok.aload_n (pc' := 19) rfl dX1_add_18 rfl ?_
    refine Ok.getR (pc' := 22) (k := 0) dX1_add_19 rfl (shC_1 _) rfl inX1 (by decide) rfl wd_188 rfl ?_
    refine Ok.iload_n (pc' := 23) rfl dX1_add_22 rfl ?_
    refine Ok.iload_n (pc' := 24) rfl dX1_add_23 rfl ?_
    refine Ok.iload_n (pc' := 25) rfl dX1_add_24 rfl ?_
    refine Ok.callV (pc' := 28) (av := [pI (h.2.1 2 6), pI kind, pI number]) (rest := []) dX1_add_25 rfl (by decide) cvX1_add_109 (shC_2 _) rfl rfl rfl (leb rfl) (leb rfl) K (fun r_ h1 K => ?_)
    show Ok shC 0 0 mX1_add 28 [some (pR 1), some (pI kind), some (pI number), some (pI (h.2.1 2 6))] [] h1 Post
    refine Ok.aload_n (pc' := 29) rfl dX1_add_28 rfl ?_
    refine Ok.getR (pc' := 32) (k := 0) dX1_add_29 rfl (shC_1 _) rfl inX1 (by decide) rfl wd_188 rfl ?_
    refine Ok.iload_n (pc' := 33) rfl dX1_add_32 rfl ?_
    refine Ok.iconst (pc' := 34) in_1 dX1_add_33 rfl ?_
    obtain ⟨q2, K⟩ := K
    refine Ok.iadd (pc' := 35) dX1_add_34 rfl q2 ?_
    refine Ok.putIN (pc' := 38) (k := 6) dX1_add_35 rfl (shC_2 _) rfl inX5 tyX5 tyX5_ok nmX5 (by decide) rfl wd_130 rfl rfl (Or.inl rfl) ?_
    refine Ok.iload_n (pc' := 39) rfl dX1_add_38 rfl ?_
    exact Ok.iret dX1_add_39 rfl (by decide) K
  · replace K := K.2 c1
    refine Ok.bipush (pc' := 17) ⟨by decide, by decide⟩ dX1_add_15 rfl ?_
    exact Ok.iret dX1_add_17 rfl (by decide) K
theorem sX1_append_0 {step part : Int} {h : Hp} {Post : Int → Hp → Prop}
    (K : Ok shC 0 0 mX1_append 2 [some (pR 1), some (pI step), some (pI part), some (pI 0)] [] h Post) :
    Cl shC mX1_append [pR 1, pI step, pI part] h Post := by
  show Ok shC 0 0 mX1_append 0 [some (pR 1), some (pI step), some (pI part), none] [] h Post
  refine Ok.iconst (pc' := 1) in_0 dX1_append_0 rfl ?_
  refine Ok.istore_n (pc' := 2) (ls' := [some (pR 1), some (pI step), some (pI part), some (pI 0)]) dX1_append_1 rfl (by decide) rfl rfl ?_
  exact K
theorem sX1_append_2 {step part v3 : Int} {h : Hp} {Post : Int → Hp → Prop}
    (K : ((3 ≤ v3) → Post 0 h) ∧ ((¬ 3 ≤ v3) → Cl shC mX1_isStep [pR 1, pI step] h (fun r1 h1 => ((r1 = 0) → Post 0 h1) ∧ ((¬ r1 = 0) → Cl shC mX1_isStep [pR 1, pI part] h1 (fun r2 h2 => ((r2 = 0) → Post 0 h2) ∧ ((¬ r2 = 0) → Cl shC mX1_partOf [pR 1, pI step, pI v3] h2 (fun r3 h3 => ((¬ r3 = (-4)) → inR ((v3 + 1)) ∧ (Ok shC 0 0 mX1_append 2 [some (pR 1), some (pI step), some (pI part), some (pI (v3 + 1))] [] h3 Post)) ∧ ((r3 = (-4)) → inR ((step * 3)) ∧ (inR (((step * 3) + v3)) ∧ (∃ k7 : Nat, ((step * 3) + v3) = (k7 : Int) ∧ k7 < 1800 ∧ (∃ k8 : Nat, part = (k8 : Int) ∧ k8 < 600 ∧ (Post 0 (hA (hA h3 5 k7 part) 6 k8 step))))))))))))) :
    Ok shC 0 0 mX1_append 2 [some (pR 1), some (pI step), some (pI part), some (pI v3)] [] h Post := by
  show Ok shC 0 0 mX1_append 2 [some (pR 1), some (pI step), some (pI part), some (pI v3)] [] h Post
  refine Ok.iload_n (pc' := 3) rfl dX1_append_2 rfl ?_
  refine Ok.iconst (pc' := 4) in_3 dX1_append_3 rfl ?_
  refine Ok.icmp_ge (tgt := 65) dX1_append_4 rfl rfl (fun c1 => ?_) (fun c1 => ?_)
  · replace K := K.1 c1
    exact Ok.vret dX1_append_65 rfl (by decide) K
  · replace K := K.2 c1
    refine Ok.aload_n (pc' := 8) rfl dX1_append_7 rfl ?_
    refine Ok.iload_n (pc' := 9) rfl dX1_append_8 rfl ?_
    refine Ok.callV (pc' := 12) (av := [pI step]) (rest := []) dX1_append_9 rfl (by decide) cvX1_append_71 (shC_1 _) rfl rfl rfl (leb rfl) (leb rfl) K (fun r1 h1 K => ?_)
    show Ok shC 0 0 mX1_append 12 [some (pR 1), some (pI step), some (pI part), some (pI v3)] [pI r1] h1 Post
    refine Ok.if_eq (tgt := 65) dX1_append_12 rfl rfl (fun c2 => ?_) (fun c2 => ?_)
    · replace K := K.1 c2
      exact Ok.vret dX1_append_65 rfl (by decide) K
    · replace K := K.2 c2
      refine Ok.aload_n (pc' := 16) rfl dX1_append_15 rfl ?_
      refine Ok.iload_n (pc' := 17) rfl dX1_append_16 rfl ?_
      refine Ok.callV (pc' := 20) (av := [pI part]) (rest := []) dX1_append_17 rfl (by decide) cvX1_append_71 (shC_1 _) rfl rfl rfl (leb rfl) (leb rfl) K (fun r2 h2 K => ?_)
      show Ok shC 0 0 mX1_append 20 [some (pR 1), some (pI step), some (pI part), some (pI v3)] [pI r2] h2 Post
      refine Ok.if_eq (tgt := 65) dX1_append_20 rfl rfl (fun c3 => ?_) (fun c3 => ?_)
      · replace K := K.1 c3
        exact Ok.vret dX1_append_65 rfl (by decide) K
      · replace K := K.2 c3
        refine Ok.aload_n (pc' := 24) rfl dX1_append_23 rfl ?_
        refine Ok.iload_n (pc' := 25) rfl dX1_append_24 rfl ?_
        refine Ok.iload_n (pc' := 26) rfl dX1_append_25 rfl ?_
        refine Ok.callV (pc' := 29) (av := [pI step, pI v3]) (rest := []) dX1_append_26 rfl (by decide) cvX1_append_113 (shC_1 _) rfl rfl rfl (leb rfl) (leb rfl) K (fun r3 h3 K => ?_)
        show Ok shC 0 0 mX1_append 29 [some (pR 1), some (pI step), some (pI part), some (pI v3)] [pI r3] h3 Post
        refine Ok.bipush (pc' := 31) ⟨by decide, by decide⟩ dX1_append_29 rfl ?_
        refine Ok.icmp_ne (tgt := 59) dX1_append_31 rfl rfl (fun c4 => ?_) (fun c4 => ?_)
        · replace K := K.1 c4
          obtain ⟨q5, K⟩ := K
          refine Ok.iinc (pc' := 62) (ls' := [some (pR 1), some (pI step), some (pI part), some (pI (v3 + 1))]) dX1_append_59 rfl rfl (by decide) rfl rfl q5 ?_
          refine Ok.goto (tgt := 2) dX1_append_62 rfl ?_
          exact K
        · replace K := K.2 c4
          refine Ok.aload_n (pc' := 35) rfl dX1_append_34 rfl ?_
          refine Ok.getR (pc' := 38) (k := 0) dX1_append_35 rfl (shC_1 _) rfl inX1 (by decide) rfl wd_188 rfl ?_
          refine Ok.getRN (pc' := 41) (k := 2) dX1_append_38 rfl (shC_2 _) rfl inX5 (by decide) rfl wd_123 rfl ?_
          refine Ok.iload_n (pc' := 42) rfl dX1_append_41 rfl ?_
          refine Ok.iconst (pc' := 43) in_3 dX1_append_42 rfl ?_
          obtain ⟨q5, K⟩ := K
          refine Ok.imul (pc' := 44) dX1_append_43 rfl q5 ?_
          refine Ok.iload_n (pc' := 45) rfl dX1_append_44 rfl ?_
          obtain ⟨q6, K⟩ := K
          refine Ok.iadd (pc' := 46) dX1_append_45 rfl q6 ?_
          refine Ok.iload_n (pc' := 47) rfl dX1_append_46 rfl ?_
          obtain ⟨k7, e7, q7, K⟩ := K
          refine Ok.iast (pc' := 48) dX1_append_47 rfl (shC_5 _) (by decide) e7 q7 ?_
          refine Ok.aload_n (pc' := 49) rfl dX1_append_48 rfl ?_
          refine Ok.getR (pc' := 52) (k := 0) dX1_append_49 rfl (shC_1 _) rfl inX1 (by decide) rfl wd_188 rfl ?_
          refine Ok.getRN (pc' := 55) (k := 3) dX1_append_52 rfl (shC_2 _) rfl inX5 (by decide) rfl wd_125 rfl ?_
          refine Ok.iload_n (pc' := 56) rfl dX1_append_55 rfl ?_
          refine Ok.iload_n (pc' := 57) rfl dX1_append_56 rfl ?_
          obtain ⟨k8, e8, q8, K⟩ := K
          refine Ok.iast (pc' := 58) dX1_append_57 rfl (shC_6 _) (by decide) e8 q8 ?_
          exact Ok.vret dX1_append_58 rfl (by decide) K
theorem sX1_loosen_0 {step : Int} {h : Hp} {Post : Int → Hp → Prop}
    (K : Cl shC mX1_parentOf [pR 1, pI step] h (fun r1 h1 => ((¬ r1 = (-4)) → Ok shC 0 0 mX1_loosen 15 [some (pR 1), some (pI step), some (pI r1), some (pI 0)] [] h1 Post) ∧ ((r1 = (-4)) → Post 0 h1))) :
    Cl shC mX1_loosen [pR 1, pI step] h Post := by
  show Ok shC 0 0 mX1_loosen 0 [some (pR 1), some (pI step), none, none] [] h Post
  refine Ok.aload_n (pc' := 1) rfl dX1_loosen_0 rfl ?_
  refine Ok.iload_n (pc' := 2) rfl dX1_loosen_1 rfl ?_
  refine Ok.callV (pc' := 5) (av := [pI step]) (rest := []) dX1_loosen_2 rfl (by decide) cvX1_loosen_72 (shC_1 _) rfl rfl rfl (leb rfl) (leb rfl) K (fun r1 h1 K => ?_)
  show Ok shC 0 0 mX1_loosen 5 [some (pR 1), some (pI step), none, none] [pI r1] h1 Post
  refine Ok.istore_n (pc' := 6) (ls' := [some (pR 1), some (pI step), some (pI r1), none]) dX1_loosen_5 rfl (by decide) rfl rfl ?_
  refine Ok.iload_n (pc' := 7) rfl dX1_loosen_6 rfl ?_
  refine Ok.bipush (pc' := 9) ⟨by decide, by decide⟩ dX1_loosen_7 rfl ?_
  refine Ok.icmp_ne (tgt := 13) dX1_loosen_9 rfl rfl (fun c1 => ?_) (fun c1 => ?_)
  · replace K := K.1 c1
    refine Ok.iconst (pc' := 14) in_0 dX1_loosen_13 rfl ?_
    refine Ok.istore_n (pc' := 15) (ls' := [some (pR 1), some (pI step), some (pI r1), some (pI 0)]) dX1_loosen_14 rfl (by decide) rfl rfl ?_
    exact K
  · replace K := K.2 c1
    exact Ok.vret dX1_loosen_12 rfl (by decide) K
theorem sX1_loosen_15 {step v2 v3 : Int} {h : Hp} {Post : Int → Hp → Prop}
    (K : ((3 ≤ v3) → ∃ k2 : Nat, step = (k2 : Int) ∧ k2 < 600 ∧ (Post 0 (hA h 6 k2 (-4)))) ∧ ((¬ 3 ≤ v3) → Cl shC mX1_partOf [pR 1, pI v2, pI v3] h (fun r1 h1 => ((¬ r1 = step) → inR ((v3 + 1)) ∧ (Ok shC 0 0 mX1_loosen 15 [some (pR 1), some (pI step), some (pI v2), some (pI (v3 + 1))] [] h1 Post)) ∧ ((r1 = step) → inR ((v2 * 3)) ∧ (inR (((v2 * 3) + v3)) ∧ (∃ k5 : Nat, ((v2 * 3) + v3) = (k5 : Int) ∧ k5 < 1800 ∧ (inR ((v3 + 1)) ∧ (Ok shC 0 0 mX1_loosen 15 [some (pR 1), some (pI step), some (pI v2), some (pI (v3 + 1))] [] (hA h1 5 k5 (-4)) Post)))))))) :
    Ok shC 0 0 mX1_loosen 15 [some (pR 1), some (pI step), some (pI v2), some (pI v3)] [] h Post := by
  show Ok shC 0 0 mX1_loosen 15 [some (pR 1), some (pI step), some (pI v2), some (pI v3)] [] h Post
  refine Ok.iload_n (pc' := 16) rfl dX1_loosen_15 rfl ?_
  refine Ok.iconst (pc' := 17) in_3 dX1_loosen_16 rfl ?_
  refine Ok.icmp_ge (tgt := 51) dX1_loosen_17 rfl rfl (fun c1 => ?_) (fun c1 => ?_)
  · replace K := K.1 c1
    refine Ok.aload_n (pc' := 52) rfl dX1_loosen_51 rfl ?_
    refine Ok.getR (pc' := 55) (k := 0) dX1_loosen_52 rfl (shC_1 _) rfl inX1 (by decide) rfl wd_188 rfl ?_
    refine Ok.getRN (pc' := 58) (k := 3) dX1_loosen_55 rfl (shC_2 _) rfl inX5 (by decide) rfl wd_125 rfl ?_
    refine Ok.iload_n (pc' := 59) rfl dX1_loosen_58 rfl ?_
    refine Ok.bipush (pc' := 61) ⟨by decide, by decide⟩ dX1_loosen_59 rfl ?_
    obtain ⟨k2, e2, q2, K⟩ := K
    refine Ok.iast (pc' := 62) dX1_loosen_61 rfl (shC_6 _) (by decide) e2 q2 ?_
    exact Ok.vret dX1_loosen_62 rfl (by decide) K
  · replace K := K.2 c1
    refine Ok.aload_n (pc' := 21) rfl dX1_loosen_20 rfl ?_
    refine Ok.iload_n (pc' := 22) rfl dX1_loosen_21 rfl ?_
    refine Ok.iload_n (pc' := 23) rfl dX1_loosen_22 rfl ?_
    refine Ok.callV (pc' := 26) (av := [pI v2, pI v3]) (rest := []) dX1_loosen_23 rfl (by decide) cvX1_loosen_113 (shC_1 _) rfl rfl rfl (leb rfl) (leb rfl) K (fun r1 h1 K => ?_)
    show Ok shC 0 0 mX1_loosen 26 [some (pR 1), some (pI step), some (pI v2), some (pI v3)] [pI r1] h1 Post
    refine Ok.iload_n (pc' := 27) rfl dX1_loosen_26 rfl ?_
    refine Ok.icmp_ne (tgt := 45) dX1_loosen_27 rfl rfl (fun c2 => ?_) (fun c2 => ?_)
    · replace K := K.1 c2
      obtain ⟨q3, K⟩ := K
      refine Ok.iinc (pc' := 48) (ls' := [some (pR 1), some (pI step), some (pI v2), some (pI (v3 + 1))]) dX1_loosen_45 rfl rfl (by decide) rfl rfl q3 ?_
      refine Ok.goto (tgt := 15) dX1_loosen_48 rfl ?_
      exact K
    · replace K := K.2 c2
      refine Ok.aload_n (pc' := 31) rfl dX1_loosen_30 rfl ?_
      refine Ok.getR (pc' := 34) (k := 0) dX1_loosen_31 rfl (shC_1 _) rfl inX1 (by decide) rfl wd_188 rfl ?_
      refine Ok.getRN (pc' := 37) (k := 2) dX1_loosen_34 rfl (shC_2 _) rfl inX5 (by decide) rfl wd_123 rfl ?_
      refine Ok.iload_n (pc' := 38) rfl dX1_loosen_37 rfl ?_
      refine Ok.iconst (pc' := 39) in_3 dX1_loosen_38 rfl ?_
      obtain ⟨q3, K⟩ := K
      refine Ok.imul (pc' := 40) dX1_loosen_39 rfl q3 ?_
      refine Ok.iload_n (pc' := 41) rfl dX1_loosen_40 rfl ?_
      obtain ⟨q4, K⟩ := K
      refine Ok.iadd (pc' := 42) dX1_loosen_41 rfl q4 ?_
      refine Ok.bipush (pc' := 44) ⟨by decide, by decide⟩ dX1_loosen_42 rfl ?_
      obtain ⟨k5, e5, q5, K⟩ := K
      refine Ok.iast (pc' := 45) dX1_loosen_44 rfl (shC_5 _) (by decide) e5 q5 ?_
      obtain ⟨q6, K⟩ := K
      refine Ok.iinc (pc' := 48) (ls' := [some (pR 1), some (pI step), some (pI v2), some (pI (v3 + 1))]) dX1_loosen_45 rfl rfl (by decide) rfl rfl q6 ?_
      refine Ok.goto (tgt := 15) dX1_loosen_48 rfl ?_
      exact K
theorem sX1_takePlace_0 {old by0 : Int} {h : Hp} {Post : Int → Hp → Prop}
    (K : Cl shC mX5_isStep [pR 2, pI old] h (fun r1 h1 => ((r1 = 0) → Post 0 h1) ∧ ((¬ r1 = 0) → Cl shC mX5_isStep [pR 2, pI by0] h1 (fun r2 h2 => ((¬ r2 = 0) → Cl shC mX1_loosen [pR 1, pI by0] h2 (fun _ h3 => ∃ k3 : Nat, old = (k3 : Int) ∧ k3 < 600 ∧ (((¬ h3.1 6 k3 = (-4)) → Ok shC 0 0 mX1_takePlace 58 [some (pR 1), some (pI old), some (pI by0), some (pI (h3.1 6 k3)), some (pI 0)] [] h3 Post) ∧ ((h3.1 6 k3 = (-4)) → Cl shC mX1_ownerOf [pR 1, pI old] h3 (fun r4 h4 => Cl shC mX1_setBody [pR 1, pI r4, pI by0] h4 (fun _ h5 => Post 0 h5)))))) ∧ ((r2 = 0) → Post 0 h2))))) :
    Cl shC mX1_takePlace [pR 1, pI old, pI by0] h Post := by
  show Ok shC 0 0 mX1_takePlace 0 [some (pR 1), some (pI old), some (pI by0), none, none] [] h Post
  refine Ok.aload_n (pc' := 1) rfl dX1_takePlace_0 rfl ?_
  refine Ok.getR (pc' := 4) (k := 0) dX1_takePlace_1 rfl (shC_1 _) rfl inX1 (by decide) rfl wd_188 rfl ?_
  refine Ok.iload_n (pc' := 5) rfl dX1_takePlace_4 rfl ?_
  refine Ok.callV (pc' := 8) (av := [pI old]) (rest := []) dX1_takePlace_5 rfl (by decide) cvX1_takePlace_32 (shC_2 _) rfl rfl rfl (leb rfl) (leb rfl) K (fun r1 h1 K => ?_)
  show Ok shC 0 0 mX1_takePlace 8 [some (pR 1), some (pI old), some (pI by0), none, none] [pI r1] h1 Post
  refine Ok.if_eq (tgt := 22) dX1_takePlace_8 rfl rfl (fun c1 => ?_) (fun c1 => ?_)
  · replace K := K.1 c1
    exact Ok.vret dX1_takePlace_22 rfl (by decide) K
  · replace K := K.2 c1
    refine Ok.aload_n (pc' := 12) rfl dX1_takePlace_11 rfl ?_
    refine Ok.getR (pc' := 15) (k := 0) dX1_takePlace_12 rfl (shC_1 _) rfl inX1 (by decide) rfl wd_188 rfl ?_
    refine Ok.iload_n (pc' := 16) rfl dX1_takePlace_15 rfl ?_
    refine Ok.callV (pc' := 19) (av := [pI by0]) (rest := []) dX1_takePlace_16 rfl (by decide) cvX1_takePlace_32 (shC_2 _) rfl rfl rfl (leb rfl) (leb rfl) K (fun r2 h2 K => ?_)
    show Ok shC 0 0 mX1_takePlace 19 [some (pR 1), some (pI old), some (pI by0), none, none] [pI r2] h2 Post
    refine Ok.if_ne (tgt := 23) dX1_takePlace_19 rfl rfl (fun c2 => ?_) (fun c2 => ?_)
    · replace K := K.1 c2
      refine Ok.aload_n (pc' := 24) rfl dX1_takePlace_23 rfl ?_
      refine Ok.iload_n (pc' := 25) rfl dX1_takePlace_24 rfl ?_
      refine Ok.callV (pc' := 28) (av := [pI by0]) (rest := []) dX1_takePlace_25 rfl (by decide) cvX1_takePlace_116 (shC_1 _) rfl rfl rfl (leb rfl) (leb rfl) K (fun r_ h3 K => ?_)
      show Ok shC 0 0 mX1_takePlace 28 [some (pR 1), some (pI old), some (pI by0), none, none] [] h3 Post
      refine Ok.aload_n (pc' := 29) rfl dX1_takePlace_28 rfl ?_
      refine Ok.getR (pc' := 32) (k := 0) dX1_takePlace_29 rfl (shC_1 _) rfl inX1 (by decide) rfl wd_188 rfl ?_
      refine Ok.getRN (pc' := 35) (k := 3) dX1_takePlace_32 rfl (shC_2 _) rfl inX5 (by decide) rfl wd_125 rfl ?_
      refine Ok.iload_n (pc' := 36) rfl dX1_takePlace_35 rfl ?_
      obtain ⟨k3, e3, q3, K⟩ := K
      refine Ok.iald (pc' := 37) (z := h3.1 6 k3) dX1_takePlace_36 rfl (shC_6 _) (by decide) e3 q3 rfl ?_
      refine Ok.istore_n (pc' := 38) (ls' := [some (pR 1), some (pI old), some (pI by0), some (pI (h3.1 6 k3)), none]) dX1_takePlace_37 rfl (by decide) rfl rfl ?_
      refine Ok.iload_n (pc' := 39) rfl dX1_takePlace_38 rfl ?_
      refine Ok.bipush (pc' := 41) ⟨by decide, by decide⟩ dX1_takePlace_39 rfl ?_
      refine Ok.icmp_ne (tgt := 55) dX1_takePlace_41 rfl rfl (fun c4 => ?_) (fun c4 => ?_)
      · replace K := K.1 c4
        refine Ok.iconst (pc' := 56) in_0 dX1_takePlace_55 rfl ?_
        refine Ok.istore (pc' := 58) (ls' := [some (pR 1), some (pI old), some (pI by0), some (pI (h3.1 6 k3)), some (pI 0)]) dX1_takePlace_56 rfl (by decide) rfl rfl ?_
        exact K
      · replace K := K.2 c4
        refine Ok.aload_n (pc' := 45) rfl dX1_takePlace_44 rfl ?_
        refine Ok.aload_n (pc' := 46) rfl dX1_takePlace_45 rfl ?_
        refine Ok.iload_n (pc' := 47) rfl dX1_takePlace_46 rfl ?_
        refine Ok.callV (pc' := 50) (av := [pI old]) (rest := [pR 1]) dX1_takePlace_47 rfl (by decide) cvX1_takePlace_40 (shC_1 _) rfl rfl rfl (leb rfl) (leb rfl) K (fun r4 h4 K => ?_)
        show Ok shC 0 0 mX1_takePlace 50 [some (pR 1), some (pI old), some (pI by0), some (pI (h3.1 6 k3)), none] [pI r4, pR 1] h4 Post
        refine Ok.iload_n (pc' := 51) rfl dX1_takePlace_50 rfl ?_
        refine Ok.callV (pc' := 54) (av := [pI r4, pI by0]) (rest := []) dX1_takePlace_51 rfl (by decide) cvX1_takePlace_120 (shC_1 _) rfl rfl rfl (leb rfl) (leb rfl) K (fun r_ h5 K => ?_)
        show Ok shC 0 0 mX1_takePlace 54 [some (pR 1), some (pI old), some (pI by0), some (pI (h3.1 6 k3)), none] [] h5 Post
        exact Ok.vret dX1_takePlace_54 rfl (by decide) K
    · replace K := K.2 c2
      exact Ok.vret dX1_takePlace_22 rfl (by decide) K
theorem sX1_takePlace_58 {old by0 v3 v4 : Int} {h : Hp} {Post : Int → Hp → Prop}
    (K : ((3 ≤ v4) → ∃ k2 : Nat, by0 = (k2 : Int) ∧ k2 < 600 ∧ (∃ k3 : Nat, old = (k3 : Int) ∧ k3 < 600 ∧ (Post 0 (hA (hA h 6 k2 v3) 6 k3 (-4))))) ∧ ((¬ 3 ≤ v4) → Cl shC mX1_partOf [pR 1, pI v3, pI v4] h (fun r1 h1 => ((¬ r1 = old) → inR ((v4 + 1)) ∧ (Ok shC 0 0 mX1_takePlace 58 [some (pR 1), some (pI old), some (pI by0), some (pI v3), some (pI (v4 + 1))] [] h1 Post)) ∧ ((r1 = old) → inR ((v3 * 3)) ∧ (inR (((v3 * 3) + v4)) ∧ (∃ k5 : Nat, ((v3 * 3) + v4) = (k5 : Int) ∧ k5 < 1800 ∧ (inR ((v4 + 1)) ∧ (Ok shC 0 0 mX1_takePlace 58 [some (pR 1), some (pI old), some (pI by0), some (pI v3), some (pI (v4 + 1))] [] (hA h1 5 k5 by0) Post)))))))) :
    Ok shC 0 0 mX1_takePlace 58 [some (pR 1), some (pI old), some (pI by0), some (pI v3), some (pI v4)] [] h Post := by
  show Ok shC 0 0 mX1_takePlace 58 [some (pR 1), some (pI old), some (pI by0), some (pI v3), some (pI v4)] [] h Post
  refine Ok.iload (pc' := 60) rfl dX1_takePlace_58 rfl ?_
  refine Ok.iconst (pc' := 61) in_3 dX1_takePlace_60 rfl ?_
  refine Ok.icmp_ge (tgt := 96) dX1_takePlace_61 rfl rfl (fun c1 => ?_) (fun c1 => ?_)
  · replace K := K.1 c1
    refine Ok.aload_n (pc' := 97) rfl dX1_takePlace_96 rfl ?_
    refine Ok.getR (pc' := 100) (k := 0) dX1_takePlace_97 rfl (shC_1 _) rfl inX1 (by decide) rfl wd_188 rfl ?_
    refine Ok.getRN (pc' := 103) (k := 3) dX1_takePlace_100 rfl (shC_2 _) rfl inX5 (by decide) rfl wd_125 rfl ?_
    refine Ok.iload_n (pc' := 104) rfl dX1_takePlace_103 rfl ?_
    refine Ok.iload_n (pc' := 105) rfl dX1_takePlace_104 rfl ?_
    obtain ⟨k2, e2, q2, K⟩ := K
    refine Ok.iast (pc' := 106) dX1_takePlace_105 rfl (shC_6 _) (by decide) e2 q2 ?_
    refine Ok.aload_n (pc' := 107) rfl dX1_takePlace_106 rfl ?_
    refine Ok.getR (pc' := 110) (k := 0) dX1_takePlace_107 rfl (shC_1 _) rfl inX1 (by decide) rfl wd_188 rfl ?_
    refine Ok.getRN (pc' := 113) (k := 3) dX1_takePlace_110 rfl (shC_2 _) rfl inX5 (by decide) rfl wd_125 rfl ?_
    refine Ok.iload_n (pc' := 114) rfl dX1_takePlace_113 rfl ?_
    refine Ok.bipush (pc' := 116) ⟨by decide, by decide⟩ dX1_takePlace_114 rfl ?_
    obtain ⟨k3, e3, q3, K⟩ := K
    refine Ok.iast (pc' := 117) dX1_takePlace_116 rfl (shC_6 _) (by decide) e3 q3 ?_
    exact Ok.vret dX1_takePlace_117 rfl (by decide) K
  · replace K := K.2 c1
    refine Ok.aload_n (pc' := 65) rfl dX1_takePlace_64 rfl ?_
    refine Ok.iload_n (pc' := 66) rfl dX1_takePlace_65 rfl ?_
    refine Ok.iload (pc' := 68) rfl dX1_takePlace_66 rfl ?_
    refine Ok.callV (pc' := 71) (av := [pI v3, pI v4]) (rest := []) dX1_takePlace_68 rfl (by decide) cvX1_takePlace_113 (shC_1 _) rfl rfl rfl (leb rfl) (leb rfl) K (fun r1 h1 K => ?_)
    show Ok shC 0 0 mX1_takePlace 71 [some (pR 1), some (pI old), some (pI by0), some (pI v3), some (pI v4)] [pI r1] h1 Post
    refine Ok.iload_n (pc' := 72) rfl dX1_takePlace_71 rfl ?_
    refine Ok.icmp_ne (tgt := 90) dX1_takePlace_72 rfl rfl (fun c2 => ?_) (fun c2 => ?_)
    · replace K := K.1 c2
      obtain ⟨q3, K⟩ := K
      refine Ok.iinc (pc' := 93) (ls' := [some (pR 1), some (pI old), some (pI by0), some (pI v3), some (pI (v4 + 1))]) dX1_takePlace_90 rfl rfl (by decide) rfl rfl q3 ?_
      refine Ok.goto (tgt := 58) dX1_takePlace_93 rfl ?_
      exact K
    · replace K := K.2 c2
      refine Ok.aload_n (pc' := 76) rfl dX1_takePlace_75 rfl ?_
      refine Ok.getR (pc' := 79) (k := 0) dX1_takePlace_76 rfl (shC_1 _) rfl inX1 (by decide) rfl wd_188 rfl ?_
      refine Ok.getRN (pc' := 82) (k := 2) dX1_takePlace_79 rfl (shC_2 _) rfl inX5 (by decide) rfl wd_123 rfl ?_
      refine Ok.iload_n (pc' := 83) rfl dX1_takePlace_82 rfl ?_
      refine Ok.iconst (pc' := 84) in_3 dX1_takePlace_83 rfl ?_
      obtain ⟨q3, K⟩ := K
      refine Ok.imul (pc' := 85) dX1_takePlace_84 rfl q3 ?_
      refine Ok.iload (pc' := 87) rfl dX1_takePlace_85 rfl ?_
      obtain ⟨q4, K⟩ := K
      refine Ok.iadd (pc' := 88) dX1_takePlace_87 rfl q4 ?_
      refine Ok.iload_n (pc' := 89) rfl dX1_takePlace_88 rfl ?_
      obtain ⟨k5, e5, q5, K⟩ := K
      refine Ok.iast (pc' := 90) dX1_takePlace_89 rfl (shC_5 _) (by decide) e5 q5 ?_
      obtain ⟨q6, K⟩ := K
      refine Ok.iinc (pc' := 93) (ls' := [some (pR 1), some (pI old), some (pI by0), some (pI v3), some (pI (v4 + 1))]) dX1_takePlace_90 rfl rfl (by decide) rfl rfl q6 ?_
      refine Ok.goto (tgt := 58) dX1_takePlace_93 rfl ?_
      exact K
theorem sX1_endTree_0 {root : Int} {h : Hp} {Post : Int → Hp → Prop}
    (K : Cl shC mX6_over [pR 9, pR 2, pI root] h (fun _ h1 => Ok shC 0 0 mX1_endTree 14 [some (pR 1), none, some (pI 0)] [] h1 Post)) :
    Cl shC mX1_endTree [pR 1, pI root] h Post := by
  show Ok shC 0 0 mX1_endTree 0 [some (pR 1), some (pI root), none] [] h Post
  refine Ok.aload_n (pc' := 1) rfl dX1_endTree_0 rfl ?_
  refine Ok.getR (pc' := 4) (k := 1) dX1_endTree_1 rfl (shC_1 _) rfl inX1 (by decide) rfl wd_193 rfl ?_
  refine Ok.aload_n (pc' := 5) rfl dX1_endTree_4 rfl ?_
  refine Ok.getR (pc' := 8) (k := 0) dX1_endTree_5 rfl (shC_1 _) rfl inX1 (by decide) rfl wd_188 rfl ?_
  refine Ok.iload_n (pc' := 9) rfl dX1_endTree_8 rfl ?_
  refine Ok.callV (pc' := 12) (av := [pR 2, pI root]) (rest := []) dX1_endTree_9 rfl (by decide) cvX1_endTree_75 (shC_9 _) rfl rfl rfl (leb rfl) (leb rfl) K (fun r_ h1 K => ?_)
  show Ok shC 0 0 mX1_endTree 12 [some (pR 1), some (pI root), none] [] h1 Post
  refine Ok.iconst (pc' := 13) in_0 dX1_endTree_12 rfl ?_
  refine Ok.istore_n (pc' := 14) (ls' := [some (pR 1), some (pI root), some (pI 0)]) dX1_endTree_13 rfl (by decide) rfl rfl ?_
  exact Ok.fl (ls' := [some (pR 1), none, some (pI 0)]) K ⟨rfl, rfl, trivial⟩
theorem sX1_endTree_14 {v2 : Int} {h : Hp} {Post : Int → Hp → Prop}
    (K : ((h.2.1 9 4 ≤ v2) → Post 0 h) ∧ ((¬ h.2.1 9 4 ≤ v2) → ∃ k2 : Nat, v2 = (k2 : Int) ∧ k2 < 600 ∧ (Cl shC mX5_clear [pR 2, pI (h.1 10 k2), pI (-1), pI 0] h (fun _ h1 => inR ((v2 + 1)) ∧ (Ok shC 0 0 mX1_endTree 14 [some (pR 1), none, some (pI (v2 + 1))] [] h1 Post))))) :
    Ok shC 0 0 mX1_endTree 14 [some (pR 1), none, some (pI v2)] [] h Post := by
  show Ok shC 0 0 mX1_endTree 14 [some (pR 1), none, some (pI v2)] [] h Post
  refine Ok.iload_n (pc' := 15) rfl dX1_endTree_14 rfl ?_
  refine Ok.aload_n (pc' := 16) rfl dX1_endTree_15 rfl ?_
  refine Ok.getR (pc' := 19) (k := 1) dX1_endTree_16 rfl (shC_1 _) rfl inX1 (by decide) rfl wd_193 rfl ?_
  refine Ok.getIN (pc' := 22) (z := h.2.1 9 4) (k := 4) dX1_endTree_19 rfl (shC_9 _) rfl inX6 (by decide) rfl rfl wd_176 rfl ?_
  refine Ok.icmp_ge (tgt := 49) dX1_endTree_22 rfl rfl (fun c1 => ?_) (fun c1 => ?_)
  · replace K := K.1 c1
    exact Ok.vret dX1_endTree_49 rfl (by decide) K
  · replace K := K.2 c1
    refine Ok.aload_n (pc' := 26) rfl dX1_endTree_25 rfl ?_
    refine Ok.getR (pc' := 29) (k := 0) dX1_endTree_26 rfl (shC_1 _) rfl inX1 (by decide) rfl wd_188 rfl ?_
    refine Ok.aload_n (pc' := 30) rfl dX1_endTree_29 rfl ?_
    refine Ok.getR (pc' := 33) (k := 1) dX1_endTree_30 rfl (shC_1 _) rfl inX1 (by decide) rfl wd_193 rfl ?_
    refine Ok.getRN (pc' := 36) (k := 0) dX1_endTree_33 rfl (shC_9 _) rfl inX6 (by decide) rfl wd_166 rfl ?_
    refine Ok.iload_n (pc' := 37) rfl dX1_endTree_36 rfl ?_
    obtain ⟨k2, e2, q2, K⟩ := K
    refine Ok.iald (pc' := 38) (z := h.1 10 k2) dX1_endTree_37 rfl (shC_10 _) (by decide) e2 q2 rfl ?_
    refine Ok.iconst (pc' := 39) in_m1 dX1_endTree_38 rfl ?_
    refine Ok.iconst (pc' := 40) in_0 dX1_endTree_39 rfl ?_
    refine Ok.callV (pc' := 43) (av := [pI (h.1 10 k2), pI (-1), pI 0]) (rest := []) dX1_endTree_40 rfl (by decide) cvX1_endTree_109 (shC_2 _) rfl rfl rfl (leb rfl) (leb rfl) K (fun r_ h1 K => ?_)
    show Ok shC 0 0 mX1_endTree 43 [some (pR 1), none, some (pI v2)] [] h1 Post
    obtain ⟨q3, K⟩ := K
    refine Ok.iinc (pc' := 46) (ls' := [some (pR 1), none, some (pI (v2 + 1))]) dX1_endTree_43 rfl rfl (by decide) rfl rfl q3 ?_
    refine Ok.goto (tgt := 14) dX1_endTree_46 rfl ?_
    exact K
theorem sX1_dropUncalled_0 {h : Hp} {Post : Int → Hp → Prop}
    (K : Ok shC 0 0 mX1_dropUncalled 6 [some (pR 1), some (pI 1), some (pI 0), some (pI 0), none] [] h Post) :
    Cl shC mX1_dropUncalled [pR 1] h Post := by
  show Ok shC 0 0 mX1_dropUncalled 0 [some (pR 1), none, none, none, none] [] h Post
  refine Ok.iconst (pc' := 1) in_1 dX1_dropUncalled_0 rfl ?_
  refine Ok.istore_n (pc' := 2) (ls' := [some (pR 1), some (pI 1), none, none, none]) dX1_dropUncalled_1 rfl (by decide) rfl rfl ?_
  refine Ok.iconst (pc' := 3) in_0 dX1_dropUncalled_2 rfl ?_
  refine Ok.istore_n (pc' := 4) (ls' := [some (pR 1), some (pI 1), some (pI 0), none, none]) dX1_dropUncalled_3 rfl (by decide) rfl rfl ?_
  refine Ok.iconst (pc' := 5) in_0 dX1_dropUncalled_4 rfl ?_
  refine Ok.istore_n (pc' := 6) (ls' := [some (pR 1), some (pI 1), some (pI 0), some (pI 0), none]) dX1_dropUncalled_5 rfl (by decide) rfl rfl ?_
  exact K
theorem sX1_dropUncalled_6 {v1 v2 v3 : Int} {h : Hp} {Post : Int → Hp → Prop}
    (K : ((10 ≤ v3) → Ok shC 0 0 mX1_dropUncalled 38 [some (pR 1), some (pI v1), none, some (pI 0), some (pI 0)] [] h Post) ∧ ((¬ 10 ≤ v3) → ((v1 = v2) → Ok shC 0 0 mX1_dropUncalled 38 [some (pR 1), some (pI v1), none, some (pI 0), some (pI 0)] [] h Post) ∧ ((¬ v1 = v2) → Cl shC mX1_calledBy [pR 1, pI v1] h (fun r1 h1 => inR ((v3 + 1)) ∧ (Ok shC 0 0 mX1_dropUncalled 6 [some (pR 1), some (pI (b_ior v1 r1)), some (pI v1), some (pI (v3 + 1)), none] [] h1 Post))))) :
    Ok shC 0 0 mX1_dropUncalled 6 [some (pR 1), some (pI v1), some (pI v2), some (pI v3), none] [] h Post := by
  show Ok shC 0 0 mX1_dropUncalled 6 [some (pR 1), some (pI v1), some (pI v2), some (pI v3), none] [] h Post
  refine Ok.iload_n (pc' := 7) rfl dX1_dropUncalled_6 rfl ?_
  refine Ok.bipush (pc' := 9) ⟨by decide, by decide⟩ dX1_dropUncalled_7 rfl ?_
  refine Ok.icmp_ge (tgt := 33) dX1_dropUncalled_9 rfl rfl (fun c1 => ?_) (fun c1 => ?_)
  · replace K := K.1 c1
    refine Ok.iconst (pc' := 34) in_0 dX1_dropUncalled_33 rfl ?_
    refine Ok.istore_n (pc' := 35) (ls' := [some (pR 1), some (pI v1), some (pI v2), some (pI 0), none]) dX1_dropUncalled_34 rfl (by decide) rfl rfl ?_
    refine Ok.iconst (pc' := 36) in_0 dX1_dropUncalled_35 rfl ?_
    refine Ok.istore (pc' := 38) (ls' := [some (pR 1), some (pI v1), some (pI v2), some (pI 0), some (pI 0)]) dX1_dropUncalled_36 rfl (by decide) rfl rfl ?_
    exact Ok.fl (ls' := [some (pR 1), some (pI v1), none, some (pI 0), some (pI 0)]) K ⟨rfl, rfl, rfl, rfl, trivial⟩
  · replace K := K.2 c1
    refine Ok.iload_n (pc' := 13) rfl dX1_dropUncalled_12 rfl ?_
    refine Ok.iload_n (pc' := 14) rfl dX1_dropUncalled_13 rfl ?_
    refine Ok.icmp_eq (tgt := 33) dX1_dropUncalled_14 rfl rfl (fun c2 => ?_) (fun c2 => ?_)
    · replace K := K.1 c2
      refine Ok.iconst (pc' := 34) in_0 dX1_dropUncalled_33 rfl ?_
      refine Ok.istore_n (pc' := 35) (ls' := [some (pR 1), some (pI v1), some (pI v2), some (pI 0), none]) dX1_dropUncalled_34 rfl (by decide) rfl rfl ?_
      refine Ok.iconst (pc' := 36) in_0 dX1_dropUncalled_35 rfl ?_
      refine Ok.istore (pc' := 38) (ls' := [some (pR 1), some (pI v1), some (pI v2), some (pI 0), some (pI 0)]) dX1_dropUncalled_36 rfl (by decide) rfl rfl ?_
      exact Ok.fl (ls' := [some (pR 1), some (pI v1), none, some (pI 0), some (pI 0)]) K ⟨rfl, rfl, rfl, rfl, trivial⟩
    · replace K := K.2 c2
      refine Ok.iload_n (pc' := 18) rfl dX1_dropUncalled_17 rfl ?_
      refine Ok.istore_n (pc' := 19) (ls' := [some (pR 1), some (pI v1), some (pI v1), some (pI v3), none]) dX1_dropUncalled_18 rfl (by decide) rfl rfl ?_
      refine Ok.iload_n (pc' := 20) rfl dX1_dropUncalled_19 rfl ?_
      refine Ok.aload_n (pc' := 21) rfl dX1_dropUncalled_20 rfl ?_
      refine Ok.iload_n (pc' := 22) rfl dX1_dropUncalled_21 rfl ?_
      refine Ok.callV (pc' := 25) (av := [pI v1]) (rest := [pI v1]) dX1_dropUncalled_22 rfl (by decide) cvX1_dropUncalled_124 (shC_1 _) rfl rfl rfl (leb rfl) (leb rfl) K (fun r1 h1 K => ?_)
      show Ok shC 0 0 mX1_dropUncalled 25 [some (pR 1), some (pI v1), some (pI v1), some (pI v3), none] [pI r1, pI v1] h1 Post
      refine Ok.ior (pc' := 26) dX1_dropUncalled_25 rfl ?_
      refine Ok.istore_n (pc' := 27) (ls' := [some (pR 1), some (pI (b_ior v1 r1)), some (pI v1), some (pI v3), none]) dX1_dropUncalled_26 rfl (by decide) rfl rfl ?_
      obtain ⟨q3, K⟩ := K
      refine Ok.iinc (pc' := 30) (ls' := [some (pR 1), some (pI (b_ior v1 r1)), some (pI v1), some (pI (v3 + 1)), none]) dX1_dropUncalled_27 rfl rfl (by decide) rfl rfl q3 ?_
      refine Ok.goto (tgt := 6) dX1_dropUncalled_30 rfl ?_
      exact K
theorem sX1_dropUncalled_38 {v1 v3 v4 : Int} {h : Hp} {Post : Int → Hp → Prop}
    (K : ((h.2.1 2 7 ≤ v4) → Post v3 h) ∧ ((¬ h.2.1 2 7 ≤ v4) → ((¬ (b_iand (b_ishr v1 v4) 1) = 0) → inR ((v4 + 1)) ∧ (Ok shC 0 0 mX1_dropUncalled 38 [some (pR 1), some (pI v1), none, some (pI v3), some (pI (v4 + 1))] [] h Post)) ∧ (((b_iand (b_ishr v1 v4) 1) = 0) → Cl shC mX1_isMissing [pR 1, pI v4] h (fun r1 h1 => ((¬ r1 = 0) → inR ((v4 + 1)) ∧ (Ok shC 0 0 mX1_dropUncalled 38 [some (pR 1), some (pI v1), none, some (pI v3), some (pI (v4 + 1))] [] h1 Post)) ∧ ((r1 = 0) → ∃ k4 : Nat, v4 = (k4 : Int) ∧ k4 < 10 ∧ (inR ((v3 + 1)) ∧ (inR ((v4 + 1)) ∧ (Ok shC 0 0 mX1_dropUncalled 38 [some (pR 1), some (pI v1), none, some (pI (v3 + 1)), some (pI (v4 + 1))] [] (hA h1 8 k4 (-4)) Post)))))))) :
    Ok shC 0 0 mX1_dropUncalled 38 [some (pR 1), some (pI v1), none, some (pI v3), some (pI v4)] [] h Post := by
  show Ok shC 0 0 mX1_dropUncalled 38 [some (pR 1), some (pI v1), none, some (pI v3), some (pI v4)] [] h Post
  refine Ok.iload (pc' := 40) rfl dX1_dropUncalled_38 rfl ?_
  refine Ok.aload_n (pc' := 41) rfl dX1_dropUncalled_40 rfl ?_
  refine Ok.getR (pc' := 44) (k := 0) dX1_dropUncalled_41 rfl (shC_1 _) rfl inX1 (by decide) rfl wd_188 rfl ?_
  refine Ok.getIN (pc' := 47) (z := h.2.1 2 7) (k := 7) dX1_dropUncalled_44 rfl (shC_2 _) rfl inX5 (by decide) rfl rfl wd_137 rfl ?_
  refine Ok.icmp_ge (tgt := 89) dX1_dropUncalled_47 rfl rfl (fun c1 => ?_) (fun c1 => ?_)
  · replace K := K.1 c1
    refine Ok.iload_n (pc' := 90) rfl dX1_dropUncalled_89 rfl ?_
    exact Ok.iret dX1_dropUncalled_90 rfl (by decide) K
  · replace K := K.2 c1
    refine Ok.iload_n (pc' := 51) rfl dX1_dropUncalled_50 rfl ?_
    refine Ok.iload (pc' := 53) rfl dX1_dropUncalled_51 rfl ?_
    refine Ok.ishr (pc' := 54) dX1_dropUncalled_53 rfl ?_
    refine Ok.iconst (pc' := 55) in_1 dX1_dropUncalled_54 rfl ?_
    refine Ok.iand (pc' := 56) dX1_dropUncalled_55 rfl ?_
    refine Ok.if_ne (tgt := 83) dX1_dropUncalled_56 rfl rfl (fun c2 => ?_) (fun c2 => ?_)
    · replace K := K.1 c2
      obtain ⟨q3, K⟩ := K
      refine Ok.iinc (pc' := 86) (ls' := [some (pR 1), some (pI v1), none, some (pI v3), some (pI (v4 + 1))]) dX1_dropUncalled_83 rfl rfl (by decide) rfl rfl q3 ?_
      refine Ok.goto (tgt := 38) dX1_dropUncalled_86 rfl ?_
      exact K
    · replace K := K.2 c2
      refine Ok.aload_n (pc' := 60) rfl dX1_dropUncalled_59 rfl ?_
      refine Ok.iload (pc' := 62) rfl dX1_dropUncalled_60 rfl ?_
      refine Ok.callV (pc' := 65) (av := [pI v4]) (rest := []) dX1_dropUncalled_62 rfl (by decide) cvX1_dropUncalled_106 (shC_1 _) rfl rfl rfl (leb rfl) (leb rfl) K (fun r1 h1 K => ?_)
      show Ok shC 0 0 mX1_dropUncalled 65 [some (pR 1), some (pI v1), none, some (pI v3), some (pI v4)] [pI r1] h1 Post
      refine Ok.if_ne (tgt := 83) dX1_dropUncalled_65 rfl rfl (fun c3 => ?_) (fun c3 => ?_)
      · replace K := K.1 c3
        obtain ⟨q4, K⟩ := K
        refine Ok.iinc (pc' := 86) (ls' := [some (pR 1), some (pI v1), none, some (pI v3), some (pI (v4 + 1))]) dX1_dropUncalled_83 rfl rfl (by decide) rfl rfl q4 ?_
        refine Ok.goto (tgt := 38) dX1_dropUncalled_86 rfl ?_
        exact K
      · replace K := K.2 c3
        refine Ok.aload_n (pc' := 69) rfl dX1_dropUncalled_68 rfl ?_
        refine Ok.getR (pc' := 72) (k := 0) dX1_dropUncalled_69 rfl (shC_1 _) rfl inX1 (by decide) rfl wd_188 rfl ?_
        refine Ok.getRN (pc' := 75) (k := 5) dX1_dropUncalled_72 rfl (shC_2 _) rfl inX5 (by decide) rfl wd_129 rfl ?_
        refine Ok.iload (pc' := 77) rfl dX1_dropUncalled_75 rfl ?_
        refine Ok.bipush (pc' := 79) ⟨by decide, by decide⟩ dX1_dropUncalled_77 rfl ?_
        obtain ⟨k4, e4, q4, K⟩ := K
        refine Ok.iast (pc' := 80) dX1_dropUncalled_79 rfl (shC_8 _) (by decide) e4 q4 ?_
        obtain ⟨q5, K⟩ := K
        refine Ok.iinc (pc' := 83) (ls' := [some (pR 1), some (pI v1), none, some (pI (v3 + 1)), some (pI v4)]) dX1_dropUncalled_80 rfl rfl (by decide) rfl rfl q5 ?_
        obtain ⟨q6, K⟩ := K
        refine Ok.iinc (pc' := 86) (ls' := [some (pR 1), some (pI v1), none, some (pI (v3 + 1)), some (pI (v4 + 1))]) dX1_dropUncalled_83 rfl rfl (by decide) rfl rfl q6 ?_
        refine Ok.goto (tgt := 38) dX1_dropUncalled_86 rfl ?_
        exact K
theorem sX1_calledBy_0 {callers : Int} {h : Hp} {Post : Int → Hp → Prop}
    (K : Ok shC 0 0 mX1_calledBy 4 [some (pR 1), some (pI callers), some (pI 0), some (pI 0), none, none] [] h Post) :
    Cl shC mX1_calledBy [pR 1, pI callers] h Post := by
  show Ok shC 0 0 mX1_calledBy 0 [some (pR 1), some (pI callers), none, none, none, none] [] h Post
  refine Ok.iconst (pc' := 1) in_0 dX1_calledBy_0 rfl ?_
  refine Ok.istore_n (pc' := 2) (ls' := [some (pR 1), some (pI callers), some (pI 0), none, none, none]) dX1_calledBy_1 rfl (by decide) rfl rfl ?_
  refine Ok.iconst (pc' := 3) in_0 dX1_calledBy_2 rfl ?_
  refine Ok.istore_n (pc' := 4) (ls' := [some (pR 1), some (pI callers), some (pI 0), some (pI 0), none, none]) dX1_calledBy_3 rfl (by decide) rfl rfl ?_
  exact K
theorem sX1_calledBy_4 {callers v2 v3 : Int} {h : Hp} {Post : Int → Hp → Prop}
    (K : ((h.2.1 2 7 ≤ v3) → Post v2 h) ∧ ((¬ h.2.1 2 7 ≤ v3) → ((¬ (b_iand (b_ishr callers v3) 1) = 1) → Cl shC mX6_over [pR 9, pR 2, pI (-4)] h (fun _ h1 => Ok shC 0 0 mX1_calledBy 48 [some (pR 1), some (pI callers), some (pI v2), some (pI v3), some (pI 0), none] [] h1 Post)) ∧ (((b_iand (b_ishr callers v3) 1) = 1) → Cl shC mX1_bodyOf [pR 1, pI v3] h (fun r2 h2 => Cl shC mX6_over [pR 9, pR 2, pI r2] h2 (fun _ h3 => Ok shC 0 0 mX1_calledBy 48 [some (pR 1), some (pI callers), some (pI v2), some (pI v3), some (pI 0), none] [] h3 Post))))) :
    Ok shC 0 0 mX1_calledBy 4 [some (pR 1), some (pI callers), some (pI v2), some (pI v3), none, none] [] h Post := by
  show Ok shC 0 0 mX1_calledBy 4 [some (pR 1), some (pI callers), some (pI v2), some (pI v3), none, none] [] h Post
  refine Ok.iload_n (pc' := 5) rfl dX1_calledBy_4 rfl ?_
  refine Ok.aload_n (pc' := 6) rfl dX1_calledBy_5 rfl ?_
  refine Ok.getR (pc' := 9) (k := 0) dX1_calledBy_6 rfl (shC_1 _) rfl inX1 (by decide) rfl wd_188 rfl ?_
  refine Ok.getIN (pc' := 12) (z := h.2.1 2 7) (k := 7) dX1_calledBy_9 rfl (shC_2 _) rfl inX5 (by decide) rfl rfl wd_137 rfl ?_
  refine Ok.icmp_ge (tgt := 110) dX1_calledBy_12 rfl rfl (fun c1 => ?_) (fun c1 => ?_)
  · replace K := K.1 c1
    refine Ok.iload_n (pc' := 111) rfl dX1_calledBy_110 rfl ?_
    exact Ok.iret dX1_calledBy_111 rfl (by decide) K
  · replace K := K.2 c1
    refine Ok.aload_n (pc' := 16) rfl dX1_calledBy_15 rfl ?_
    refine Ok.getR (pc' := 19) (k := 1) dX1_calledBy_16 rfl (shC_1 _) rfl inX1 (by decide) rfl wd_193 rfl ?_
    refine Ok.aload_n (pc' := 20) rfl dX1_calledBy_19 rfl ?_
    refine Ok.getR (pc' := 23) (k := 0) dX1_calledBy_20 rfl (shC_1 _) rfl inX1 (by decide) rfl wd_188 rfl ?_
    refine Ok.iload_n (pc' := 24) rfl dX1_calledBy_23 rfl ?_
    refine Ok.iload_n (pc' := 25) rfl dX1_calledBy_24 rfl ?_
    refine Ok.ishr (pc' := 26) dX1_calledBy_25 rfl ?_
    refine Ok.iconst (pc' := 27) in_1 dX1_calledBy_26 rfl ?_
    refine Ok.iand (pc' := 28) dX1_calledBy_27 rfl ?_
    refine Ok.iconst (pc' := 29) in_1 dX1_calledBy_28 rfl ?_
    refine Ok.icmp_ne (tgt := 40) dX1_calledBy_29 rfl rfl (fun c2 => ?_) (fun c2 => ?_)
    · replace K := K.1 c2
      refine Ok.bipush (pc' := 42) ⟨by decide, by decide⟩ dX1_calledBy_40 rfl ?_
      refine Ok.callV (pc' := 45) (av := [pR 2, pI (-4)]) (rest := []) dX1_calledBy_42 rfl (by decide) cvX1_calledBy_75 (shC_9 _) rfl rfl rfl (leb rfl) (leb rfl) K (fun r_ h1 K => ?_)
      show Ok shC 0 0 mX1_calledBy 45 [some (pR 1), some (pI callers), some (pI v2), some (pI v3), none, none] [] h1 Post
      refine Ok.iconst (pc' := 46) in_0 dX1_calledBy_45 rfl ?_
      refine Ok.istore (pc' := 48) (ls' := [some (pR 1), some (pI callers), some (pI v2), some (pI v3), some (pI 0), none]) dX1_calledBy_46 rfl (by decide) rfl rfl ?_
      exact K
    · replace K := K.2 c2
      refine Ok.aload_n (pc' := 33) rfl dX1_calledBy_32 rfl ?_
      refine Ok.iload_n (pc' := 34) rfl dX1_calledBy_33 rfl ?_
      refine Ok.callV (pc' := 37) (av := [pI v3]) (rest := [pR 2, pR 9]) dX1_calledBy_34 rfl (by decide) cvX1_calledBy_47 (shC_1 _) rfl rfl rfl (leb rfl) (leb rfl) K (fun r2 h2 K => ?_)
      show Ok shC 0 0 mX1_calledBy 37 [some (pR 1), some (pI callers), some (pI v2), some (pI v3), none, none] [pI r2, pR 2, pR 9] h2 Post
      refine Ok.goto (tgt := 42) dX1_calledBy_37 rfl ?_
      refine Ok.callV (pc' := 45) (av := [pR 2, pI r2]) (rest := []) dX1_calledBy_42 rfl (by decide) cvX1_calledBy_75 (shC_9 _) rfl rfl rfl (leb rfl) (leb rfl) K (fun r_ h3 K => ?_)
      show Ok shC 0 0 mX1_calledBy 45 [some (pR 1), some (pI callers), some (pI v2), some (pI v3), none, none] [] h3 Post
      refine Ok.iconst (pc' := 46) in_0 dX1_calledBy_45 rfl ?_
      refine Ok.istore (pc' := 48) (ls' := [some (pR 1), some (pI callers), some (pI v2), some (pI v3), some (pI 0), none]) dX1_calledBy_46 rfl (by decide) rfl rfl ?_
      exact K
theorem sX1_calledBy_48 {callers v2 v3 v4 : Int} {h : Hp} {Post : Int → Hp → Prop}
    (K : ((h.2.1 9 4 ≤ v4) → inR ((v3 + 1)) ∧ (Ok shC 0 0 mX1_calledBy 4 [some (pR 1), some (pI callers), some (pI v2), some (pI (v3 + 1)), none, none] [] h Post)) ∧ ((¬ h.2.1 9 4 ≤ v4) → ∃ k2 : Nat, v4 = (k2 : Int) ∧ k2 < 600 ∧ (Cl shC mX1_kindOf [pR 1, pI (h.1 10 k2)] h (fun r1 h1 => ((¬ r1 = 6) → inR ((v4 + 1)) ∧ (Ok shC 0 0 mX1_calledBy 48 [some (pR 1), some (pI callers), some (pI (b_ior v2 0)), some (pI v3), some (pI (v4 + 1)), none] [] h1 Post)) ∧ ((r1 = 6) → Cl shC mX1_numberOf [pR 1, pI (h.1 10 k2)] h1 (fun r2 h2 => inR ((v4 + 1)) ∧ (Ok shC 0 0 mX1_calledBy 48 [some (pR 1), some (pI callers), some (pI (b_ior v2 (b_ishl 1 r2))), some (pI v3), some (pI (v4 + 1)), none] [] h2 Post))))))) :
    Ok shC 0 0 mX1_calledBy 48 [some (pR 1), some (pI callers), some (pI v2), some (pI v3), some (pI v4), none] [] h Post := by
  show Ok shC 0 0 mX1_calledBy 48 [some (pR 1), some (pI callers), some (pI v2), some (pI v3), some (pI v4), none] [] h Post
  refine Ok.iload (pc' := 50) rfl dX1_calledBy_48 rfl ?_
  refine Ok.aload_n (pc' := 51) rfl dX1_calledBy_50 rfl ?_
  refine Ok.getR (pc' := 54) (k := 1) dX1_calledBy_51 rfl (shC_1 _) rfl inX1 (by decide) rfl wd_193 rfl ?_
  refine Ok.getIN (pc' := 57) (z := h.2.1 9 4) (k := 4) dX1_calledBy_54 rfl (shC_9 _) rfl inX6 (by decide) rfl rfl wd_176 rfl ?_
  refine Ok.icmp_ge (tgt := 104) dX1_calledBy_57 rfl rfl (fun c1 => ?_) (fun c1 => ?_)
  · replace K := K.1 c1
    obtain ⟨q2, K⟩ := K
    refine Ok.iinc (pc' := 107) (ls' := [some (pR 1), some (pI callers), some (pI v2), some (pI (v3 + 1)), some (pI v4), none]) dX1_calledBy_104 rfl rfl (by decide) rfl rfl q2 ?_
    refine Ok.goto (tgt := 4) dX1_calledBy_107 rfl ?_
    exact Ok.fl (ls' := [some (pR 1), some (pI callers), some (pI v2), some (pI (v3 + 1)), none, none]) K ⟨rfl, rfl, rfl, rfl, trivial⟩
  · replace K := K.2 c1
    refine Ok.aload_n (pc' := 61) rfl dX1_calledBy_60 rfl ?_
    refine Ok.getR (pc' := 64) (k := 1) dX1_calledBy_61 rfl (shC_1 _) rfl inX1 (by decide) rfl wd_193 rfl ?_
    refine Ok.getRN (pc' := 67) (k := 0) dX1_calledBy_64 rfl (shC_9 _) rfl inX6 (by decide) rfl wd_166 rfl ?_
    refine Ok.iload (pc' := 69) rfl dX1_calledBy_67 rfl ?_
    obtain ⟨k2, e2, q2, K⟩ := K
    refine Ok.iald (pc' := 70) (z := h.1 10 k2) dX1_calledBy_69 rfl (shC_10 _) (by decide) e2 q2 rfl ?_
    refine Ok.istore (pc' := 72) (ls' := [some (pR 1), some (pI callers), some (pI v2), some (pI v3), some (pI v4), some (pI (h.1 10 k2))]) dX1_calledBy_70 rfl (by decide) rfl rfl ?_
    refine Ok.iload_n (pc' := 73) rfl dX1_calledBy_72 rfl ?_
    refine Ok.aload_n (pc' := 74) rfl dX1_calledBy_73 rfl ?_
    refine Ok.iload (pc' := 76) rfl dX1_calledBy_74 rfl ?_
    refine Ok.callV (pc' := 79) (av := [pI (h.1 10 k2)]) (rest := [pI v2]) dX1_calledBy_76 rfl (by decide) cvX1_calledBy_50 (shC_1 _) rfl rfl rfl (leb rfl) (leb rfl) K (fun r1 h1 K => ?_)
    show Ok shC 0 0 mX1_calledBy 79 [some (pR 1), some (pI callers), some (pI v2), some (pI v3), some (pI v4), some (pI (h.1 10 k2))] [pI r1, pI v2] h1 Post
    refine Ok.bipush (pc' := 81) ⟨by decide, by decide⟩ dX1_calledBy_79 rfl ?_
    refine Ok.icmp_ne (tgt := 95) dX1_calledBy_81 rfl rfl (fun c3 => ?_) (fun c3 => ?_)
    · replace K := K.1 c3
      refine Ok.iconst (pc' := 96) in_0 dX1_calledBy_95 rfl ?_
      refine Ok.ior (pc' := 97) dX1_calledBy_96 rfl ?_
      refine Ok.istore_n (pc' := 98) (ls' := [some (pR 1), some (pI callers), some (pI (b_ior v2 0)), some (pI v3), some (pI v4), some (pI (h.1 10 k2))]) dX1_calledBy_97 rfl (by decide) rfl rfl ?_
      obtain ⟨q4, K⟩ := K
      refine Ok.iinc (pc' := 101) (ls' := [some (pR 1), some (pI callers), some (pI (b_ior v2 0)), some (pI v3), some (pI (v4 + 1)), some (pI (h.1 10 k2))]) dX1_calledBy_98 rfl rfl (by decide) rfl rfl q4 ?_
      refine Ok.goto (tgt := 48) dX1_calledBy_101 rfl ?_
      exact Ok.fl (ls' := [some (pR 1), some (pI callers), some (pI (b_ior v2 0)), some (pI v3), some (pI (v4 + 1)), none]) K ⟨rfl, rfl, rfl, rfl, rfl, trivial⟩
    · replace K := K.2 c3
      refine Ok.iconst (pc' := 85) in_1 dX1_calledBy_84 rfl ?_
      refine Ok.aload_n (pc' := 86) rfl dX1_calledBy_85 rfl ?_
      refine Ok.iload (pc' := 88) rfl dX1_calledBy_86 rfl ?_
      refine Ok.callV (pc' := 91) (av := [pI (h.1 10 k2)]) (rest := [pI 1, pI v2]) dX1_calledBy_88 rfl (by decide) cvX1_calledBy_97 (shC_1 _) rfl rfl rfl (leb rfl) (leb rfl) K (fun r2 h2 K => ?_)
      show Ok shC 0 0 mX1_calledBy 91 [some (pR 1), some (pI callers), some (pI v2), some (pI v3), some (pI v4), some (pI (h.1 10 k2))] [pI r2, pI 1, pI v2] h2 Post
      refine Ok.ishl (pc' := 92) dX1_calledBy_91 rfl ?_
      refine Ok.goto (tgt := 96) dX1_calledBy_92 rfl ?_
      refine Ok.ior (pc' := 97) dX1_calledBy_96 rfl ?_
      refine Ok.istore_n (pc' := 98) (ls' := [some (pR 1), some (pI callers), some (pI (b_ior v2 (b_ishl 1 r2))), some (pI v3), some (pI v4), some (pI (h.1 10 k2))]) dX1_calledBy_97 rfl (by decide) rfl rfl ?_
      obtain ⟨q4, K⟩ := K
      refine Ok.iinc (pc' := 101) (ls' := [some (pR 1), some (pI callers), some (pI (b_ior v2 (b_ishl 1 r2))), some (pI v3), some (pI (v4 + 1)), some (pI (h.1 10 k2))]) dX1_calledBy_98 rfl rfl (by decide) rfl rfl q4 ?_
      refine Ok.goto (tgt := 48) dX1_calledBy_101 rfl ?_
      exact Ok.fl (ls' := [some (pR 1), some (pI callers), some (pI (b_ior v2 (b_ishl 1 r2))), some (pI v3), some (pI (v4 + 1)), none]) K ⟨rfl, rfl, rfl, rfl, rfl, trivial⟩
