theorem sX2_isSpent_0 {h : Hp} {Post : Int → Hp → Prop}
    (K : ((h.2.1 19 12 < 60000) → Post 0 h) ∧ ((¬ h.2.1 19 12 < 60000) → Post 1 h)) :
    Cl shC mX2_isSpent [pR 19] h Post := by
  show Ok shC 0 0 mX2_isSpent 0 [some (pR 19)] [] h Post
  refine Ok.aload_n (pc' := 1) rfl dX2_isSpent_0 rfl ?_
  refine Ok.getI (pc' := 4) (z := h.2.1 19 12) (k := 12) dX2_isSpent_1 rfl (shC_19 _) rfl inX2 (by decide) rfl rfl wd_222 rfl ?_
  refine Ok.ldc (n := 60000) (pc' := 6) ⟨by decide, by decide⟩ wd_602 (by decide) dX2_isSpent_4 rfl ?_
  refine Ok.icmp_lt (tgt := 13) dX2_isSpent_6 rfl rfl (fun c1 => ?_) (fun c1 => ?_)
  · replace K := K.1 c1
    refine Ok.iconst (pc' := 14) in_0 dX2_isSpent_13 rfl ?_
    exact Ok.zret dX2_isSpent_14 rfl (by decide) (Or.inl rfl) K
  · replace K := K.2 c1
    refine Ok.iconst (pc' := 10) in_1 dX2_isSpent_9 rfl ?_
    refine Ok.goto (tgt := 14) dX2_isSpent_10 rfl ?_
    exact Ok.zret dX2_isSpent_14 rfl (by decide) (Or.inr rfl) K
theorem sX2_countOf_0 {step : Int} {h : Hp} {Post : Int → Hp → Prop}
    (K : ((step < 0) → Post 0 h) ∧ ((¬ step < 0) → ((600 ≤ step) → Post 0 h) ∧ ((¬ 600 ≤ step) → ∃ k3 : Nat, step = (k3 : Int) ∧ k3 < 600 ∧ (Post (h.1 20 k3) h)))) :
    Cl shC mX2_countOf [pR 19, pI step] h Post := by
  show Ok shC 0 0 mX2_countOf 0 [some (pR 19), some (pI step)] [] h Post
  refine Ok.iload_n (pc' := 1) rfl dX2_countOf_0 rfl ?_
  refine Ok.if_lt (tgt := 20) dX2_countOf_1 rfl rfl (fun c1 => ?_) (fun c1 => ?_)
  · replace K := K.1 c1
    refine Ok.iconst (pc' := 21) in_0 dX2_countOf_20 rfl ?_
    exact Ok.iret dX2_countOf_21 rfl (by decide) K
  · replace K := K.2 c1
    refine Ok.iload_n (pc' := 5) rfl dX2_countOf_4 rfl ?_
    refine Ok.sipush (pc' := 8) ⟨by decide, by decide⟩ dX2_countOf_5 rfl ?_
    refine Ok.icmp_ge (tgt := 20) dX2_countOf_8 rfl rfl (fun c2 => ?_) (fun c2 => ?_)
    · replace K := K.1 c2
      refine Ok.iconst (pc' := 21) in_0 dX2_countOf_20 rfl ?_
      exact Ok.iret dX2_countOf_21 rfl (by decide) K
    · replace K := K.2 c2
      refine Ok.aload_n (pc' := 12) rfl dX2_countOf_11 rfl ?_
      refine Ok.getR (pc' := 15) (k := 1) dX2_countOf_12 rfl (shC_19 _) rfl inX2 (by decide) rfl wd_211 rfl ?_
      refine Ok.iload_n (pc' := 16) rfl dX2_countOf_15 rfl ?_
      obtain ⟨k3, e3, q3, K⟩ := K
      refine Ok.iald (pc' := 17) (z := h.1 20 k3) dX2_countOf_16 rfl (shC_20 _) (by decide) e3 q3 rfl ?_
      refine Ok.goto (tgt := 21) dX2_countOf_17 rfl ?_
      exact Ok.iret dX2_countOf_21 rfl (by decide) K
theorem sX2_gainOf_0 {call : Int} {h : Hp} {Post : Int → Hp → Prop}
    (K : Cl shC mX2_countOf [pR 19, pI call] h (fun r1 h1 => Post (wr (4 * r1)) h1)) :
    Cl shC mX2_gainOf [pR 19, pI call] h Post := by
  show Ok shC 0 0 mX2_gainOf 0 [some (pR 19), some (pI call)] [] h Post
  refine Ok.iconst (pc' := 1) in_4 dX2_gainOf_0 rfl ?_
  refine Ok.aload_n (pc' := 2) rfl dX2_gainOf_1 rfl ?_
  refine Ok.iload_n (pc' := 3) rfl dX2_gainOf_2 rfl ?_
  refine Ok.callV (pc' := 6) (av := [pI call]) (rest := [pI 4]) dX2_gainOf_3 rfl (by decide) cvX2_gainOf_45 (shC_19 _) rfl rfl rfl (leb rfl) (leb rfl) K (fun r1 h1 K => ?_)
  show Ok shC 0 0 mX2_gainOf 6 [some (pR 19), some (pI call)] [pI r1, pI 4] h1 Post
  refine Ok.imulw (pc' := 7) dX2_gainOf_6 rfl ?_
  exact Ok.iret dX2_gainOf_7 rfl (by decide) K
theorem sX2_forgetCounts_0 {h : Hp} {Post : Int → Hp → Prop}
    (K : Cl shC mJ7_fill_53178 [pR 20, pI 0] h (fun _ h1 => Post 0 h1)) :
    Cl shC mX2_forgetCounts [pR 19] h Post := by
  show Ok shC 0 0 mX2_forgetCounts 0 [some (pR 19)] [] h Post
  refine Ok.aload_n (pc' := 1) rfl dX2_forgetCounts_0 rfl ?_
  refine Ok.getR (pc' := 4) (k := 1) dX2_forgetCounts_1 rfl (shC_19 _) rfl inX2 (by decide) rfl wd_211 rfl ?_
  refine Ok.iconst (pc' := 5) in_0 dX2_forgetCounts_4 rfl ?_
  refine Ok.callS (pc' := 8) (av := [pR 20, pI 0]) (rest := []) dX2_forgetCounts_5 rfl (by decide) cvX2_forgetCounts_49 rfl rfl (leb rfl) (leb rfl) K (fun r_ h1 K => ?_)
  show Ok shC 0 0 mX2_forgetCounts 8 [some (pR 19)] [] h1 Post
  exact Ok.vret dX2_forgetCounts_8 rfl (by decide) K
theorem sX2_reach_0 {i0 : Int} {h : Hp} {Post : Int → Hp → Prop}
    (K : ((i0 < 0) → Post 0 h) ∧ ((¬ i0 < 0) → ((8 ≤ i0) → Post 0 h) ∧ ((¬ 8 ≤ i0) → ∃ k3 : Nat, i0 = (k3 : Int) ∧ k3 < 8 ∧ (Post (h.1 21 k3) h)))) :
    Cl shC mX2_reach [pR 19, pI i0] h Post := by
  show Ok shC 0 0 mX2_reach 0 [some (pR 19), some (pI i0)] [] h Post
  refine Ok.iload_n (pc' := 1) rfl dX2_reach_0 rfl ?_
  refine Ok.if_lt (tgt := 19) dX2_reach_1 rfl rfl (fun c1 => ?_) (fun c1 => ?_)
  · replace K := K.1 c1
    refine Ok.iconst (pc' := 20) in_0 dX2_reach_19 rfl ?_
    exact Ok.iret dX2_reach_20 rfl (by decide) K
  · replace K := K.2 c1
    refine Ok.iload_n (pc' := 5) rfl dX2_reach_4 rfl ?_
    refine Ok.bipush (pc' := 7) ⟨by decide, by decide⟩ dX2_reach_5 rfl ?_
    refine Ok.icmp_ge (tgt := 19) dX2_reach_7 rfl rfl (fun c2 => ?_) (fun c2 => ?_)
    · replace K := K.1 c2
      refine Ok.iconst (pc' := 20) in_0 dX2_reach_19 rfl ?_
      exact Ok.iret dX2_reach_20 rfl (by decide) K
    · replace K := K.2 c2
      refine Ok.aload_n (pc' := 11) rfl dX2_reach_10 rfl ?_
      refine Ok.getR (pc' := 14) (k := 2) dX2_reach_11 rfl (shC_19 _) rfl inX2 (by decide) rfl wd_212 rfl ?_
      refine Ok.iload_n (pc' := 15) rfl dX2_reach_14 rfl ?_
      obtain ⟨k3, e3, q3, K⟩ := K
      refine Ok.iald (pc' := 16) (z := h.1 21 k3) dX2_reach_15 rfl (shC_21 _) (by decide) e3 q3 rfl ?_
      refine Ok.goto (tgt := 20) dX2_reach_16 rfl ?_
      exact Ok.iret dX2_reach_20 rfl (by decide) K
theorem sX2_put_0 {i0 v : Int} {h : Hp} {Post : Int → Hp → Prop}
    (K : ((i0 < 0) → Post 0 h) ∧ ((¬ i0 < 0) → ((i0 < 8) → ∃ k3 : Nat, i0 = (k3 : Int) ∧ k3 < 8 ∧ (Post 1 (hA h 21 k3 v))) ∧ ((¬ i0 < 8) → Post 0 h))) :
    Cl shC mX2_put [pR 19, pI i0, pI v] h Post := by
  show Ok shC 0 0 mX2_put 0 [some (pR 19), some (pI i0), some (pI v)] [] h Post
  refine Ok.iload_n (pc' := 1) rfl dX2_put_0 rfl ?_
  refine Ok.if_lt (tgt := 10) dX2_put_1 rfl rfl (fun c1 => ?_) (fun c1 => ?_)
  · replace K := K.1 c1
    refine Ok.iconst (pc' := 11) in_0 dX2_put_10 rfl ?_
    exact Ok.zret dX2_put_11 rfl (by decide) (Or.inl rfl) K
  · replace K := K.2 c1
    refine Ok.iload_n (pc' := 5) rfl dX2_put_4 rfl ?_
    refine Ok.bipush (pc' := 7) ⟨by decide, by decide⟩ dX2_put_5 rfl ?_
    refine Ok.icmp_lt (tgt := 12) dX2_put_7 rfl rfl (fun c2 => ?_) (fun c2 => ?_)
    · replace K := K.1 c2
      refine Ok.aload_n (pc' := 13) rfl dX2_put_12 rfl ?_
      refine Ok.getR (pc' := 16) (k := 2) dX2_put_13 rfl (shC_19 _) rfl inX2 (by decide) rfl wd_212 rfl ?_
      refine Ok.iload_n (pc' := 17) rfl dX2_put_16 rfl ?_
      refine Ok.iload_n (pc' := 18) rfl dX2_put_17 rfl ?_
      obtain ⟨k3, e3, q3, K⟩ := K
      refine Ok.iast (pc' := 19) dX2_put_18 rfl (shC_21 _) (by decide) e3 q3 ?_
      refine Ok.iconst (pc' := 20) in_1 dX2_put_19 rfl ?_
      exact Ok.zret dX2_put_20 rfl (by decide) (Or.inr rfl) K
    · replace K := K.2 c2
      refine Ok.iconst (pc' := 11) in_0 dX2_put_10 rfl ?_
      exact Ok.zret dX2_put_11 rfl (by decide) (Or.inl rfl) K
theorem sX2_latest_0 {what : Int} {h : Hp} {Post : Int → Hp → Prop}
    (K : ((what = 0) → Post (h.2.1 19 14) h) ∧ ((what = 1) → Post (h.2.1 19 15) h) ∧ ((what = 2) → Post (h.2.1 19 16) h) ∧ ((what < 0 ∨ 2 < what) → Post (h.2.1 19 17) h)) :
    Cl shC mX2_latest [pR 19, pI what] h Post := by
  show Ok shC 0 0 mX2_latest 0 [some (pR 19), some (pI what)] [] h Post
  refine Ok.iload_n (pc' := 1) rfl dX2_latest_0 rfl ?_
  obtain ⟨Kc1_0, Kc1_1, Kc1_2, Kc1_3⟩ := K
  refine Ok.tsw dX2_latest_1 rfl ⟨by decide, by decide⟩ (fun tgt ht => ?_)
  have hx : (what = 0) ∨ (what = 1) ∨ (what = 2) ∨ (what < 0 ∨ 2 < what) := by omega
  rcases hx with c1 | c1 | c1 | c1
  · obtain rfl : 28 = tgt := by rw [c1] at ht; exact Int.ofNat.inj ht
    have K := Kc1_0 c1
    refine Ok.aload_n (pc' := 29) rfl dX2_latest_28 rfl ?_
    refine Ok.getI (pc' := 32) (z := h.2.1 19 14) (k := 14) dX2_latest_29 rfl (shC_19 _) rfl inX2 (by decide) rfl rfl wd_224 rfl ?_
    exact Ok.iret dX2_latest_32 rfl (by decide) K
  · obtain rfl : 33 = tgt := by rw [c1] at ht; exact Int.ofNat.inj ht
    have K := Kc1_1 c1
    refine Ok.aload_n (pc' := 34) rfl dX2_latest_33 rfl ?_
    refine Ok.getI (pc' := 37) (z := h.2.1 19 15) (k := 15) dX2_latest_34 rfl (shC_19 _) rfl inX2 (by decide) rfl rfl wd_225 rfl ?_
    exact Ok.iret dX2_latest_37 rfl (by decide) K
  · obtain rfl : 38 = tgt := by rw [c1] at ht; exact Int.ofNat.inj ht
    have K := Kc1_2 c1
    refine Ok.aload_n (pc' := 39) rfl dX2_latest_38 rfl ?_
    refine Ok.getI (pc' := 42) (z := h.2.1 19 16) (k := 16) dX2_latest_39 rfl (shC_19 _) rfl inX2 (by decide) rfl rfl wd_226 rfl ?_
    exact Ok.iret dX2_latest_42 rfl (by decide) K
  · obtain rfl : 43 = tgt := by
      rcases c1 with q | q
      · rw [swT_out (Or.inl q)] at ht; exact Int.ofNat.inj ht
      · rw [swT_out (Or.inr q)] at ht; exact Int.ofNat.inj ht
    have K := Kc1_3 c1
    refine Ok.aload_n (pc' := 44) rfl dX2_latest_43 rfl ?_
    refine Ok.getI (pc' := 47) (z := h.2.1 19 17) (k := 17) dX2_latest_44 rfl (shC_19 _) rfl inX2 (by decide) rfl rfl wd_227 rfl ?_
    exact Ok.iret dX2_latest_47 rfl (by decide) K
theorem sX2_start_0 {r a b c0 fuel : Int} {h : Hp} {Post : Int → Hp → Prop}
    (K : Ok shC 0 0 mX2_start 40 [some (pR 19), some (pI r), some (pI a), some (pI b), some (pI c0), some (pI fuel), some (pI 0), none] [] (hI (hI (hI (hI (hI (hI (hI h 19 9 0) 19 10 0) 19 11 fuel) 19 13 0) 19 14 0) 19 16 0) 19 17 (-4)) Post) :
    Cl shC mX2_start [pR 19, pI r, pI a, pI b, pI c0, pI fuel] h Post := by
  show Ok shC 0 0 mX2_start 0 [some (pR 19), some (pI r), some (pI a), some (pI b), some (pI c0), some (pI fuel), none, none] [] h Post
  refine Ok.aload_n (pc' := 1) rfl dX2_start_0 rfl ?_
  refine Ok.iconst (pc' := 2) in_0 dX2_start_1 rfl ?_
  refine Ok.putI (pc' := 5) (k := 9) dX2_start_2 rfl (shC_19 _) rfl inX2 tyX2 tyX2_ok nmX2 (by decide) rfl wd_219 rfl rfl (Or.inl rfl) ?_
  refine Ok.aload_n (pc' := 6) rfl dX2_start_5 rfl ?_
  refine Ok.iconst (pc' := 7) in_0 dX2_start_6 rfl ?_
  refine Ok.putI (pc' := 10) (k := 10) dX2_start_7 rfl (shC_19 _) rfl inX2 tyX2 tyX2_ok nmX2 (by decide) rfl wd_220 rfl rfl (Or.inl rfl) ?_
  refine Ok.aload_n (pc' := 11) rfl dX2_start_10 rfl ?_
  refine Ok.iload (pc' := 13) rfl dX2_start_11 rfl ?_
  refine Ok.putI (pc' := 16) (k := 11) dX2_start_13 rfl (shC_19 _) rfl inX2 tyX2 tyX2_ok nmX2 (by decide) rfl wd_221 rfl rfl (Or.inl rfl) ?_
  refine Ok.aload_n (pc' := 17) rfl dX2_start_16 rfl ?_
  refine Ok.iconst (pc' := 18) in_0 dX2_start_17 rfl ?_
  refine Ok.putI (pc' := 21) (k := 13) dX2_start_18 rfl (shC_19 _) rfl inX2 tyX2 tyX2_ok nmX2 (by decide) rfl wd_223 rfl rfl (Or.inl rfl) ?_
  refine Ok.aload_n (pc' := 22) rfl dX2_start_21 rfl ?_
  refine Ok.iconst (pc' := 23) in_0 dX2_start_22 rfl ?_
  refine Ok.putI (pc' := 26) (k := 14) dX2_start_23 rfl (shC_19 _) rfl inX2 tyX2 tyX2_ok nmX2 (by decide) rfl wd_224 rfl rfl (Or.inl rfl) ?_
  refine Ok.aload_n (pc' := 27) rfl dX2_start_26 rfl ?_
  refine Ok.iconst (pc' := 28) in_0 dX2_start_27 rfl ?_
  refine Ok.putI (pc' := 31) (k := 16) dX2_start_28 rfl (shC_19 _) rfl inX2 tyX2 tyX2_ok nmX2 (by decide) rfl wd_226 rfl rfl (Or.inl rfl) ?_
  refine Ok.aload_n (pc' := 32) rfl dX2_start_31 rfl ?_
  refine Ok.bipush (pc' := 34) ⟨by decide, by decide⟩ dX2_start_32 rfl ?_
  refine Ok.putI (pc' := 37) (k := 17) dX2_start_34 rfl (shC_19 _) rfl inX2 tyX2 tyX2_ok nmX2 (by decide) rfl wd_227 rfl rfl (Or.inl rfl) ?_
  refine Ok.iconst (pc' := 38) in_0 dX2_start_37 rfl ?_
  refine Ok.istore (pc' := 40) (ls' := [some (pR 19), some (pI r), some (pI a), some (pI b), some (pI c0), some (pI fuel), some (pI 0), none]) dX2_start_38 rfl (by decide) rfl rfl ?_
  exact K
theorem sX2_start_40 {r a b c0 fuel v6 : Int} {h : Hp} {Post : Int → Hp → Prop}
    (K : ((10 ≤ v6) → Cl shC mX1_isMissing [pR 1, pI r] h (fun r1 h1 => ((r1 = 0) → Cl shC mX1_paramsOf [pR 1, pI r] h1 (fun r2 h2 => Cl shC mX2_openCall [pR 19, pI (-1), pI r2, pI a, pI b, pI c0] h2 (fun _ h3 => Cl shC mX1_bodyOf [pR 1, pI r] h3 (fun r4 h4 => Cl shC mX2_begin [pR 19, pI r4] h4 (fun _ h5 => Ok shC 0 0 mX2_start 122 [some (pR 19), none, none, none, none, some (pI fuel), some (pI 0), none] [] h5 Post))))) ∧ ((¬ r1 = 0) → Cl shC mX2_refuse [pR 19, pI 3, pI (-4)] h1 (fun _ h6 => Ok shC 0 0 mX2_start 122 [some (pR 19), none, none, none, none, some (pI fuel), some (pI 0), none] [] h6 Post)))) ∧ ((¬ 10 ≤ v6) → Cl shC mX1_usesOf [pR 1, pI v6] h (fun r7 h7 => ∃ k2 : Nat, v6 = (k2 : Int) ∧ k2 < 10 ∧ (inR ((v6 + 1)) ∧ (Ok shC 0 0 mX2_start 40 [some (pR 19), some (pI r), some (pI a), some (pI b), some (pI c0), some (pI fuel), some (pI (v6 + 1)), none] [] (hA h7 22 k2 r7) Post))))) :
    Ok shC 0 0 mX2_start 40 [some (pR 19), some (pI r), some (pI a), some (pI b), some (pI c0), some (pI fuel), some (pI v6), none] [] h Post := by
  show Ok shC 0 0 mX2_start 40 [some (pR 19), some (pI r), some (pI a), some (pI b), some (pI c0), some (pI fuel), some (pI v6), none] [] h Post
  refine Ok.iload (pc' := 42) rfl dX2_start_40 rfl ?_
  refine Ok.bipush (pc' := 44) ⟨by decide, by decide⟩ dX2_start_42 rfl ?_
  refine Ok.icmp_ge (tgt := 69) dX2_start_44 rfl rfl (fun c1 => ?_) (fun c1 => ?_)
  · replace K := K.1 c1
    refine Ok.aload_n (pc' := 70) rfl dX2_start_69 rfl ?_
    refine Ok.getR (pc' := 73) (k := 0) dX2_start_70 rfl (shC_19 _) rfl inX2 (by decide) rfl wd_210 rfl ?_
    refine Ok.iload_n (pc' := 74) rfl dX2_start_73 rfl ?_
    refine Ok.callV (pc' := 77) (av := [pI r]) (rest := []) dX2_start_74 rfl (by decide) cvX2_start_84 (shC_1 _) rfl rfl rfl (leb rfl) (leb rfl) K (fun r1 h1 K => ?_)
    show Ok shC 0 0 mX2_start 77 [some (pR 19), some (pI r), some (pI a), some (pI b), some (pI c0), some (pI fuel), some (pI v6), none] [pI r1] h1 Post
    refine Ok.if_eq (tgt := 90) dX2_start_77 rfl rfl (fun c2 => ?_) (fun c2 => ?_)
    · replace K := K.1 c2
      refine Ok.aload_n (pc' := 91) rfl dX2_start_90 rfl ?_
      refine Ok.iconst (pc' := 92) in_m1 dX2_start_91 rfl ?_
      refine Ok.aload_n (pc' := 93) rfl dX2_start_92 rfl ?_
      refine Ok.getR (pc' := 96) (k := 0) dX2_start_93 rfl (shC_19 _) rfl inX2 (by decide) rfl wd_210 rfl ?_
      refine Ok.iload_n (pc' := 97) rfl dX2_start_96 rfl ?_
      refine Ok.callV (pc' := 100) (av := [pI r]) (rest := [pI (-1), pR 19]) dX2_start_97 rfl (by decide) cvX2_start_92 (shC_1 _) rfl rfl rfl (leb rfl) (leb rfl) K (fun r2 h2 K => ?_)
      show Ok shC 0 0 mX2_start 100 [some (pR 19), some (pI r), some (pI a), some (pI b), some (pI c0), some (pI fuel), some (pI v6), none] [pI r2, pI (-1), pR 19] h2 Post
      refine Ok.iload_n (pc' := 101) rfl dX2_start_100 rfl ?_
      refine Ok.iload_n (pc' := 102) rfl dX2_start_101 rfl ?_
      refine Ok.iload (pc' := 104) rfl dX2_start_102 rfl ?_
      refine Ok.callV (pc' := 107) (av := [pI (-1), pI r2, pI a, pI b, pI c0]) (rest := []) dX2_start_104 rfl (by decide) cvX2_start_95 (shC_19 _) rfl rfl rfl (leb rfl) (leb rfl) K (fun r_ h3 K => ?_)
      show Ok shC 0 0 mX2_start 107 [some (pR 19), some (pI r), some (pI a), some (pI b), some (pI c0), some (pI fuel), some (pI v6), none] [] h3 Post
      refine Ok.aload_n (pc' := 108) rfl dX2_start_107 rfl ?_
      refine Ok.aload_n (pc' := 109) rfl dX2_start_108 rfl ?_
      refine Ok.getR (pc' := 112) (k := 0) dX2_start_109 rfl (shC_19 _) rfl inX2 (by decide) rfl wd_210 rfl ?_
      refine Ok.iload_n (pc' := 113) rfl dX2_start_112 rfl ?_
      refine Ok.callV (pc' := 116) (av := [pI r]) (rest := [pR 19]) dX2_start_113 rfl (by decide) cvX2_start_99 (shC_1 _) rfl rfl rfl (leb rfl) (leb rfl) K (fun r4 h4 K => ?_)
      show Ok shC 0 0 mX2_start 116 [some (pR 19), some (pI r), some (pI a), some (pI b), some (pI c0), some (pI fuel), some (pI v6), none] [pI r4, pR 19] h4 Post
      refine Ok.callV (pc' := 119) (av := [pI r4]) (rest := []) dX2_start_116 rfl (by decide) cvX2_start_102 (shC_19 _) rfl rfl rfl (leb rfl) (leb rfl) K (fun r_ h5 K => ?_)
      show Ok shC 0 0 mX2_start 119 [some (pR 19), some (pI r), some (pI a), some (pI b), some (pI c0), some (pI fuel), some (pI v6), none] [] h5 Post
      refine Ok.iconst (pc' := 120) in_0 dX2_start_119 rfl ?_
      refine Ok.istore (pc' := 122) (ls' := [some (pR 19), some (pI r), some (pI a), some (pI b), some (pI c0), some (pI fuel), some (pI 0), none]) dX2_start_120 rfl (by decide) rfl rfl ?_
      exact Ok.fl (ls' := [some (pR 19), none, none, none, none, some (pI fuel), some (pI 0), none]) K ⟨rfl, rfl, rfl, trivial⟩
    · replace K := K.2 c2
      refine Ok.aload_n (pc' := 81) rfl dX2_start_80 rfl ?_
      refine Ok.iconst (pc' := 82) in_3 dX2_start_81 rfl ?_
      refine Ok.bipush (pc' := 84) ⟨by decide, by decide⟩ dX2_start_82 rfl ?_
      refine Ok.callV (pc' := 87) (av := [pI 3, pI (-4)]) (rest := []) dX2_start_84 rfl (by decide) cvX2_start_88 (shC_19 _) rfl rfl rfl (leb rfl) (leb rfl) K (fun r_ h6 K => ?_)
      show Ok shC 0 0 mX2_start 87 [some (pR 19), some (pI r), some (pI a), some (pI b), some (pI c0), some (pI fuel), some (pI v6), none] [] h6 Post
      refine Ok.goto (tgt := 119) dX2_start_87 rfl ?_
      refine Ok.iconst (pc' := 120) in_0 dX2_start_119 rfl ?_
      refine Ok.istore (pc' := 122) (ls' := [some (pR 19), some (pI r), some (pI a), some (pI b), some (pI c0), some (pI fuel), some (pI 0), none]) dX2_start_120 rfl (by decide) rfl rfl ?_
      exact Ok.fl (ls' := [some (pR 19), none, none, none, none, some (pI fuel), some (pI 0), none]) K ⟨rfl, rfl, rfl, trivial⟩
  · replace K := K.2 c1
    refine Ok.aload_n (pc' := 48) rfl dX2_start_47 rfl ?_
    refine Ok.getR (pc' := 51) (k := 3) dX2_start_48 rfl (shC_19 _) rfl inX2 (by decide) rfl wd_213 rfl ?_
    refine Ok.iload (pc' := 53) rfl dX2_start_51 rfl ?_
    refine Ok.aload_n (pc' := 54) rfl dX2_start_53 rfl ?_
    refine Ok.getR (pc' := 57) (k := 0) dX2_start_54 rfl (shC_19 _) rfl inX2 (by decide) rfl wd_210 rfl ?_
    refine Ok.iload (pc' := 59) rfl dX2_start_57 rfl ?_
    refine Ok.callV (pc' := 62) (av := [pI v6]) (rest := [pI v6, pR 22]) dX2_start_59 rfl (by decide) cvX2_start_79 (shC_1 _) rfl rfl rfl (leb rfl) (leb rfl) K (fun r7 h7 K => ?_)
    show Ok shC 0 0 mX2_start 62 [some (pR 19), some (pI r), some (pI a), some (pI b), some (pI c0), some (pI fuel), some (pI v6), none] [pI r7, pI v6, pR 22] h7 Post
    obtain ⟨k2, e2, q2, K⟩ := K
    refine Ok.iast (pc' := 63) dX2_start_62 rfl (shC_22 _) (by decide) e2 q2 ?_
    obtain ⟨q3, K⟩ := K
    refine Ok.iinc (pc' := 66) (ls' := [some (pR 19), some (pI r), some (pI a), some (pI b), some (pI c0), some (pI fuel), some (pI (v6 + 1)), none]) dX2_start_63 rfl rfl (by decide) rfl rfl q3 ?_
    refine Ok.goto (tgt := 40) dX2_start_66 rfl ?_
    exact K
theorem sX2_start_122 {fuel v6 : Int} {h : Hp} {Post : Int → Hp → Prop}
    (K : ((10000000 ≤ v6) → inR ((fuel - h.2.1 19 11)) ∧ (inR ((h.2.1 19 12 + (fuel - h.2.1 19 11))) ∧ (Post (h.2.1 19 13) (hI (hI h 19 15 (fuel - h.2.1 19 11)) 19 12 (h.2.1 19 12 + (fuel - h.2.1 19 11)))))) ∧ ((¬ 10000000 ≤ v6) → ((h.2.1 19 9 ≤ 0) → inR ((fuel - h.2.1 19 11)) ∧ (inR ((h.2.1 19 12 + (fuel - h.2.1 19 11))) ∧ (Post (h.2.1 19 13) (hI (hI h 19 15 (fuel - h.2.1 19 11)) 19 12 (h.2.1 19 12 + (fuel - h.2.1 19 11)))))) ∧ ((¬ h.2.1 19 9 ≤ 0) → ((¬ h.2.1 19 13 = 0) → inR ((fuel - h.2.1 19 11)) ∧ (inR ((h.2.1 19 12 + (fuel - h.2.1 19 11))) ∧ (Post (h.2.1 19 13) (hI (hI h 19 15 (fuel - h.2.1 19 11)) 19 12 (h.2.1 19 12 + (fuel - h.2.1 19 11)))))) ∧ ((h.2.1 19 13 = 0) → inR ((h.2.1 19 9 - 1)) ∧ (Cl shC mX2_advance [pR 19, pI (h.2.1 19 9 - 1)] h (fun r1 h1 => ((r1 = (-4)) → inR ((v6 + 1)) ∧ (Ok shC 0 0 mX2_start 122 [some (pR 19), none, none, none, none, some (pI fuel), some (pI (v6 + 1)), none] [] h1 Post)) ∧ ((¬ r1 = (-4)) → Cl shC mX2_begin [pR 19, pI r1] h1 (fun _ h2 => inR ((v6 + 1)) ∧ (Ok shC 0 0 mX2_start 122 [some (pR 19), none, none, none, none, some (pI fuel), some (pI (v6 + 1)), none] [] h2 Post))))))))) :
    Ok shC 0 0 mX2_start 122 [some (pR 19), none, none, none, none, some (pI fuel), some (pI v6), none] [] h Post := by
  show Ok shC 0 0 mX2_start 122 [some (pR 19), none, none, none, none, some (pI fuel), some (pI v6), none] [] h Post
  refine Ok.iload (pc' := 124) rfl dX2_start_122 rfl ?_
  refine Ok.ldc (n := 10000000) (pc' := 126) ⟨by decide, by decide⟩ wd_657 (by decide) dX2_start_124 rfl ?_
  refine Ok.icmp_ge (tgt := 174) dX2_start_126 rfl rfl (fun c1 => ?_) (fun c1 => ?_)
  · replace K := K.1 c1
    refine Ok.aload_n (pc' := 175) rfl dX2_start_174 rfl ?_
    refine Ok.iload (pc' := 177) rfl dX2_start_175 rfl ?_
    refine Ok.aload_n (pc' := 178) rfl dX2_start_177 rfl ?_
    refine Ok.getI (pc' := 181) (z := h.2.1 19 11) (k := 11) dX2_start_178 rfl (shC_19 _) rfl inX2 (by decide) rfl rfl wd_221 rfl ?_
    obtain ⟨q2, K⟩ := K
    refine Ok.isub (pc' := 182) dX2_start_181 rfl q2 ?_
    refine Ok.putI (pc' := 185) (k := 15) dX2_start_182 rfl (shC_19 _) rfl inX2 tyX2 tyX2_ok nmX2 (by decide) rfl wd_225 rfl rfl (Or.inl rfl) ?_
    refine Ok.aload_n (pc' := 186) rfl dX2_start_185 rfl ?_
    refine Ok.dup (pc' := 187) dX2_start_186 rfl rfl ?_
    refine Ok.getI (pc' := 190) (z := h.2.1 19 12) (k := 12) dX2_start_187 rfl (shC_19 _) rfl inX2 (by decide) rfl rfl wd_222 rfl ?_
    refine Ok.aload_n (pc' := 191) rfl dX2_start_190 rfl ?_
    refine Ok.getI (pc' := 194) (z := (fuel - h.2.1 19 11)) (k := 15) dX2_start_191 rfl (shC_19 _) rfl inX2 (by decide) rfl rfl wd_225 rfl ?_
    obtain ⟨q3, K⟩ := K
    refine Ok.iadd (pc' := 195) dX2_start_194 rfl q3 ?_
    refine Ok.putI (pc' := 198) (k := 12) dX2_start_195 rfl (shC_19 _) rfl inX2 tyX2 tyX2_ok nmX2 (by decide) rfl wd_222 rfl rfl (Or.inl rfl) ?_
    refine Ok.aload_n (pc' := 199) rfl dX2_start_198 rfl ?_
    refine Ok.getI (pc' := 202) (z := h.2.1 19 13) (k := 13) dX2_start_199 rfl (shC_19 _) rfl inX2 (by decide) rfl rfl wd_223 rfl ?_
    exact Ok.iret dX2_start_202 rfl (by decide) K
  · replace K := K.2 c1
    refine Ok.aload_n (pc' := 130) rfl dX2_start_129 rfl ?_
    refine Ok.getI (pc' := 133) (z := h.2.1 19 9) (k := 9) dX2_start_130 rfl (shC_19 _) rfl inX2 (by decide) rfl rfl wd_219 rfl ?_
    refine Ok.if_le (tgt := 174) dX2_start_133 rfl rfl (fun c2 => ?_) (fun c2 => ?_)
    · replace K := K.1 c2
      refine Ok.aload_n (pc' := 175) rfl dX2_start_174 rfl ?_
      refine Ok.iload (pc' := 177) rfl dX2_start_175 rfl ?_
      refine Ok.aload_n (pc' := 178) rfl dX2_start_177 rfl ?_
      refine Ok.getI (pc' := 181) (z := h.2.1 19 11) (k := 11) dX2_start_178 rfl (shC_19 _) rfl inX2 (by decide) rfl rfl wd_221 rfl ?_
      obtain ⟨q3, K⟩ := K
      refine Ok.isub (pc' := 182) dX2_start_181 rfl q3 ?_
      refine Ok.putI (pc' := 185) (k := 15) dX2_start_182 rfl (shC_19 _) rfl inX2 tyX2 tyX2_ok nmX2 (by decide) rfl wd_225 rfl rfl (Or.inl rfl) ?_
      refine Ok.aload_n (pc' := 186) rfl dX2_start_185 rfl ?_
      refine Ok.dup (pc' := 187) dX2_start_186 rfl rfl ?_
      refine Ok.getI (pc' := 190) (z := h.2.1 19 12) (k := 12) dX2_start_187 rfl (shC_19 _) rfl inX2 (by decide) rfl rfl wd_222 rfl ?_
      refine Ok.aload_n (pc' := 191) rfl dX2_start_190 rfl ?_
      refine Ok.getI (pc' := 194) (z := (fuel - h.2.1 19 11)) (k := 15) dX2_start_191 rfl (shC_19 _) rfl inX2 (by decide) rfl rfl wd_225 rfl ?_
      obtain ⟨q4, K⟩ := K
      refine Ok.iadd (pc' := 195) dX2_start_194 rfl q4 ?_
      refine Ok.putI (pc' := 198) (k := 12) dX2_start_195 rfl (shC_19 _) rfl inX2 tyX2 tyX2_ok nmX2 (by decide) rfl wd_222 rfl rfl (Or.inl rfl) ?_
      refine Ok.aload_n (pc' := 199) rfl dX2_start_198 rfl ?_
      refine Ok.getI (pc' := 202) (z := h.2.1 19 13) (k := 13) dX2_start_199 rfl (shC_19 _) rfl inX2 (by decide) rfl rfl wd_223 rfl ?_
      exact Ok.iret dX2_start_202 rfl (by decide) K
    · replace K := K.2 c2
      refine Ok.aload_n (pc' := 137) rfl dX2_start_136 rfl ?_
      refine Ok.getI (pc' := 140) (z := h.2.1 19 13) (k := 13) dX2_start_137 rfl (shC_19 _) rfl inX2 (by decide) rfl rfl wd_223 rfl ?_
      refine Ok.if_ne (tgt := 174) dX2_start_140 rfl rfl (fun c3 => ?_) (fun c3 => ?_)
      · replace K := K.1 c3
        refine Ok.aload_n (pc' := 175) rfl dX2_start_174 rfl ?_
        refine Ok.iload (pc' := 177) rfl dX2_start_175 rfl ?_
        refine Ok.aload_n (pc' := 178) rfl dX2_start_177 rfl ?_
        refine Ok.getI (pc' := 181) (z := h.2.1 19 11) (k := 11) dX2_start_178 rfl (shC_19 _) rfl inX2 (by decide) rfl rfl wd_221 rfl ?_
        obtain ⟨q4, K⟩ := K
        refine Ok.isub (pc' := 182) dX2_start_181 rfl q4 ?_
        refine Ok.putI (pc' := 185) (k := 15) dX2_start_182 rfl (shC_19 _) rfl inX2 tyX2 tyX2_ok nmX2 (by decide) rfl wd_225 rfl rfl (Or.inl rfl) ?_
        refine Ok.aload_n (pc' := 186) rfl dX2_start_185 rfl ?_
        refine Ok.dup (pc' := 187) dX2_start_186 rfl rfl ?_
        refine Ok.getI (pc' := 190) (z := h.2.1 19 12) (k := 12) dX2_start_187 rfl (shC_19 _) rfl inX2 (by decide) rfl rfl wd_222 rfl ?_
        refine Ok.aload_n (pc' := 191) rfl dX2_start_190 rfl ?_
        refine Ok.getI (pc' := 194) (z := (fuel - h.2.1 19 11)) (k := 15) dX2_start_191 rfl (shC_19 _) rfl inX2 (by decide) rfl rfl wd_225 rfl ?_
        obtain ⟨q5, K⟩ := K
        refine Ok.iadd (pc' := 195) dX2_start_194 rfl q5 ?_
        refine Ok.putI (pc' := 198) (k := 12) dX2_start_195 rfl (shC_19 _) rfl inX2 tyX2 tyX2_ok nmX2 (by decide) rfl wd_222 rfl rfl (Or.inl rfl) ?_
        refine Ok.aload_n (pc' := 199) rfl dX2_start_198 rfl ?_
        refine Ok.getI (pc' := 202) (z := h.2.1 19 13) (k := 13) dX2_start_199 rfl (shC_19 _) rfl inX2 (by decide) rfl rfl wd_223 rfl ?_
        exact Ok.iret dX2_start_202 rfl (by decide) K
      · replace K := K.2 c3
        refine Ok.aload_n (pc' := 144) rfl dX2_start_143 rfl ?_
        refine Ok.aload_n (pc' := 145) rfl dX2_start_144 rfl ?_
        refine Ok.getI (pc' := 148) (z := h.2.1 19 9) (k := 9) dX2_start_145 rfl (shC_19 _) rfl inX2 (by decide) rfl rfl wd_219 rfl ?_
        refine Ok.iconst (pc' := 149) in_1 dX2_start_148 rfl ?_
        obtain ⟨q4, K⟩ := K
        refine Ok.isub (pc' := 150) dX2_start_149 rfl q4 ?_
        refine Ok.callV (pc' := 153) (av := [pI (h.2.1 19 9 - 1)]) (rest := []) dX2_start_150 rfl (by decide) cvX2_start_107 (shC_19 _) rfl rfl rfl (leb rfl) (leb rfl) K (fun r1 h1 K => ?_)
        show Ok shC 0 0 mX2_start 153 [some (pR 19), none, none, none, none, some (pI fuel), some (pI v6), none] [pI r1] h1 Post
        refine Ok.istore (pc' := 155) (ls' := [some (pR 19), none, none, none, none, some (pI fuel), some (pI v6), some (pI r1)]) dX2_start_153 rfl (by decide) rfl rfl ?_
        refine Ok.iload (pc' := 157) rfl dX2_start_155 rfl ?_
        refine Ok.bipush (pc' := 159) ⟨by decide, by decide⟩ dX2_start_157 rfl ?_
        refine Ok.icmp_eq (tgt := 168) dX2_start_159 rfl rfl (fun c5 => ?_) (fun c5 => ?_)
        · replace K := K.1 c5
          obtain ⟨q6, K⟩ := K
          refine Ok.iinc (pc' := 171) (ls' := [some (pR 19), none, none, none, none, some (pI fuel), some (pI (v6 + 1)), some (pI r1)]) dX2_start_168 rfl rfl (by decide) rfl rfl q6 ?_
          refine Ok.goto (tgt := 122) dX2_start_171 rfl ?_
          exact Ok.fl (ls' := [some (pR 19), none, none, none, none, some (pI fuel), some (pI (v6 + 1)), none]) K ⟨rfl, rfl, rfl, trivial⟩
        · replace K := K.2 c5
          refine Ok.aload_n (pc' := 163) rfl dX2_start_162 rfl ?_
          refine Ok.iload (pc' := 165) rfl dX2_start_163 rfl ?_
          refine Ok.callV (pc' := 168) (av := [pI r1]) (rest := []) dX2_start_165 rfl (by decide) cvX2_start_102 (shC_19 _) rfl rfl rfl (leb rfl) (leb rfl) K (fun r_ h2 K => ?_)
          show Ok shC 0 0 mX2_start 168 [some (pR 19), none, none, none, none, some (pI fuel), some (pI v6), some (pI r1)] [] h2 Post
          obtain ⟨q6, K⟩ := K
          refine Ok.iinc (pc' := 171) (ls' := [some (pR 19), none, none, none, none, some (pI fuel), some (pI (v6 + 1)), some (pI r1)]) dX2_start_168 rfl rfl (by decide) rfl rfl q6 ?_
          refine Ok.goto (tgt := 122) dX2_start_171 rfl ?_
          exact Ok.fl (ls' := [some (pR 19), none, none, none, none, some (pI fuel), some (pI (v6 + 1)), none]) K ⟨rfl, rfl, rfl, trivial⟩
theorem sX2_refuse_0 {why step : Int} {h : Hp} {Post : Int → Hp → Prop}
    (K : Post 0 (hI (hI h 19 13 why) 19 17 step)) :
    Cl shC mX2_refuse [pR 19, pI why, pI step] h Post := by
  show Ok shC 0 0 mX2_refuse 0 [some (pR 19), some (pI why), some (pI step)] [] h Post
  refine Ok.aload_n (pc' := 1) rfl dX2_refuse_0 rfl ?_
  refine Ok.iload_n (pc' := 2) rfl dX2_refuse_1 rfl ?_
  refine Ok.putI (pc' := 5) (k := 13) dX2_refuse_2 rfl (shC_19 _) rfl inX2 tyX2 tyX2_ok nmX2 (by decide) rfl wd_223 rfl rfl (Or.inl rfl) ?_
  refine Ok.aload_n (pc' := 6) rfl dX2_refuse_5 rfl ?_
  refine Ok.iload_n (pc' := 7) rfl dX2_refuse_6 rfl ?_
  refine Ok.putI (pc' := 10) (k := 17) dX2_refuse_7 rfl (shC_19 _) rfl inX2 tyX2 tyX2_ok nmX2 (by decide) rfl wd_227 rfl rfl (Or.inl rfl) ?_
  exact Ok.vret dX2_refuse_10 rfl (by decide) K
theorem sX2_pay_0 {step cost : Int} {h : Hp} {Post : Int → Hp → Prop}
    (K : ((cost ≤ h.2.1 19 11) → inR ((h.2.1 19 11 - cost)) ∧ (Post 1 (hI h 19 11 (h.2.1 19 11 - cost)))) ∧ ((¬ cost ≤ h.2.1 19 11) → Cl shC mX2_refuse [pR 19, pI 4, pI step] h (fun _ h1 => Post 0 h1))) :
    Cl shC mX2_pay [pR 19, pI step, pI cost] h Post := by
  show Ok shC 0 0 mX2_pay 0 [some (pR 19), some (pI step), some (pI cost)] [] h Post
  refine Ok.iload_n (pc' := 1) rfl dX2_pay_0 rfl ?_
  refine Ok.aload_n (pc' := 2) rfl dX2_pay_1 rfl ?_
  refine Ok.getI (pc' := 5) (z := h.2.1 19 11) (k := 11) dX2_pay_2 rfl (shC_19 _) rfl inX2 (by decide) rfl rfl wd_221 rfl ?_
  refine Ok.icmp_le (tgt := 16) dX2_pay_5 rfl rfl (fun c1 => ?_) (fun c1 => ?_)
  · replace K := K.1 c1
    refine Ok.aload_n (pc' := 17) rfl dX2_pay_16 rfl ?_
    refine Ok.dup (pc' := 18) dX2_pay_17 rfl rfl ?_
    refine Ok.getI (pc' := 21) (z := h.2.1 19 11) (k := 11) dX2_pay_18 rfl (shC_19 _) rfl inX2 (by decide) rfl rfl wd_221 rfl ?_
    refine Ok.iload_n (pc' := 22) rfl dX2_pay_21 rfl ?_
    obtain ⟨q2, K⟩ := K
    refine Ok.isub (pc' := 23) dX2_pay_22 rfl q2 ?_
    refine Ok.putI (pc' := 26) (k := 11) dX2_pay_23 rfl (shC_19 _) rfl inX2 tyX2 tyX2_ok nmX2 (by decide) rfl wd_221 rfl rfl (Or.inl rfl) ?_
    refine Ok.iconst (pc' := 27) in_1 dX2_pay_26 rfl ?_
    exact Ok.zret dX2_pay_27 rfl (by decide) (Or.inr rfl) K
  · replace K := K.2 c1
    refine Ok.aload_n (pc' := 9) rfl dX2_pay_8 rfl ?_
    refine Ok.iconst (pc' := 10) in_4 dX2_pay_9 rfl ?_
    refine Ok.iload_n (pc' := 11) rfl dX2_pay_10 rfl ?_
    refine Ok.callV (pc' := 14) (av := [pI 4, pI step]) (rest := []) dX2_pay_11 rfl (by decide) cvX2_pay_88 (shC_19 _) rfl rfl rfl (leb rfl) (leb rfl) K (fun r_ h1 K => ?_)
    show Ok shC 0 0 mX2_pay 14 [some (pR 19), some (pI step), some (pI cost)] [] h1 Post
    refine Ok.iconst (pc' := 15) in_0 dX2_pay_14 rfl ?_
    exact Ok.zret dX2_pay_15 rfl (by decide) (Or.inl rfl) K
theorem sX2_countOne_0 {step : Int} {h : Hp} {Post : Int → Hp → Prop}
    (K : ((step < 0) → Post 0 h) ∧ ((¬ step < 0) → ((600 ≤ step) → Post 0 h) ∧ ((¬ 600 ≤ step) → ∃ k3 : Nat, step = (k3 : Int) ∧ k3 < 600 ∧ (Post 0 (hA h 20 k3 (wr (h.1 20 k3 + 1))))))) :
    Cl shC mX2_countOne [pR 19, pI step] h Post := by
  show Ok shC 0 0 mX2_countOne 0 [some (pR 19), some (pI step)] [] h Post
  refine Ok.iload_n (pc' := 1) rfl dX2_countOne_0 rfl ?_
  refine Ok.if_lt (tgt := 21) dX2_countOne_1 rfl rfl (fun c1 => ?_) (fun c1 => ?_)
  · replace K := K.1 c1
    exact Ok.vret dX2_countOne_21 rfl (by decide) K
  · replace K := K.2 c1
    refine Ok.iload_n (pc' := 5) rfl dX2_countOne_4 rfl ?_
    refine Ok.sipush (pc' := 8) ⟨by decide, by decide⟩ dX2_countOne_5 rfl ?_
    refine Ok.icmp_ge (tgt := 21) dX2_countOne_8 rfl rfl (fun c2 => ?_) (fun c2 => ?_)
    · replace K := K.1 c2
      exact Ok.vret dX2_countOne_21 rfl (by decide) K
    · replace K := K.2 c2
      refine Ok.aload_n (pc' := 12) rfl dX2_countOne_11 rfl ?_
      refine Ok.getR (pc' := 15) (k := 1) dX2_countOne_12 rfl (shC_19 _) rfl inX2 (by decide) rfl wd_211 rfl ?_
      refine Ok.iload_n (pc' := 16) rfl dX2_countOne_15 rfl ?_
      refine Ok.dup2 (pc' := 17) dX2_countOne_16 rfl rfl rfl ?_
      obtain ⟨k3, e3, q3, K⟩ := K
      refine Ok.iald (pc' := 18) (z := h.1 20 k3) dX2_countOne_17 rfl (shC_20 _) (by decide) e3 q3 rfl ?_
      refine Ok.iconst (pc' := 19) in_1 dX2_countOne_18 rfl ?_
      refine Ok.iaddw (pc' := 20) dX2_countOne_19 rfl ?_
      refine Ok.iast (pc' := 21) dX2_countOne_20 rfl (shC_20 _) (by decide) e3 q3 ?_
      exact Ok.vret dX2_countOne_21 rfl (by decide) K
theorem sX2_begin_0 {step : Int} {h : Hp} {Post : Int → Hp → Prop}
    (K : Cl shC mX1_kindOf [pR 1, pI step] h (fun r1 h1 => ((r1 < 0) → Ok shC 0 0 mX2_begin 30 [some (pR 19), some (pI step), some (pI r1), none] [pI 0] h1 Post) ∧ ((¬ r1 < 0) → ((12 ≤ r1) → Ok shC 0 0 mX2_begin 30 [some (pR 19), some (pI step), some (pI r1), none] [pI 0] h1 Post) ∧ ((¬ 12 ≤ r1) → ∃ k3 : Nat, r1 = (k3 : Int) ∧ k3 < 12 ∧ (Ok shC 0 0 mX2_begin 30 [some (pR 19), some (pI step), some (pI r1), none] [pI (stT 0 k3)] h1 Post))))) :
    Cl shC mX2_begin [pR 19, pI step] h Post := by
  show Ok shC 0 0 mX2_begin 0 [some (pR 19), some (pI step), none, none] [] h Post
  refine Ok.aload_n (pc' := 1) rfl dX2_begin_0 rfl ?_
  refine Ok.getR (pc' := 4) (k := 0) dX2_begin_1 rfl (shC_19 _) rfl inX2 (by decide) rfl wd_210 rfl ?_
  refine Ok.iload_n (pc' := 5) rfl dX2_begin_4 rfl ?_
  refine Ok.callV (pc' := 8) (av := [pI step]) (rest := []) dX2_begin_5 rfl (by decide) cvX2_begin_110 (shC_1 _) rfl rfl rfl (leb rfl) (leb rfl) K (fun r1 h1 K => ?_)
  show Ok shC 0 0 mX2_begin 8 [some (pR 19), some (pI step), none, none] [pI r1] h1 Post
  refine Ok.istore_n (pc' := 9) (ls' := [some (pR 19), some (pI step), some (pI r1), none]) dX2_begin_8 rfl (by decide) rfl rfl ?_
  refine Ok.iload_n (pc' := 10) rfl dX2_begin_9 rfl ?_
  refine Ok.if_lt (tgt := 29) dX2_begin_10 rfl rfl (fun c1 => ?_) (fun c1 => ?_)
  · replace K := K.1 c1
    refine Ok.iconst (pc' := 30) in_0 dX2_begin_29 rfl ?_
    exact K
  · replace K := K.2 c1
    refine Ok.iload_n (pc' := 14) rfl dX2_begin_13 rfl ?_
    refine Ok.getsNe (pc' := 17) 0 (by decide) dX2_begin_14 rfl wd_638 ?_
    refine Ok.getsL (pc' := 18) 0 (by decide) dX2_begin_17 rfl rfl ?_
    refine Ok.icmp_ge (tgt := 29) dX2_begin_18 rfl rfl (fun c2 => ?_) (fun c2 => ?_)
    · replace K := K.1 c2
      refine Ok.iconst (pc' := 30) in_0 dX2_begin_29 rfl ?_
      exact K
    · replace K := K.2 c2
      refine Ok.getsNe (pc' := 24) 0 (by decide) dX2_begin_21 rfl wd_638 ?_
      refine Ok.iload_n (pc' := 25) rfl dX2_begin_24 rfl ?_
      obtain ⟨k3, e3, q3, K⟩ := K
      refine Ok.getsN (pc' := 26) 0 (by decide) dX2_begin_25 rfl rfl e3 q3 ?_
      refine Ok.goto (tgt := 30) dX2_begin_26 rfl ?_
      exact K
theorem sX2_begin_30 {step v2 t0 : Int} {h : Hp} {Post : Int → Hp → Prop}
    (K : ((v2 = 6) → Ok shC 0 0 mX2_begin 47 [some (pR 19), some (pI step), some (pI v2), none] [] h Post) ∧ ((¬ v2 = 6) → Cl shC mX2_pay [pR 19, pI step, pI t0] h (fun r1 h1 => ((¬ r1 = 0) → Ok shC 0 0 mX2_begin 47 [some (pR 19), some (pI step), some (pI v2), none] [] h1 Post) ∧ ((r1 = 0) → Post 0 h1)))) :
    Ok shC 0 0 mX2_begin 30 [some (pR 19), some (pI step), some (pI v2), none] [pI t0] h Post := by
  show Ok shC 0 0 mX2_begin 30 [some (pR 19), some (pI step), some (pI v2), none] [pI t0] h Post
  refine Ok.istore_n (pc' := 31) (ls' := [some (pR 19), some (pI step), some (pI v2), some (pI t0)]) dX2_begin_30 rfl (by decide) rfl rfl ?_
  refine Ok.iload_n (pc' := 32) rfl dX2_begin_31 rfl ?_
  refine Ok.bipush (pc' := 34) ⟨by decide, by decide⟩ dX2_begin_32 rfl ?_
  refine Ok.icmp_eq (tgt := 47) dX2_begin_34 rfl rfl (fun c1 => ?_) (fun c1 => ?_)
  · replace K := K.1 c1
    exact Ok.fl (ls' := [some (pR 19), some (pI step), some (pI v2), none]) K ⟨rfl, rfl, rfl, trivial⟩
  · replace K := K.2 c1
    refine Ok.aload_n (pc' := 38) rfl dX2_begin_37 rfl ?_
    refine Ok.iload_n (pc' := 39) rfl dX2_begin_38 rfl ?_
    refine Ok.iload_n (pc' := 40) rfl dX2_begin_39 rfl ?_
    refine Ok.callV (pc' := 43) (av := [pI step, pI t0]) (rest := []) dX2_begin_40 rfl (by decide) cvX2_begin_116 (shC_19 _) rfl rfl rfl (leb rfl) (leb rfl) K (fun r1 h1 K => ?_)
    show Ok shC 0 0 mX2_begin 43 [some (pR 19), some (pI step), some (pI v2), some (pI t0)] [pI r1] h1 Post
    refine Ok.if_ne (tgt := 47) dX2_begin_43 rfl rfl (fun c2 => ?_) (fun c2 => ?_)
    · replace K := K.1 c2
      exact Ok.fl (ls' := [some (pR 19), some (pI step), some (pI v2), none]) K ⟨rfl, rfl, rfl, trivial⟩
    · replace K := K.2 c2
      exact Ok.vret dX2_begin_46 rfl (by decide) K
theorem sX2_begin_47 {step v2 : Int} {h : Hp} {Post : Int → Hp → Prop}
    (K : ((v2 = 6) → Ok shC 0 0 mX2_begin 58 [some (pR 19), some (pI step), some (pI v2), none] [] h Post) ∧ ((¬ v2 = 6) → Cl shC mX2_countOne [pR 19, pI step] h (fun _ h1 => Ok shC 0 0 mX2_begin 58 [some (pR 19), some (pI step), some (pI v2), none] [] h1 Post))) :
    Ok shC 0 0 mX2_begin 47 [some (pR 19), some (pI step), some (pI v2), none] [] h Post := by
  show Ok shC 0 0 mX2_begin 47 [some (pR 19), some (pI step), some (pI v2), none] [] h Post
  refine Ok.iload_n (pc' := 48) rfl dX2_begin_47 rfl ?_
  refine Ok.bipush (pc' := 50) ⟨by decide, by decide⟩ dX2_begin_48 rfl ?_
  refine Ok.icmp_eq (tgt := 58) dX2_begin_50 rfl rfl (fun c1 => ?_) (fun c1 => ?_)
  · replace K := K.1 c1
    exact K
  · replace K := K.2 c1
    refine Ok.aload_n (pc' := 54) rfl dX2_begin_53 rfl ?_
    refine Ok.iload_n (pc' := 55) rfl dX2_begin_54 rfl ?_
    refine Ok.callV (pc' := 58) (av := [pI step]) (rest := []) dX2_begin_55 rfl (by decide) cvX2_begin_120 (shC_19 _) rfl rfl rfl (leb rfl) (leb rfl) K (fun r_ h1 K => ?_)
    show Ok shC 0 0 mX2_begin 58 [some (pR 19), some (pI step), some (pI v2), none] [] h1 Post
    exact K
theorem sX2_begin_58 {step v2 : Int} {h : Hp} {Post : Int → Hp → Prop}
    (K : ((¬ v2 = 0) → ((¬ v2 = 1) → ((480 ≤ h.2.1 19 9) → Cl shC mX2_refuse [pR 19, pI 5, pI step] h (fun _ h1 => Post 0 h1)) ∧ ((¬ 480 ≤ h.2.1 19 9) → ∃ k4 : Nat, h.2.1 19 9 = (k4 : Int) ∧ k4 < 480 ∧ (inR ((h.2.1 19 9 + 1)) ∧ (Post 0 (hI (hA (hA h 25 k4 step) 26 k4 0) 19 9 (h.2.1 19 9 + 1)))))) ∧ ((v2 = 1) → Cl shC mX1_numberOf [pR 1, pI step] h (fun r2 h2 => Cl shC mX2_readName [pR 19, pI r2] h2 (fun r3 h3 => Cl shC mX2_deliver [pR 19, pI r3] h3 (fun _ h4 => Post 0 h4))))) ∧ ((v2 = 0) → Cl shC mX1_numberOf [pR 1, pI step] h (fun r5 h5 => Cl shC mX2_deliver [pR 19, pI r5] h5 (fun _ h6 => Post 0 h6)))) :
    Ok shC 0 0 mX2_begin 58 [some (pR 19), some (pI step), some (pI v2), none] [] h Post := by
  show Ok shC 0 0 mX2_begin 58 [some (pR 19), some (pI step), some (pI v2), none] [] h Post
  refine Ok.iload_n (pc' := 59) rfl dX2_begin_58 rfl ?_
  refine Ok.if_ne (tgt := 77) dX2_begin_59 rfl rfl (fun c1 => ?_) (fun c1 => ?_)
  · replace K := K.1 c1
    refine Ok.iload_n (pc' := 78) rfl dX2_begin_77 rfl ?_
    refine Ok.iconst (pc' := 79) in_1 dX2_begin_78 rfl ?_
    refine Ok.icmp_ne (tgt := 101) dX2_begin_79 rfl rfl (fun c2 => ?_) (fun c2 => ?_)
    · replace K := K.1 c2
      refine Ok.aload_n (pc' := 102) rfl dX2_begin_101 rfl ?_
      refine Ok.getI (pc' := 105) (z := h.2.1 19 9) (k := 9) dX2_begin_102 rfl (shC_19 _) rfl inX2 (by decide) rfl rfl wd_219 rfl ?_
      refine Ok.sipush (pc' := 108) ⟨by decide, by decide⟩ dX2_begin_105 rfl ?_
      refine Ok.icmp_ge (tgt := 144) dX2_begin_108 rfl rfl (fun c3 => ?_) (fun c3 => ?_)
      · replace K := K.1 c3
        refine Ok.aload_n (pc' := 145) rfl dX2_begin_144 rfl ?_
        refine Ok.iconst (pc' := 146) in_5 dX2_begin_145 rfl ?_
        refine Ok.iload_n (pc' := 147) rfl dX2_begin_146 rfl ?_
        refine Ok.callV (pc' := 150) (av := [pI 5, pI step]) (rest := []) dX2_begin_147 rfl (by decide) cvX2_begin_88 (shC_19 _) rfl rfl rfl (leb rfl) (leb rfl) K (fun r_ h1 K => ?_)
        show Ok shC 0 0 mX2_begin 150 [some (pR 19), some (pI step), some (pI v2), none] [] h1 Post
        exact Ok.vret dX2_begin_150 rfl (by decide) K
      · replace K := K.2 c3
        refine Ok.aload_n (pc' := 112) rfl dX2_begin_111 rfl ?_
        refine Ok.getR (pc' := 115) (k := 6) dX2_begin_112 rfl (shC_19 _) rfl inX2 (by decide) rfl wd_216 rfl ?_
        refine Ok.aload_n (pc' := 116) rfl dX2_begin_115 rfl ?_
        refine Ok.getI (pc' := 119) (z := h.2.1 19 9) (k := 9) dX2_begin_116 rfl (shC_19 _) rfl inX2 (by decide) rfl rfl wd_219 rfl ?_
        refine Ok.iload_n (pc' := 120) rfl dX2_begin_119 rfl ?_
        obtain ⟨k4, e4, q4, K⟩ := K
        refine Ok.iast (pc' := 121) dX2_begin_120 rfl (shC_25 _) (by decide) e4 q4 ?_
        refine Ok.aload_n (pc' := 122) rfl dX2_begin_121 rfl ?_
        refine Ok.getR (pc' := 125) (k := 7) dX2_begin_122 rfl (shC_19 _) rfl inX2 (by decide) rfl wd_217 rfl ?_
        refine Ok.aload_n (pc' := 126) rfl dX2_begin_125 rfl ?_
        refine Ok.getI (pc' := 129) (z := h.2.1 19 9) (k := 9) dX2_begin_126 rfl (shC_19 _) rfl inX2 (by decide) rfl rfl wd_219 rfl ?_
        refine Ok.iconst (pc' := 130) in_0 dX2_begin_129 rfl ?_
        refine Ok.iast (pc' := 131) dX2_begin_130 rfl (shC_26 _) (by decide) e4 q4 ?_
        refine Ok.aload_n (pc' := 132) rfl dX2_begin_131 rfl ?_
        refine Ok.dup (pc' := 133) dX2_begin_132 rfl rfl ?_
        refine Ok.getI (pc' := 136) (z := h.2.1 19 9) (k := 9) dX2_begin_133 rfl (shC_19 _) rfl inX2 (by decide) rfl rfl wd_219 rfl ?_
        refine Ok.iconst (pc' := 137) in_1 dX2_begin_136 rfl ?_
        obtain ⟨q5, K⟩ := K
        refine Ok.iadd (pc' := 138) dX2_begin_137 rfl q5 ?_
        refine Ok.putI (pc' := 141) (k := 9) dX2_begin_138 rfl (shC_19 _) rfl inX2 tyX2 tyX2_ok nmX2 (by decide) rfl wd_219 rfl rfl (Or.inl rfl) ?_
        refine Ok.goto (tgt := 150) dX2_begin_141 rfl ?_
        exact Ok.vret dX2_begin_150 rfl (by decide) K
    · replace K := K.2 c2
      refine Ok.aload_n (pc' := 83) rfl dX2_begin_82 rfl ?_
      refine Ok.aload_n (pc' := 84) rfl dX2_begin_83 rfl ?_
      refine Ok.aload_n (pc' := 85) rfl dX2_begin_84 rfl ?_
      refine Ok.getR (pc' := 88) (k := 0) dX2_begin_85 rfl (shC_19 _) rfl inX2 (by decide) rfl wd_210 rfl ?_
      refine Ok.iload_n (pc' := 89) rfl dX2_begin_88 rfl ?_
      refine Ok.callV (pc' := 92) (av := [pI step]) (rest := [pR 19, pR 19]) dX2_begin_89 rfl (by decide) cvX2_begin_123 (shC_1 _) rfl rfl rfl (leb rfl) (leb rfl) K (fun r2 h2 K => ?_)
      show Ok shC 0 0 mX2_begin 92 [some (pR 19), some (pI step), some (pI v2), none] [pI r2, pR 19, pR 19] h2 Post
      refine Ok.callV (pc' := 95) (av := [pI r2]) (rest := [pR 19]) dX2_begin_92 rfl (by decide) cvX2_begin_129 (shC_19 _) rfl rfl rfl (leb rfl) (leb rfl) K (fun r3 h3 K => ?_)
      show Ok shC 0 0 mX2_begin 95 [some (pR 19), some (pI step), some (pI v2), none] [pI r3, pR 19] h3 Post
      refine Ok.callV (pc' := 98) (av := [pI r3]) (rest := []) dX2_begin_95 rfl (by decide) cvX2_begin_126 (shC_19 _) rfl rfl rfl (leb rfl) (leb rfl) K (fun r_ h4 K => ?_)
      show Ok shC 0 0 mX2_begin 98 [some (pR 19), some (pI step), some (pI v2), none] [] h4 Post
      refine Ok.goto (tgt := 150) dX2_begin_98 rfl ?_
      exact Ok.vret dX2_begin_150 rfl (by decide) K
  · replace K := K.2 c1
    refine Ok.aload_n (pc' := 63) rfl dX2_begin_62 rfl ?_
    refine Ok.aload_n (pc' := 64) rfl dX2_begin_63 rfl ?_
    refine Ok.getR (pc' := 67) (k := 0) dX2_begin_64 rfl (shC_19 _) rfl inX2 (by decide) rfl wd_210 rfl ?_
    refine Ok.iload_n (pc' := 68) rfl dX2_begin_67 rfl ?_
    refine Ok.callV (pc' := 71) (av := [pI step]) (rest := [pR 19]) dX2_begin_68 rfl (by decide) cvX2_begin_123 (shC_1 _) rfl rfl rfl (leb rfl) (leb rfl) K (fun r5 h5 K => ?_)
    show Ok shC 0 0 mX2_begin 71 [some (pR 19), some (pI step), some (pI v2), none] [pI r5, pR 19] h5 Post
    refine Ok.callV (pc' := 74) (av := [pI r5]) (rest := []) dX2_begin_71 rfl (by decide) cvX2_begin_126 (shC_19 _) rfl rfl rfl (leb rfl) (leb rfl) K (fun r_ h6 K => ?_)
    show Ok shC 0 0 mX2_begin 74 [some (pR 19), some (pI step), some (pI v2), none] [] h6 Post
    refine Ok.goto (tgt := 150) dX2_begin_74 rfl ?_
    exact Ok.vret dX2_begin_150 rfl (by decide) K
theorem sX2_deliver_0 {v : Int} {h : Hp} {Post : Int → Hp → Prop}
    (K : inR ((h.2.1 19 9 - 1)) ∧ (((0 ≤ (h.2.1 19 9 - 1)) → ∃ k3 : Nat, (h.2.1 19 9 - 1) = (k3 : Int) ∧ k3 < 480 ∧ (((4 ≤ h.1 26 k3) → Post 0 h) ∧ ((¬ 4 ≤ h.1 26 k3) → inR (((h.2.1 19 9 - 1) * 4)) ∧ (inR ((((h.2.1 19 9 - 1) * 4) + h.1 26 k3)) ∧ (∃ k7 : Nat, (((h.2.1 19 9 - 1) * 4) + h.1 26 k3) = (k7 : Int) ∧ k7 < 1920 ∧ (inR ((h.1 26 k3 + 1)) ∧ (Post 0 (hA (hA h 27 k7 v) 26 k3 (h.1 26 k3 + 1))))))))) ∧ ((¬ 0 ≤ (h.2.1 19 9 - 1)) → Post 0 (hI h 19 14 v)))) :
    Cl shC mX2_deliver [pR 19, pI v] h Post := by
  show Ok shC 0 0 mX2_deliver 0 [some (pR 19), some (pI v), none] [] h Post
  refine Ok.aload_n (pc' := 1) rfl dX2_deliver_0 rfl ?_
  refine Ok.getI (pc' := 4) (z := h.2.1 19 9) (k := 9) dX2_deliver_1 rfl (shC_19 _) rfl inX2 (by decide) rfl rfl wd_219 rfl ?_
  refine Ok.iconst (pc' := 5) in_1 dX2_deliver_4 rfl ?_
  obtain ⟨q1, K⟩ := K
  refine Ok.isub (pc' := 6) dX2_deliver_5 rfl q1 ?_
  refine Ok.istore_n (pc' := 7) (ls' := [some (pR 19), some (pI v), some (pI (h.2.1 19 9 - 1))]) dX2_deliver_6 rfl (by decide) rfl rfl ?_
  refine Ok.iload_n (pc' := 8) rfl dX2_deliver_7 rfl ?_
  refine Ok.if_ge (tgt := 19) dX2_deliver_8 rfl rfl (fun c2 => ?_) (fun c2 => ?_)
  · replace K := K.1 c2
    refine Ok.aload_n (pc' := 20) rfl dX2_deliver_19 rfl ?_
    refine Ok.getR (pc' := 23) (k := 7) dX2_deliver_20 rfl (shC_19 _) rfl inX2 (by decide) rfl wd_217 rfl ?_
    refine Ok.iload_n (pc' := 24) rfl dX2_deliver_23 rfl ?_
    obtain ⟨k3, e3, q3, K⟩ := K
    refine Ok.iald (pc' := 25) (z := h.1 26 k3) dX2_deliver_24 rfl (shC_26 _) (by decide) e3 q3 rfl ?_
    refine Ok.iconst (pc' := 26) in_4 dX2_deliver_25 rfl ?_
    refine Ok.icmp_ge (tgt := 55) dX2_deliver_26 rfl rfl (fun c4 => ?_) (fun c4 => ?_)
    · replace K := K.1 c4
      exact Ok.vret dX2_deliver_55 rfl (by decide) K
    · replace K := K.2 c4
      refine Ok.aload_n (pc' := 30) rfl dX2_deliver_29 rfl ?_
      refine Ok.getR (pc' := 33) (k := 8) dX2_deliver_30 rfl (shC_19 _) rfl inX2 (by decide) rfl wd_218 rfl ?_
      refine Ok.iload_n (pc' := 34) rfl dX2_deliver_33 rfl ?_
      refine Ok.iconst (pc' := 35) in_4 dX2_deliver_34 rfl ?_
      obtain ⟨q5, K⟩ := K
      refine Ok.imul (pc' := 36) dX2_deliver_35 rfl q5 ?_
      refine Ok.aload_n (pc' := 37) rfl dX2_deliver_36 rfl ?_
      refine Ok.getR (pc' := 40) (k := 7) dX2_deliver_37 rfl (shC_19 _) rfl inX2 (by decide) rfl wd_217 rfl ?_
      refine Ok.iload_n (pc' := 41) rfl dX2_deliver_40 rfl ?_
      refine Ok.iald (pc' := 42) (z := h.1 26 k3) dX2_deliver_41 rfl (shC_26 _) (by decide) e3 q3 rfl ?_
      obtain ⟨q6, K⟩ := K
      refine Ok.iadd (pc' := 43) dX2_deliver_42 rfl q6 ?_
      refine Ok.iload_n (pc' := 44) rfl dX2_deliver_43 rfl ?_
      obtain ⟨k7, e7, q7, K⟩ := K
      refine Ok.iast (pc' := 45) dX2_deliver_44 rfl (shC_27 _) (by decide) e7 q7 ?_
      refine Ok.aload_n (pc' := 46) rfl dX2_deliver_45 rfl ?_
      refine Ok.getR (pc' := 49) (k := 7) dX2_deliver_46 rfl (shC_19 _) rfl inX2 (by decide) rfl wd_217 rfl ?_
      refine Ok.iload_n (pc' := 50) rfl dX2_deliver_49 rfl ?_
      refine Ok.dup2 (pc' := 51) dX2_deliver_50 rfl rfl rfl ?_
      refine Ok.iald (pc' := 52) (z := h.1 26 k3) dX2_deliver_51 rfl (shC_26 _) (by decide) e3 q3 rfl ?_
      refine Ok.iconst (pc' := 53) in_1 dX2_deliver_52 rfl ?_
      obtain ⟨q8, K⟩ := K
      refine Ok.iadd (pc' := 54) dX2_deliver_53 rfl q8 ?_
      refine Ok.iast (pc' := 55) dX2_deliver_54 rfl (shC_26 _) (by decide) e3 q3 ?_
      exact Ok.vret dX2_deliver_55 rfl (by decide) K
  · replace K := K.2 c2
    refine Ok.aload_n (pc' := 12) rfl dX2_deliver_11 rfl ?_
    refine Ok.iload_n (pc' := 13) rfl dX2_deliver_12 rfl ?_
    refine Ok.putI (pc' := 16) (k := 14) dX2_deliver_13 rfl (shC_19 _) rfl inX2 tyX2 tyX2_ok nmX2 (by decide) rfl wd_224 rfl rfl (Or.inl rfl) ?_
    refine Ok.goto (tgt := 55) dX2_deliver_16 rfl ?_
    exact Ok.vret dX2_deliver_55 rfl (by decide) K
theorem sX2_finish_0 {v : Int} {h : Hp} {Post : Int → Hp → Prop}
    (K : inR ((h.2.1 19 9 - 1)) ∧ (Cl shC mX2_deliver [pR 19, pI v] (hI h 19 9 (h.2.1 19 9 - 1)) (fun _ h1 => Post 0 h1))) :
    Cl shC mX2_finish [pR 19, pI v] h Post := by
  show Ok shC 0 0 mX2_finish 0 [some (pR 19), some (pI v)] [] h Post
  refine Ok.aload_n (pc' := 1) rfl dX2_finish_0 rfl ?_
  refine Ok.dup (pc' := 2) dX2_finish_1 rfl rfl ?_
  refine Ok.getI (pc' := 5) (z := h.2.1 19 9) (k := 9) dX2_finish_2 rfl (shC_19 _) rfl inX2 (by decide) rfl rfl wd_219 rfl ?_
  refine Ok.iconst (pc' := 6) in_1 dX2_finish_5 rfl ?_
  obtain ⟨q1, K⟩ := K
  refine Ok.isub (pc' := 7) dX2_finish_6 rfl q1 ?_
  refine Ok.putI (pc' := 10) (k := 9) dX2_finish_7 rfl (shC_19 _) rfl inX2 tyX2 tyX2_ok nmX2 (by decide) rfl wd_219 rfl rfl (Or.inl rfl) ?_
  refine Ok.aload_n (pc' := 11) rfl dX2_finish_10 rfl ?_
  refine Ok.iload_n (pc' := 12) rfl dX2_finish_11 rfl ?_
  refine Ok.callV (pc' := 15) (av := [pI v]) (rest := []) dX2_finish_12 rfl (by decide) cvX2_finish_126 (shC_19 _) rfl rfl rfl (leb rfl) (leb rfl) K (fun r_ h1 K => ?_)
  show Ok shC 0 0 mX2_finish 15 [some (pR 19), some (pI v)] [] h1 Post
  exact Ok.vret dX2_finish_15 rfl (by decide) K
theorem sX2_readName_0 {k0 : Int} {h : Hp} {Post : Int → Hp → Prop}
    (K : ((k0 < 0) → Post 0 h) ∧ ((¬ k0 < 0) → ((40 ≤ k0) → Post 0 h) ∧ ((¬ 40 ≤ k0) → ((h.2.1 19 10 ≤ 0) → Post 0 h) ∧ ((¬ h.2.1 19 10 ≤ 0) → inR ((h.2.1 19 10 - 1)) ∧ (inR (((h.2.1 19 10 - 1) * 40)) ∧ (inR ((((h.2.1 19 10 - 1) * 40) + k0)) ∧ (∃ k7 : Nat, (((h.2.1 19 10 - 1) * 40) + k0) = (k7 : Int) ∧ k7 < 480 ∧ (Post (h.1 23 k7) h)))))))) :
    Cl shC mX2_readName [pR 19, pI k0] h Post := by
  show Ok shC 0 0 mX2_readName 0 [some (pR 19), some (pI k0)] [] h Post
  refine Ok.iload_n (pc' := 1) rfl dX2_readName_0 rfl ?_
  refine Ok.if_lt (tgt := 36) dX2_readName_1 rfl rfl (fun c1 => ?_) (fun c1 => ?_)
  · replace K := K.1 c1
    refine Ok.iconst (pc' := 37) in_0 dX2_readName_36 rfl ?_
    exact Ok.iret dX2_readName_37 rfl (by decide) K
  · replace K := K.2 c1
    refine Ok.iload_n (pc' := 5) rfl dX2_readName_4 rfl ?_
    refine Ok.bipush (pc' := 7) ⟨by decide, by decide⟩ dX2_readName_5 rfl ?_
    refine Ok.icmp_ge (tgt := 36) dX2_readName_7 rfl rfl (fun c2 => ?_) (fun c2 => ?_)
    · replace K := K.1 c2
      refine Ok.iconst (pc' := 37) in_0 dX2_readName_36 rfl ?_
      exact Ok.iret dX2_readName_37 rfl (by decide) K
    · replace K := K.2 c2
      refine Ok.aload_n (pc' := 11) rfl dX2_readName_10 rfl ?_
      refine Ok.getI (pc' := 14) (z := h.2.1 19 10) (k := 10) dX2_readName_11 rfl (shC_19 _) rfl inX2 (by decide) rfl rfl wd_220 rfl ?_
      refine Ok.if_le (tgt := 36) dX2_readName_14 rfl rfl (fun c3 => ?_) (fun c3 => ?_)
      · replace K := K.1 c3
        refine Ok.iconst (pc' := 37) in_0 dX2_readName_36 rfl ?_
        exact Ok.iret dX2_readName_37 rfl (by decide) K
      · replace K := K.2 c3
        refine Ok.aload_n (pc' := 18) rfl dX2_readName_17 rfl ?_
        refine Ok.getR (pc' := 21) (k := 4) dX2_readName_18 rfl (shC_19 _) rfl inX2 (by decide) rfl wd_214 rfl ?_
        refine Ok.aload_n (pc' := 22) rfl dX2_readName_21 rfl ?_
        refine Ok.getI (pc' := 25) (z := h.2.1 19 10) (k := 10) dX2_readName_22 rfl (shC_19 _) rfl inX2 (by decide) rfl rfl wd_220 rfl ?_
        refine Ok.iconst (pc' := 26) in_1 dX2_readName_25 rfl ?_
        obtain ⟨q4, K⟩ := K
        refine Ok.isub (pc' := 27) dX2_readName_26 rfl q4 ?_
        refine Ok.bipush (pc' := 29) ⟨by decide, by decide⟩ dX2_readName_27 rfl ?_
        obtain ⟨q5, K⟩ := K
        refine Ok.imul (pc' := 30) dX2_readName_29 rfl q5 ?_
        refine Ok.iload_n (pc' := 31) rfl dX2_readName_30 rfl ?_
        obtain ⟨q6, K⟩ := K
        refine Ok.iadd (pc' := 32) dX2_readName_31 rfl q6 ?_
        obtain ⟨k7, e7, q7, K⟩ := K
        refine Ok.iald (pc' := 33) (z := h.1 23 k7) dX2_readName_32 rfl (shC_23 _) (by decide) e7 q7 rfl ?_
        refine Ok.goto (tgt := 37) dX2_readName_33 rfl ?_
        exact Ok.iret dX2_readName_37 rfl (by decide) K
theorem sX2_writeName_0 {k0 v : Int} {h : Hp} {Post : Int → Hp → Prop}
    (K : ((k0 < 0) → Post 0 h) ∧ ((¬ k0 < 0) → ((40 ≤ k0) → Post 0 h) ∧ ((¬ 40 ≤ k0) → ((h.2.1 19 10 ≤ 0) → Post 0 h) ∧ ((¬ h.2.1 19 10 ≤ 0) → inR ((h.2.1 19 10 - 1)) ∧ (inR (((h.2.1 19 10 - 1) * 40)) ∧ (inR ((((h.2.1 19 10 - 1) * 40) + k0)) ∧ (∃ k7 : Nat, (((h.2.1 19 10 - 1) * 40) + k0) = (k7 : Int) ∧ k7 < 480 ∧ (Post 0 (hA h 23 k7 v))))))))) :
    Cl shC mX2_writeName [pR 19, pI k0, pI v] h Post := by
  show Ok shC 0 0 mX2_writeName 0 [some (pR 19), some (pI k0), some (pI v)] [] h Post
  refine Ok.iload_n (pc' := 1) rfl dX2_writeName_0 rfl ?_
  refine Ok.if_lt (tgt := 34) dX2_writeName_1 rfl rfl (fun c1 => ?_) (fun c1 => ?_)
  · replace K := K.1 c1
    exact Ok.vret dX2_writeName_34 rfl (by decide) K
  · replace K := K.2 c1
    refine Ok.iload_n (pc' := 5) rfl dX2_writeName_4 rfl ?_
    refine Ok.bipush (pc' := 7) ⟨by decide, by decide⟩ dX2_writeName_5 rfl ?_
    refine Ok.icmp_ge (tgt := 34) dX2_writeName_7 rfl rfl (fun c2 => ?_) (fun c2 => ?_)
    · replace K := K.1 c2
      exact Ok.vret dX2_writeName_34 rfl (by decide) K
    · replace K := K.2 c2
      refine Ok.aload_n (pc' := 11) rfl dX2_writeName_10 rfl ?_
      refine Ok.getI (pc' := 14) (z := h.2.1 19 10) (k := 10) dX2_writeName_11 rfl (shC_19 _) rfl inX2 (by decide) rfl rfl wd_220 rfl ?_
      refine Ok.if_le (tgt := 34) dX2_writeName_14 rfl rfl (fun c3 => ?_) (fun c3 => ?_)
      · replace K := K.1 c3
        exact Ok.vret dX2_writeName_34 rfl (by decide) K
      · replace K := K.2 c3
        refine Ok.aload_n (pc' := 18) rfl dX2_writeName_17 rfl ?_
        refine Ok.getR (pc' := 21) (k := 4) dX2_writeName_18 rfl (shC_19 _) rfl inX2 (by decide) rfl wd_214 rfl ?_
        refine Ok.aload_n (pc' := 22) rfl dX2_writeName_21 rfl ?_
        refine Ok.getI (pc' := 25) (z := h.2.1 19 10) (k := 10) dX2_writeName_22 rfl (shC_19 _) rfl inX2 (by decide) rfl rfl wd_220 rfl ?_
        refine Ok.iconst (pc' := 26) in_1 dX2_writeName_25 rfl ?_
        obtain ⟨q4, K⟩ := K
        refine Ok.isub (pc' := 27) dX2_writeName_26 rfl q4 ?_
        refine Ok.bipush (pc' := 29) ⟨by decide, by decide⟩ dX2_writeName_27 rfl ?_
        obtain ⟨q5, K⟩ := K
        refine Ok.imul (pc' := 30) dX2_writeName_29 rfl q5 ?_
        refine Ok.iload_n (pc' := 31) rfl dX2_writeName_30 rfl ?_
        obtain ⟨q6, K⟩ := K
        refine Ok.iadd (pc' := 32) dX2_writeName_31 rfl q6 ?_
        refine Ok.iload_n (pc' := 33) rfl dX2_writeName_32 rfl ?_
        obtain ⟨k7, e7, q7, K⟩ := K
        refine Ok.iast (pc' := 34) dX2_writeName_33 rfl (shC_23 _) (by decide) e7 q7 ?_
        exact Ok.vret dX2_writeName_34 rfl (by decide) K
theorem sX2_advance_0 {frame : Int} {h : Hp} {Post : Int → Hp → Prop}
    (K : ∃ k1 : Nat, frame = (k1 : Int) ∧ k1 < 480 ∧ (Cl shC mX1_kindOf [pR 1, pI (h.1 25 k1)] h (fun r1 h1 => ((r1 < 0) → ((r1 = 3) → Cl shC mX2_advancePick [pR 19, pI frame, pI (h.1 25 k1)] h1 (fun r2 h2 => Post r2 h2)) ∧ ((r1 = 6) → Cl shC mX2_advanceCall [pR 19, pI frame, pI (h.1 25 k1)] h1 (fun r3 h3 => Post r3 h3)) ∧ ((r1 = 8) → Cl shC mX2_advanceWhile [pR 19, pI frame, pI (h.1 25 k1)] h1 (fun r4 h4 => Post r4 h4)) ∧ ((¬ r1 = 3 ∧ ¬ r1 = 6 ∧ ¬ r1 = 8) → ((0 ≤ h1.1 26 k1) → Cl shC mX2_conclude [pR 19, pI frame, pI (h.1 25 k1), pI r1] h1 (fun _ h5 => Post (-4) h5)) ∧ ((¬ 0 ≤ h1.1 26 k1) → Cl shC mX1_partOf [pR 1, pI (h.1 25 k1), pI (h1.1 26 k1)] h1 (fun r6 h6 => Post r6 h6)))) ∧ ((¬ r1 < 0) → ((12 ≤ r1) → ((r1 = 3) → Cl shC mX2_advancePick [pR 19, pI frame, pI (h.1 25 k1)] h1 (fun r7 h7 => Post r7 h7)) ∧ ((r1 = 6) → Cl shC mX2_advanceCall [pR 19, pI frame, pI (h.1 25 k1)] h1 (fun r8 h8 => Post r8 h8)) ∧ ((r1 = 8) → Cl shC mX2_advanceWhile [pR 19, pI frame, pI (h.1 25 k1)] h1 (fun r9 h9 => Post r9 h9)) ∧ ((¬ r1 = 3 ∧ ¬ r1 = 6 ∧ ¬ r1 = 8) → ((0 ≤ h1.1 26 k1) → Cl shC mX2_conclude [pR 19, pI frame, pI (h.1 25 k1), pI r1] h1 (fun _ h10 => Post (-4) h10)) ∧ ((¬ 0 ≤ h1.1 26 k1) → Cl shC mX1_partOf [pR 1, pI (h.1 25 k1), pI (h1.1 26 k1)] h1 (fun r11 h11 => Post r11 h11)))) ∧ ((¬ 12 ≤ r1) → ∃ k4 : Nat, r1 = (k4 : Int) ∧ k4 < 12 ∧ (((r1 = 3) → Cl shC mX2_advancePick [pR 19, pI frame, pI (h.1 25 k1)] h1 (fun r12 h12 => Post r12 h12)) ∧ ((r1 = 6) → Cl shC mX2_advanceCall [pR 19, pI frame, pI (h.1 25 k1)] h1 (fun r13 h13 => Post r13 h13)) ∧ ((r1 = 8) → Cl shC mX2_advanceWhile [pR 19, pI frame, pI (h.1 25 k1)] h1 (fun r14 h14 => Post r14 h14)) ∧ ((¬ r1 = 3 ∧ ¬ r1 = 6 ∧ ¬ r1 = 8) → (((stT 1 k4) ≤ h1.1 26 k1) → Cl shC mX2_conclude [pR 19, pI frame, pI (h.1 25 k1), pI r1] h1 (fun _ h15 => Post (-4) h15)) ∧ ((¬ (stT 1 k4) ≤ h1.1 26 k1) → Cl shC mX1_partOf [pR 1, pI (h.1 25 k1), pI (h1.1 26 k1)] h1 (fun r16 h16 => Post r16 h16))))))))) :
    Cl shC mX2_advance [pR 19, pI frame] h Post := by
  show Ok shC 0 0 mX2_advance 0 [some (pR 19), some (pI frame), none, none, none] [] h Post
  refine Ok.aload_n (pc' := 1) rfl dX2_advance_0 rfl ?_
  refine Ok.getR (pc' := 4) (k := 6) dX2_advance_1 rfl (shC_19 _) rfl inX2 (by decide) rfl wd_216 rfl ?_
  refine Ok.iload_n (pc' := 5) rfl dX2_advance_4 rfl ?_
  obtain ⟨k1, e1, q1, K⟩ := K
  refine Ok.iald (pc' := 6) (z := h.1 25 k1) dX2_advance_5 rfl (shC_25 _) (by decide) e1 q1 rfl ?_
  refine Ok.istore_n (pc' := 7) (ls' := [some (pR 19), some (pI frame), some (pI (h.1 25 k1)), none, none]) dX2_advance_6 rfl (by decide) rfl rfl ?_
  refine Ok.aload_n (pc' := 8) rfl dX2_advance_7 rfl ?_
  refine Ok.getR (pc' := 11) (k := 0) dX2_advance_8 rfl (shC_19 _) rfl inX2 (by decide) rfl wd_210 rfl ?_
  refine Ok.iload_n (pc' := 12) rfl dX2_advance_11 rfl ?_
  refine Ok.callV (pc' := 15) (av := [pI (h.1 25 k1)]) (rest := []) dX2_advance_12 rfl (by decide) cvX2_advance_110 (shC_1 _) rfl rfl rfl (leb rfl) (leb rfl) K (fun r1 h1 K => ?_)
  show Ok shC 0 0 mX2_advance 15 [some (pR 19), some (pI frame), some (pI (h.1 25 k1)), none, none] [pI r1] h1 Post
  refine Ok.istore_n (pc' := 16) (ls' := [some (pR 19), some (pI frame), some (pI (h.1 25 k1)), some (pI r1), none]) dX2_advance_15 rfl (by decide) rfl rfl ?_
  refine Ok.iload_n (pc' := 17) rfl dX2_advance_16 rfl ?_
  refine Ok.if_lt (tgt := 36) dX2_advance_17 rfl rfl (fun c2 => ?_) (fun c2 => ?_)
  · replace K := K.1 c2
    refine Ok.iconst (pc' := 37) in_0 dX2_advance_36 rfl ?_
    refine Ok.istore (pc' := 39) (ls' := [some (pR 19), some (pI frame), some (pI (h.1 25 k1)), some (pI r1), some (pI 0)]) dX2_advance_37 rfl (by decide) rfl rfl ?_
    refine Ok.iload_n (pc' := 40) rfl dX2_advance_39 rfl ?_
    obtain ⟨Kc3_0, Kc3_1, Kc3_2, Kc3_3⟩ := K
    refine Ok.lsw dX2_advance_40 rfl ⟨by decide, by decide⟩ (fun tgt ht => ?_)
    have hx : (r1 = 3) ∨ (r1 = 6) ∨ (r1 = 8) ∨ (¬ r1 = 3 ∧ ¬ r1 = 6 ∧ ¬ r1 = 8) := by omega
    rcases hx with c3 | c3 | c3 | c3
    · obtain rfl : 76 = tgt := by rw [c3] at ht; exact Int.ofNat.inj ht
      have K := Kc3_0 c3
      refine Ok.aload_n (pc' := 77) rfl dX2_advance_76 rfl ?_
      refine Ok.iload_n (pc' := 78) rfl dX2_advance_77 rfl ?_
      refine Ok.iload_n (pc' := 79) rfl dX2_advance_78 rfl ?_
      refine Ok.callV (pc' := 82) (av := [pI frame, pI (h.1 25 k1)]) (rest := []) dX2_advance_79 rfl (by decide) cvX2_advance_135 (shC_19 _) rfl rfl rfl (leb rfl) (leb rfl) K (fun r2 h2 K => ?_)
      show Ok shC 0 0 mX2_advance 82 [some (pR 19), some (pI frame), some (pI (h.1 25 k1)), some (pI r1), some (pI 0)] [pI r2] h2 Post
      exact Ok.iret dX2_advance_82 rfl (by decide) K
    · obtain rfl : 90 = tgt := by rw [c3] at ht; exact Int.ofNat.inj ht
      have K := Kc3_1 c3
      refine Ok.aload_n (pc' := 91) rfl dX2_advance_90 rfl ?_
      refine Ok.iload_n (pc' := 92) rfl dX2_advance_91 rfl ?_
      refine Ok.iload_n (pc' := 93) rfl dX2_advance_92 rfl ?_
      refine Ok.callV (pc' := 96) (av := [pI frame, pI (h.1 25 k1)]) (rest := []) dX2_advance_93 rfl (by decide) cvX2_advance_142 (shC_19 _) rfl rfl rfl (leb rfl) (leb rfl) K (fun r3 h3 K => ?_)
      show Ok shC 0 0 mX2_advance 96 [some (pR 19), some (pI frame), some (pI (h.1 25 k1)), some (pI r1), some (pI 0)] [pI r3] h3 Post
      exact Ok.iret dX2_advance_96 rfl (by decide) K
    · obtain rfl : 83 = tgt := by rw [c3] at ht; exact Int.ofNat.inj ht
      have K := Kc3_2 c3
      refine Ok.aload_n (pc' := 84) rfl dX2_advance_83 rfl ?_
      refine Ok.iload_n (pc' := 85) rfl dX2_advance_84 rfl ?_
      refine Ok.iload_n (pc' := 86) rfl dX2_advance_85 rfl ?_
      refine Ok.callV (pc' := 89) (av := [pI frame, pI (h.1 25 k1)]) (rest := []) dX2_advance_86 rfl (by decide) cvX2_advance_139 (shC_19 _) rfl rfl rfl (leb rfl) (leb rfl) K (fun r4 h4 K => ?_)
      show Ok shC 0 0 mX2_advance 89 [some (pR 19), some (pI frame), some (pI (h.1 25 k1)), some (pI r1), some (pI 0)] [pI r4] h4 Post
      exact Ok.iret dX2_advance_89 rfl (by decide) K
    · obtain rfl : 97 = tgt := by rw [lsw_out3 c3.1 c3.2.1 c3.2.2] at ht; exact Int.ofNat.inj ht
      have K := Kc3_3 c3
      refine Ok.aload_n (pc' := 98) rfl dX2_advance_97 rfl ?_
      refine Ok.getR (pc' := 101) (k := 7) dX2_advance_98 rfl (shC_19 _) rfl inX2 (by decide) rfl wd_217 rfl ?_
      refine Ok.iload_n (pc' := 102) rfl dX2_advance_101 rfl ?_
      refine Ok.iald (pc' := 103) (z := h1.1 26 k1) dX2_advance_102 rfl (shC_26 _) (by decide) e1 q1 rfl ?_
      refine Ok.iload (pc' := 105) rfl dX2_advance_103 rfl ?_
      refine Ok.icmp_ge (tgt := 123) dX2_advance_105 rfl rfl (fun c4 => ?_) (fun c4 => ?_)
      · replace K := K.1 c4
        refine Ok.aload_n (pc' := 124) rfl dX2_advance_123 rfl ?_
        refine Ok.iload_n (pc' := 125) rfl dX2_advance_124 rfl ?_
        refine Ok.iload_n (pc' := 126) rfl dX2_advance_125 rfl ?_
        refine Ok.iload_n (pc' := 127) rfl dX2_advance_126 rfl ?_
        refine Ok.callV (pc' := 130) (av := [pI frame, pI (h.1 25 k1), pI r1]) (rest := []) dX2_advance_127 rfl (by decide) cvX2_advance_148 (shC_19 _) rfl rfl rfl (leb rfl) (leb rfl) K (fun r_ h5 K => ?_)
        show Ok shC 0 0 mX2_advance 130 [some (pR 19), some (pI frame), some (pI (h.1 25 k1)), some (pI r1), some (pI 0)] [] h5 Post
        refine Ok.bipush (pc' := 132) ⟨by decide, by decide⟩ dX2_advance_130 rfl ?_
        exact Ok.iret dX2_advance_132 rfl (by decide) K
      · replace K := K.2 c4
        refine Ok.aload_n (pc' := 109) rfl dX2_advance_108 rfl ?_
        refine Ok.getR (pc' := 112) (k := 0) dX2_advance_109 rfl (shC_19 _) rfl inX2 (by decide) rfl wd_210 rfl ?_
        refine Ok.iload_n (pc' := 113) rfl dX2_advance_112 rfl ?_
        refine Ok.aload_n (pc' := 114) rfl dX2_advance_113 rfl ?_
        refine Ok.getR (pc' := 117) (k := 7) dX2_advance_114 rfl (shC_19 _) rfl inX2 (by decide) rfl wd_217 rfl ?_
        refine Ok.iload_n (pc' := 118) rfl dX2_advance_117 rfl ?_
        refine Ok.iald (pc' := 119) (z := h1.1 26 k1) dX2_advance_118 rfl (shC_26 _) (by decide) e1 q1 rfl ?_
        refine Ok.callV (pc' := 122) (av := [pI (h.1 25 k1), pI (h1.1 26 k1)]) (rest := []) dX2_advance_119 rfl (by decide) cvX2_advance_145 (shC_1 _) rfl rfl rfl (leb rfl) (leb rfl) K (fun r6 h6 K => ?_)
        show Ok shC 0 0 mX2_advance 122 [some (pR 19), some (pI frame), some (pI (h.1 25 k1)), some (pI r1), some (pI 0)] [pI r6] h6 Post
        exact Ok.iret dX2_advance_122 rfl (by decide) K
  · replace K := K.2 c2
    refine Ok.iload_n (pc' := 21) rfl dX2_advance_20 rfl ?_
    refine Ok.getsNe (pc' := 24) 1 (by decide) dX2_advance_21 rfl wd_662 ?_
    refine Ok.getsL (pc' := 25) 1 (by decide) dX2_advance_24 rfl rfl ?_
    refine Ok.icmp_ge (tgt := 36) dX2_advance_25 rfl rfl (fun c3 => ?_) (fun c3 => ?_)
    · replace K := K.1 c3
      refine Ok.iconst (pc' := 37) in_0 dX2_advance_36 rfl ?_
      refine Ok.istore (pc' := 39) (ls' := [some (pR 19), some (pI frame), some (pI (h.1 25 k1)), some (pI r1), some (pI 0)]) dX2_advance_37 rfl (by decide) rfl rfl ?_
      refine Ok.iload_n (pc' := 40) rfl dX2_advance_39 rfl ?_
      obtain ⟨Kc4_0, Kc4_1, Kc4_2, Kc4_3⟩ := K
      refine Ok.lsw dX2_advance_40 rfl ⟨by decide, by decide⟩ (fun tgt ht => ?_)
      have hx : (r1 = 3) ∨ (r1 = 6) ∨ (r1 = 8) ∨ (¬ r1 = 3 ∧ ¬ r1 = 6 ∧ ¬ r1 = 8) := by omega
      rcases hx with c4 | c4 | c4 | c4
      · obtain rfl : 76 = tgt := by rw [c4] at ht; exact Int.ofNat.inj ht
        have K := Kc4_0 c4
        refine Ok.aload_n (pc' := 77) rfl dX2_advance_76 rfl ?_
        refine Ok.iload_n (pc' := 78) rfl dX2_advance_77 rfl ?_
        refine Ok.iload_n (pc' := 79) rfl dX2_advance_78 rfl ?_
        refine Ok.callV (pc' := 82) (av := [pI frame, pI (h.1 25 k1)]) (rest := []) dX2_advance_79 rfl (by decide) cvX2_advance_135 (shC_19 _) rfl rfl rfl (leb rfl) (leb rfl) K (fun r7 h7 K => ?_)
        show Ok shC 0 0 mX2_advance 82 [some (pR 19), some (pI frame), some (pI (h.1 25 k1)), some (pI r1), some (pI 0)] [pI r7] h7 Post
        exact Ok.iret dX2_advance_82 rfl (by decide) K
      · obtain rfl : 90 = tgt := by rw [c4] at ht; exact Int.ofNat.inj ht
        have K := Kc4_1 c4
        refine Ok.aload_n (pc' := 91) rfl dX2_advance_90 rfl ?_
        refine Ok.iload_n (pc' := 92) rfl dX2_advance_91 rfl ?_
        refine Ok.iload_n (pc' := 93) rfl dX2_advance_92 rfl ?_
        refine Ok.callV (pc' := 96) (av := [pI frame, pI (h.1 25 k1)]) (rest := []) dX2_advance_93 rfl (by decide) cvX2_advance_142 (shC_19 _) rfl rfl rfl (leb rfl) (leb rfl) K (fun r8 h8 K => ?_)
        show Ok shC 0 0 mX2_advance 96 [some (pR 19), some (pI frame), some (pI (h.1 25 k1)), some (pI r1), some (pI 0)] [pI r8] h8 Post
        exact Ok.iret dX2_advance_96 rfl (by decide) K
      · obtain rfl : 83 = tgt := by rw [c4] at ht; exact Int.ofNat.inj ht
        have K := Kc4_2 c4
        refine Ok.aload_n (pc' := 84) rfl dX2_advance_83 rfl ?_
        refine Ok.iload_n (pc' := 85) rfl dX2_advance_84 rfl ?_
        refine Ok.iload_n (pc' := 86) rfl dX2_advance_85 rfl ?_
        refine Ok.callV (pc' := 89) (av := [pI frame, pI (h.1 25 k1)]) (rest := []) dX2_advance_86 rfl (by decide) cvX2_advance_139 (shC_19 _) rfl rfl rfl (leb rfl) (leb rfl) K (fun r9 h9 K => ?_)
        show Ok shC 0 0 mX2_advance 89 [some (pR 19), some (pI frame), some (pI (h.1 25 k1)), some (pI r1), some (pI 0)] [pI r9] h9 Post
        exact Ok.iret dX2_advance_89 rfl (by decide) K
      · obtain rfl : 97 = tgt := by rw [lsw_out3 c4.1 c4.2.1 c4.2.2] at ht; exact Int.ofNat.inj ht
        have K := Kc4_3 c4
        refine Ok.aload_n (pc' := 98) rfl dX2_advance_97 rfl ?_
        refine Ok.getR (pc' := 101) (k := 7) dX2_advance_98 rfl (shC_19 _) rfl inX2 (by decide) rfl wd_217 rfl ?_
        refine Ok.iload_n (pc' := 102) rfl dX2_advance_101 rfl ?_
        refine Ok.iald (pc' := 103) (z := h1.1 26 k1) dX2_advance_102 rfl (shC_26 _) (by decide) e1 q1 rfl ?_
        refine Ok.iload (pc' := 105) rfl dX2_advance_103 rfl ?_
        refine Ok.icmp_ge (tgt := 123) dX2_advance_105 rfl rfl (fun c5 => ?_) (fun c5 => ?_)
        · replace K := K.1 c5
          refine Ok.aload_n (pc' := 124) rfl dX2_advance_123 rfl ?_
          refine Ok.iload_n (pc' := 125) rfl dX2_advance_124 rfl ?_
          refine Ok.iload_n (pc' := 126) rfl dX2_advance_125 rfl ?_
          refine Ok.iload_n (pc' := 127) rfl dX2_advance_126 rfl ?_
          refine Ok.callV (pc' := 130) (av := [pI frame, pI (h.1 25 k1), pI r1]) (rest := []) dX2_advance_127 rfl (by decide) cvX2_advance_148 (shC_19 _) rfl rfl rfl (leb rfl) (leb rfl) K (fun r_ h10 K => ?_)
          show Ok shC 0 0 mX2_advance 130 [some (pR 19), some (pI frame), some (pI (h.1 25 k1)), some (pI r1), some (pI 0)] [] h10 Post
          refine Ok.bipush (pc' := 132) ⟨by decide, by decide⟩ dX2_advance_130 rfl ?_
          exact Ok.iret dX2_advance_132 rfl (by decide) K
        · replace K := K.2 c5
          refine Ok.aload_n (pc' := 109) rfl dX2_advance_108 rfl ?_
          refine Ok.getR (pc' := 112) (k := 0) dX2_advance_109 rfl (shC_19 _) rfl inX2 (by decide) rfl wd_210 rfl ?_
          refine Ok.iload_n (pc' := 113) rfl dX2_advance_112 rfl ?_
          refine Ok.aload_n (pc' := 114) rfl dX2_advance_113 rfl ?_
          refine Ok.getR (pc' := 117) (k := 7) dX2_advance_114 rfl (shC_19 _) rfl inX2 (by decide) rfl wd_217 rfl ?_
          refine Ok.iload_n (pc' := 118) rfl dX2_advance_117 rfl ?_
          refine Ok.iald (pc' := 119) (z := h1.1 26 k1) dX2_advance_118 rfl (shC_26 _) (by decide) e1 q1 rfl ?_
          refine Ok.callV (pc' := 122) (av := [pI (h.1 25 k1), pI (h1.1 26 k1)]) (rest := []) dX2_advance_119 rfl (by decide) cvX2_advance_145 (shC_1 _) rfl rfl rfl (leb rfl) (leb rfl) K (fun r11 h11 K => ?_)
          show Ok shC 0 0 mX2_advance 122 [some (pR 19), some (pI frame), some (pI (h.1 25 k1)), some (pI r1), some (pI 0)] [pI r11] h11 Post
          exact Ok.iret dX2_advance_122 rfl (by decide) K
    · replace K := K.2 c3
      refine Ok.getsNe (pc' := 31) 1 (by decide) dX2_advance_28 rfl wd_662 ?_
      refine Ok.iload_n (pc' := 32) rfl dX2_advance_31 rfl ?_
      obtain ⟨k4, e4, q4, K⟩ := K
      refine Ok.getsN (pc' := 33) 1 (by decide) dX2_advance_32 rfl rfl e4 q4 ?_
      refine Ok.goto (tgt := 37) dX2_advance_33 rfl ?_
      refine Ok.istore (pc' := 39) (ls' := [some (pR 19), some (pI frame), some (pI (h.1 25 k1)), some (pI r1), some (pI (stT 1 k4))]) dX2_advance_37 rfl (by decide) rfl rfl ?_
      refine Ok.iload_n (pc' := 40) rfl dX2_advance_39 rfl ?_
      obtain ⟨Kc5_0, Kc5_1, Kc5_2, Kc5_3⟩ := K
      refine Ok.lsw dX2_advance_40 rfl ⟨by decide, by decide⟩ (fun tgt ht => ?_)
      have hx : (r1 = 3) ∨ (r1 = 6) ∨ (r1 = 8) ∨ (¬ r1 = 3 ∧ ¬ r1 = 6 ∧ ¬ r1 = 8) := by omega
      rcases hx with c5 | c5 | c5 | c5
      · obtain rfl : 76 = tgt := by rw [c5] at ht; exact Int.ofNat.inj ht
        have K := Kc5_0 c5
        refine Ok.aload_n (pc' := 77) rfl dX2_advance_76 rfl ?_
        refine Ok.iload_n (pc' := 78) rfl dX2_advance_77 rfl ?_
        refine Ok.iload_n (pc' := 79) rfl dX2_advance_78 rfl ?_
        refine Ok.callV (pc' := 82) (av := [pI frame, pI (h.1 25 k1)]) (rest := []) dX2_advance_79 rfl (by decide) cvX2_advance_135 (shC_19 _) rfl rfl rfl (leb rfl) (leb rfl) K (fun r12 h12 K => ?_)
        show Ok shC 0 0 mX2_advance 82 [some (pR 19), some (pI frame), some (pI (h.1 25 k1)), some (pI r1), some (pI (stT 1 k4))] [pI r12] h12 Post
        exact Ok.iret dX2_advance_82 rfl (by decide) K
      · obtain rfl : 90 = tgt := by rw [c5] at ht; exact Int.ofNat.inj ht
        have K := Kc5_1 c5
        refine Ok.aload_n (pc' := 91) rfl dX2_advance_90 rfl ?_
        refine Ok.iload_n (pc' := 92) rfl dX2_advance_91 rfl ?_
        refine Ok.iload_n (pc' := 93) rfl dX2_advance_92 rfl ?_
        refine Ok.callV (pc' := 96) (av := [pI frame, pI (h.1 25 k1)]) (rest := []) dX2_advance_93 rfl (by decide) cvX2_advance_142 (shC_19 _) rfl rfl rfl (leb rfl) (leb rfl) K (fun r13 h13 K => ?_)
        show Ok shC 0 0 mX2_advance 96 [some (pR 19), some (pI frame), some (pI (h.1 25 k1)), some (pI r1), some (pI (stT 1 k4))] [pI r13] h13 Post
        exact Ok.iret dX2_advance_96 rfl (by decide) K
      · obtain rfl : 83 = tgt := by rw [c5] at ht; exact Int.ofNat.inj ht
        have K := Kc5_2 c5
        refine Ok.aload_n (pc' := 84) rfl dX2_advance_83 rfl ?_
        refine Ok.iload_n (pc' := 85) rfl dX2_advance_84 rfl ?_
        refine Ok.iload_n (pc' := 86) rfl dX2_advance_85 rfl ?_
        refine Ok.callV (pc' := 89) (av := [pI frame, pI (h.1 25 k1)]) (rest := []) dX2_advance_86 rfl (by decide) cvX2_advance_139 (shC_19 _) rfl rfl rfl (leb rfl) (leb rfl) K (fun r14 h14 K => ?_)
        show Ok shC 0 0 mX2_advance 89 [some (pR 19), some (pI frame), some (pI (h.1 25 k1)), some (pI r1), some (pI (stT 1 k4))] [pI r14] h14 Post
        exact Ok.iret dX2_advance_89 rfl (by decide) K
      · obtain rfl : 97 = tgt := by rw [lsw_out3 c5.1 c5.2.1 c5.2.2] at ht; exact Int.ofNat.inj ht
        have K := Kc5_3 c5
        refine Ok.aload_n (pc' := 98) rfl dX2_advance_97 rfl ?_
        refine Ok.getR (pc' := 101) (k := 7) dX2_advance_98 rfl (shC_19 _) rfl inX2 (by decide) rfl wd_217 rfl ?_
        refine Ok.iload_n (pc' := 102) rfl dX2_advance_101 rfl ?_
        refine Ok.iald (pc' := 103) (z := h1.1 26 k1) dX2_advance_102 rfl (shC_26 _) (by decide) e1 q1 rfl ?_
        refine Ok.iload (pc' := 105) rfl dX2_advance_103 rfl ?_
        refine Ok.icmp_ge (tgt := 123) dX2_advance_105 rfl rfl (fun c6 => ?_) (fun c6 => ?_)
        · replace K := K.1 c6
          refine Ok.aload_n (pc' := 124) rfl dX2_advance_123 rfl ?_
          refine Ok.iload_n (pc' := 125) rfl dX2_advance_124 rfl ?_
          refine Ok.iload_n (pc' := 126) rfl dX2_advance_125 rfl ?_
          refine Ok.iload_n (pc' := 127) rfl dX2_advance_126 rfl ?_
          refine Ok.callV (pc' := 130) (av := [pI frame, pI (h.1 25 k1), pI r1]) (rest := []) dX2_advance_127 rfl (by decide) cvX2_advance_148 (shC_19 _) rfl rfl rfl (leb rfl) (leb rfl) K (fun r_ h15 K => ?_)
          show Ok shC 0 0 mX2_advance 130 [some (pR 19), some (pI frame), some (pI (h.1 25 k1)), some (pI r1), some (pI (stT 1 k4))] [] h15 Post
          refine Ok.bipush (pc' := 132) ⟨by decide, by decide⟩ dX2_advance_130 rfl ?_
          exact Ok.iret dX2_advance_132 rfl (by decide) K
        · replace K := K.2 c6
          refine Ok.aload_n (pc' := 109) rfl dX2_advance_108 rfl ?_
          refine Ok.getR (pc' := 112) (k := 0) dX2_advance_109 rfl (shC_19 _) rfl inX2 (by decide) rfl wd_210 rfl ?_
          refine Ok.iload_n (pc' := 113) rfl dX2_advance_112 rfl ?_
          refine Ok.aload_n (pc' := 114) rfl dX2_advance_113 rfl ?_
          refine Ok.getR (pc' := 117) (k := 7) dX2_advance_114 rfl (shC_19 _) rfl inX2 (by decide) rfl wd_217 rfl ?_
          refine Ok.iload_n (pc' := 118) rfl dX2_advance_117 rfl ?_
          refine Ok.iald (pc' := 119) (z := h1.1 26 k1) dX2_advance_118 rfl (shC_26 _) (by decide) e1 q1 rfl ?_
          refine Ok.callV (pc' := 122) (av := [pI (h.1 25 k1), pI (h1.1 26 k1)]) (rest := []) dX2_advance_119 rfl (by decide) cvX2_advance_145 (shC_1 _) rfl rfl rfl (leb rfl) (leb rfl) K (fun r16 h16 K => ?_)
          show Ok shC 0 0 mX2_advance 122 [some (pR 19), some (pI frame), some (pI (h.1 25 k1)), some (pI r1), some (pI (stT 1 k4))] [pI r16] h16 Post
          exact Ok.iret dX2_advance_122 rfl (by decide) K
theorem sX2_advancePick_0 {frame step : Int} {h : Hp} {Post : Int → Hp → Prop}
    (K : ∃ k1 : Nat, frame = (k1 : Int) ∧ k1 < 480 ∧ (((¬ h.1 26 k1 = 0) → ((¬ h.1 26 k1 = 1) → inR ((frame * 4)) ∧ (inR (((frame * 4) + 1)) ∧ (∃ k6 : Nat, ((frame * 4) + 1) = (k6 : Int) ∧ k6 < 1920 ∧ (Cl shC mX2_finish [pR 19, pI (h.1 27 k6)] h (fun _ h1 => Post (-4) h1))))) ∧ ((h.1 26 k1 = 1) → inR ((frame * 4)) ∧ (∃ k5 : Nat, (frame * 4) = (k5 : Int) ∧ k5 < 1920 ∧ (((h.1 27 k5 = 0) → Cl shC mX1_partOf [pR 1, pI step, pI 2] h (fun r2 h2 => Post r2 h2)) ∧ ((¬ h.1 27 k5 = 0) → Cl shC mX1_partOf [pR 1, pI step, pI 1] h (fun r3 h3 => Post r3 h3)))))) ∧ ((h.1 26 k1 = 0) → Cl shC mX1_partOf [pR 1, pI step, pI 0] h (fun r4 h4 => Post r4 h4)))) :
    Cl shC mX2_advancePick [pR 19, pI frame, pI step] h Post := by
  show Ok shC 0 0 mX2_advancePick 0 [some (pR 19), some (pI frame), some (pI step)] [] h Post
  refine Ok.aload_n (pc' := 1) rfl dX2_advancePick_0 rfl ?_
  refine Ok.getR (pc' := 4) (k := 7) dX2_advancePick_1 rfl (shC_19 _) rfl inX2 (by decide) rfl wd_217 rfl ?_
  refine Ok.iload_n (pc' := 5) rfl dX2_advancePick_4 rfl ?_
  obtain ⟨k1, e1, q1, K⟩ := K
  refine Ok.iald (pc' := 6) (z := h.1 26 k1) dX2_advancePick_5 rfl (shC_26 _) (by decide) e1 q1 rfl ?_
  refine Ok.if_ne (tgt := 19) dX2_advancePick_6 rfl rfl (fun c2 => ?_) (fun c2 => ?_)
  · replace K := K.1 c2
    refine Ok.aload_n (pc' := 20) rfl dX2_advancePick_19 rfl ?_
    refine Ok.getR (pc' := 23) (k := 7) dX2_advancePick_20 rfl (shC_19 _) rfl inX2 (by decide) rfl wd_217 rfl ?_
    refine Ok.iload_n (pc' := 24) rfl dX2_advancePick_23 rfl ?_
    refine Ok.iald (pc' := 25) (z := h.1 26 k1) dX2_advancePick_24 rfl (shC_26 _) (by decide) e1 q1 rfl ?_
    refine Ok.iconst (pc' := 26) in_1 dX2_advancePick_25 rfl ?_
    refine Ok.icmp_ne (tgt := 54) dX2_advancePick_26 rfl rfl (fun c3 => ?_) (fun c3 => ?_)
    · replace K := K.1 c3
      refine Ok.aload_n (pc' := 55) rfl dX2_advancePick_54 rfl ?_
      refine Ok.aload_n (pc' := 56) rfl dX2_advancePick_55 rfl ?_
      refine Ok.getR (pc' := 59) (k := 8) dX2_advancePick_56 rfl (shC_19 _) rfl inX2 (by decide) rfl wd_218 rfl ?_
      refine Ok.iload_n (pc' := 60) rfl dX2_advancePick_59 rfl ?_
      refine Ok.iconst (pc' := 61) in_4 dX2_advancePick_60 rfl ?_
      obtain ⟨q4, K⟩ := K
      refine Ok.imul (pc' := 62) dX2_advancePick_61 rfl q4 ?_
      refine Ok.iconst (pc' := 63) in_1 dX2_advancePick_62 rfl ?_
      obtain ⟨q5, K⟩ := K
      refine Ok.iadd (pc' := 64) dX2_advancePick_63 rfl q5 ?_
      obtain ⟨k6, e6, q6, K⟩ := K
      refine Ok.iald (pc' := 65) (z := h.1 27 k6) dX2_advancePick_64 rfl (shC_27 _) (by decide) e6 q6 rfl ?_
      refine Ok.callV (pc' := 68) (av := [pI (h.1 27 k6)]) (rest := []) dX2_advancePick_65 rfl (by decide) cvX2_advancePick_152 (shC_19 _) rfl rfl rfl (leb rfl) (leb rfl) K (fun r_ h1 K => ?_)
      show Ok shC 0 0 mX2_advancePick 68 [some (pR 19), some (pI frame), some (pI step)] [] h1 Post
      refine Ok.bipush (pc' := 70) ⟨by decide, by decide⟩ dX2_advancePick_68 rfl ?_
      exact Ok.iret dX2_advancePick_70 rfl (by decide) K
    · replace K := K.2 c3
      refine Ok.aload_n (pc' := 30) rfl dX2_advancePick_29 rfl ?_
      refine Ok.getR (pc' := 33) (k := 0) dX2_advancePick_30 rfl (shC_19 _) rfl inX2 (by decide) rfl wd_210 rfl ?_
      refine Ok.iload_n (pc' := 34) rfl dX2_advancePick_33 rfl ?_
      refine Ok.aload_n (pc' := 35) rfl dX2_advancePick_34 rfl ?_
      refine Ok.getR (pc' := 38) (k := 8) dX2_advancePick_35 rfl (shC_19 _) rfl inX2 (by decide) rfl wd_218 rfl ?_
      refine Ok.iload_n (pc' := 39) rfl dX2_advancePick_38 rfl ?_
      refine Ok.iconst (pc' := 40) in_4 dX2_advancePick_39 rfl ?_
      obtain ⟨q4, K⟩ := K
      refine Ok.imul (pc' := 41) dX2_advancePick_40 rfl q4 ?_
      obtain ⟨k5, e5, q5, K⟩ := K
      refine Ok.iald (pc' := 42) (z := h.1 27 k5) dX2_advancePick_41 rfl (shC_27 _) (by decide) e5 q5 rfl ?_
      refine Ok.if_eq (tgt := 49) dX2_advancePick_42 rfl rfl (fun c6 => ?_) (fun c6 => ?_)
      · replace K := K.1 c6
        refine Ok.iconst (pc' := 50) in_2 dX2_advancePick_49 rfl ?_
        refine Ok.callV (pc' := 53) (av := [pI step, pI 2]) (rest := []) dX2_advancePick_50 rfl (by decide) cvX2_advancePick_145 (shC_1 _) rfl rfl rfl (leb rfl) (leb rfl) K (fun r2 h2 K => ?_)
        show Ok shC 0 0 mX2_advancePick 53 [some (pR 19), some (pI frame), some (pI step)] [pI r2] h2 Post
        exact Ok.iret dX2_advancePick_53 rfl (by decide) K
      · replace K := K.2 c6
        refine Ok.iconst (pc' := 46) in_1 dX2_advancePick_45 rfl ?_
        refine Ok.goto (tgt := 50) dX2_advancePick_46 rfl ?_
        refine Ok.callV (pc' := 53) (av := [pI step, pI 1]) (rest := []) dX2_advancePick_50 rfl (by decide) cvX2_advancePick_145 (shC_1 _) rfl rfl rfl (leb rfl) (leb rfl) K (fun r3 h3 K => ?_)
        show Ok shC 0 0 mX2_advancePick 53 [some (pR 19), some (pI frame), some (pI step)] [pI r3] h3 Post
        exact Ok.iret dX2_advancePick_53 rfl (by decide) K
  · replace K := K.2 c2
    refine Ok.aload_n (pc' := 10) rfl dX2_advancePick_9 rfl ?_
    refine Ok.getR (pc' := 13) (k := 0) dX2_advancePick_10 rfl (shC_19 _) rfl inX2 (by decide) rfl wd_210 rfl ?_
    refine Ok.iload_n (pc' := 14) rfl dX2_advancePick_13 rfl ?_
    refine Ok.iconst (pc' := 15) in_0 dX2_advancePick_14 rfl ?_
    refine Ok.callV (pc' := 18) (av := [pI step, pI 0]) (rest := []) dX2_advancePick_15 rfl (by decide) cvX2_advancePick_145 (shC_1 _) rfl rfl rfl (leb rfl) (leb rfl) K (fun r4 h4 K => ?_)
    show Ok shC 0 0 mX2_advancePick 18 [some (pR 19), some (pI frame), some (pI step)] [pI r4] h4 Post
    exact Ok.iret dX2_advancePick_18 rfl (by decide) K
theorem sX2_advanceWhile_0 {frame step : Int} {h : Hp} {Post : Int → Hp → Prop}
    (K : ∃ k1 : Nat, frame = (k1 : Int) ∧ k1 < 480 ∧ (((¬ h.1 26 k1 = 2) → ((¬ h.1 26 k1 = 0) → inR ((frame * 4)) ∧ (∃ k5 : Nat, (frame * 4) = (k5 : Int) ∧ k5 < 1920 ∧ (((h.1 27 k5 = 0) → Cl shC mX2_finish [pR 19, pI 0] h (fun _ h1 => Post (-4) h1)) ∧ ((¬ h.1 27 k5 = 0) → Cl shC mX1_partOf [pR 1, pI step, pI 1] h (fun r2 h2 => Post r2 h2))))) ∧ ((h.1 26 k1 = 0) → Cl shC mX1_partOf [pR 1, pI step, pI 0] h (fun r3 h3 => Post r3 h3))) ∧ ((h.1 26 k1 = 2) → Cl shC mX2_pay [pR 19, pI step, pI (stT 0 8)] h (fun r4 h4 => ((¬ r4 = 0) → ((¬ (hA h4 26 k1 0).1 26 k1 = 0) → inR ((frame * 4)) ∧ (∃ k6 : Nat, (frame * 4) = (k6 : Int) ∧ k6 < 1920 ∧ (((h4.1 27 k6 = 0) → Cl shC mX2_finish [pR 19, pI 0] (hA h4 26 k1 0) (fun _ h5 => Post (-4) h5)) ∧ ((¬ h4.1 27 k6 = 0) → Cl shC mX1_partOf [pR 1, pI step, pI 1] (hA h4 26 k1 0) (fun r6 h6 => Post r6 h6))))) ∧ (((hA h4 26 k1 0).1 26 k1 = 0) → Cl shC mX1_partOf [pR 1, pI step, pI 0] (hA h4 26 k1 0) (fun r7 h7 => Post r7 h7))) ∧ ((r4 = 0) → Post (-4) h4))))) :
    Cl shC mX2_advanceWhile [pR 19, pI frame, pI step] h Post := by
  show Ok shC 0 0 mX2_advanceWhile 0 [some (pR 19), some (pI frame), some (pI step)] [] h Post
  refine Ok.aload_n (pc' := 1) rfl dX2_advanceWhile_0 rfl ?_
  refine Ok.getR (pc' := 4) (k := 7) dX2_advanceWhile_1 rfl (shC_19 _) rfl inX2 (by decide) rfl wd_217 rfl ?_
  refine Ok.iload_n (pc' := 5) rfl dX2_advanceWhile_4 rfl ?_
  obtain ⟨k1, e1, q1, K⟩ := K
  refine Ok.iald (pc' := 6) (z := h.1 26 k1) dX2_advanceWhile_5 rfl (shC_26 _) (by decide) e1 q1 rfl ?_
  refine Ok.iconst (pc' := 7) in_2 dX2_advanceWhile_6 rfl ?_
  refine Ok.icmp_ne (tgt := 34) dX2_advanceWhile_7 rfl rfl (fun c2 => ?_) (fun c2 => ?_)
  · replace K := K.1 c2
    refine Ok.aload_n (pc' := 35) rfl dX2_advanceWhile_34 rfl ?_
    refine Ok.getR (pc' := 38) (k := 7) dX2_advanceWhile_35 rfl (shC_19 _) rfl inX2 (by decide) rfl wd_217 rfl ?_
    refine Ok.iload_n (pc' := 39) rfl dX2_advanceWhile_38 rfl ?_
    refine Ok.iald (pc' := 40) (z := h.1 26 k1) dX2_advanceWhile_39 rfl (shC_26 _) (by decide) e1 q1 rfl ?_
    refine Ok.if_ne (tgt := 53) dX2_advanceWhile_40 rfl rfl (fun c3 => ?_) (fun c3 => ?_)
    · replace K := K.1 c3
      refine Ok.aload_n (pc' := 54) rfl dX2_advanceWhile_53 rfl ?_
      refine Ok.getR (pc' := 57) (k := 8) dX2_advanceWhile_54 rfl (shC_19 _) rfl inX2 (by decide) rfl wd_218 rfl ?_
      refine Ok.iload_n (pc' := 58) rfl dX2_advanceWhile_57 rfl ?_
      refine Ok.iconst (pc' := 59) in_4 dX2_advanceWhile_58 rfl ?_
      obtain ⟨q4, K⟩ := K
      refine Ok.imul (pc' := 60) dX2_advanceWhile_59 rfl q4 ?_
      obtain ⟨k5, e5, q5, K⟩ := K
      refine Ok.iald (pc' := 61) (z := h.1 27 k5) dX2_advanceWhile_60 rfl (shC_27 _) (by decide) e5 q5 rfl ?_
      refine Ok.if_eq (tgt := 74) dX2_advanceWhile_61 rfl rfl (fun c6 => ?_) (fun c6 => ?_)
      · replace K := K.1 c6
        refine Ok.aload_n (pc' := 75) rfl dX2_advanceWhile_74 rfl ?_
        refine Ok.iconst (pc' := 76) in_0 dX2_advanceWhile_75 rfl ?_
        refine Ok.callV (pc' := 79) (av := [pI 0]) (rest := []) dX2_advanceWhile_76 rfl (by decide) cvX2_advanceWhile_152 (shC_19 _) rfl rfl rfl (leb rfl) (leb rfl) K (fun r_ h1 K => ?_)
        show Ok shC 0 0 mX2_advanceWhile 79 [some (pR 19), some (pI frame), some (pI step)] [] h1 Post
        refine Ok.bipush (pc' := 81) ⟨by decide, by decide⟩ dX2_advanceWhile_79 rfl ?_
        exact Ok.iret dX2_advanceWhile_81 rfl (by decide) K
      · replace K := K.2 c6
        refine Ok.aload_n (pc' := 65) rfl dX2_advanceWhile_64 rfl ?_
        refine Ok.getR (pc' := 68) (k := 0) dX2_advanceWhile_65 rfl (shC_19 _) rfl inX2 (by decide) rfl wd_210 rfl ?_
        refine Ok.iload_n (pc' := 69) rfl dX2_advanceWhile_68 rfl ?_
        refine Ok.iconst (pc' := 70) in_1 dX2_advanceWhile_69 rfl ?_
        refine Ok.callV (pc' := 73) (av := [pI step, pI 1]) (rest := []) dX2_advanceWhile_70 rfl (by decide) cvX2_advanceWhile_145 (shC_1 _) rfl rfl rfl (leb rfl) (leb rfl) K (fun r2 h2 K => ?_)
        show Ok shC 0 0 mX2_advanceWhile 73 [some (pR 19), some (pI frame), some (pI step)] [pI r2] h2 Post
        exact Ok.iret dX2_advanceWhile_73 rfl (by decide) K
    · replace K := K.2 c3
      refine Ok.aload_n (pc' := 44) rfl dX2_advanceWhile_43 rfl ?_
      refine Ok.getR (pc' := 47) (k := 0) dX2_advanceWhile_44 rfl (shC_19 _) rfl inX2 (by decide) rfl wd_210 rfl ?_
      refine Ok.iload_n (pc' := 48) rfl dX2_advanceWhile_47 rfl ?_
      refine Ok.iconst (pc' := 49) in_0 dX2_advanceWhile_48 rfl ?_
      refine Ok.callV (pc' := 52) (av := [pI step, pI 0]) (rest := []) dX2_advanceWhile_49 rfl (by decide) cvX2_advanceWhile_145 (shC_1 _) rfl rfl rfl (leb rfl) (leb rfl) K (fun r3 h3 K => ?_)
      show Ok shC 0 0 mX2_advanceWhile 52 [some (pR 19), some (pI frame), some (pI step)] [pI r3] h3 Post
      exact Ok.iret dX2_advanceWhile_52 rfl (by decide) K
  · replace K := K.2 c2
    refine Ok.aload_n (pc' := 11) rfl dX2_advanceWhile_10 rfl ?_
    refine Ok.iload_n (pc' := 12) rfl dX2_advanceWhile_11 rfl ?_
    refine Ok.getsNe (pc' := 15) 0 (by decide) dX2_advanceWhile_12 rfl wd_638 ?_
    refine Ok.bipush (pc' := 17) ⟨by decide, by decide⟩ dX2_advanceWhile_15 rfl ?_
    refine Ok.getsN (pc' := 18) 0 (by decide) dX2_advanceWhile_17 rfl rfl rfl (by decide) ?_
    refine Ok.callV (pc' := 21) (av := [pI step, pI (stT 0 8)]) (rest := []) dX2_advanceWhile_18 rfl (by decide) cvX2_advanceWhile_116 (shC_19 _) rfl rfl rfl (leb rfl) (leb rfl) K (fun r4 h4 K => ?_)
    show Ok shC 0 0 mX2_advanceWhile 21 [some (pR 19), some (pI frame), some (pI step)] [pI r4] h4 Post
    refine Ok.if_ne (tgt := 27) dX2_advanceWhile_21 rfl rfl (fun c3 => ?_) (fun c3 => ?_)
    · replace K := K.1 c3
      refine Ok.aload_n (pc' := 28) rfl dX2_advanceWhile_27 rfl ?_
      refine Ok.getR (pc' := 31) (k := 7) dX2_advanceWhile_28 rfl (shC_19 _) rfl inX2 (by decide) rfl wd_217 rfl ?_
      refine Ok.iload_n (pc' := 32) rfl dX2_advanceWhile_31 rfl ?_
      refine Ok.iconst (pc' := 33) in_0 dX2_advanceWhile_32 rfl ?_
      refine Ok.iast (pc' := 34) dX2_advanceWhile_33 rfl (shC_26 _) (by decide) e1 q1 ?_
      refine Ok.aload_n (pc' := 35) rfl dX2_advanceWhile_34 rfl ?_
      refine Ok.getR (pc' := 38) (k := 7) dX2_advanceWhile_35 rfl (shC_19 _) rfl inX2 (by decide) rfl wd_217 rfl ?_
      refine Ok.iload_n (pc' := 39) rfl dX2_advanceWhile_38 rfl ?_
      refine Ok.iald (pc' := 40) (z := (hA h4 26 k1 0).1 26 k1) dX2_advanceWhile_39 rfl (shC_26 _) (by decide) e1 q1 rfl ?_
      refine Ok.if_ne (tgt := 53) dX2_advanceWhile_40 rfl rfl (fun c4 => ?_) (fun c4 => ?_)
      · replace K := K.1 c4
        refine Ok.aload_n (pc' := 54) rfl dX2_advanceWhile_53 rfl ?_
        refine Ok.getR (pc' := 57) (k := 8) dX2_advanceWhile_54 rfl (shC_19 _) rfl inX2 (by decide) rfl wd_218 rfl ?_
        refine Ok.iload_n (pc' := 58) rfl dX2_advanceWhile_57 rfl ?_
        refine Ok.iconst (pc' := 59) in_4 dX2_advanceWhile_58 rfl ?_
        obtain ⟨q5, K⟩ := K
        refine Ok.imul (pc' := 60) dX2_advanceWhile_59 rfl q5 ?_
        obtain ⟨k6, e6, q6, K⟩ := K
        refine Ok.iald (pc' := 61) (z := h4.1 27 k6) dX2_advanceWhile_60 rfl (shC_27 _) (by decide) e6 q6 rfl ?_
        refine Ok.if_eq (tgt := 74) dX2_advanceWhile_61 rfl rfl (fun c7 => ?_) (fun c7 => ?_)
        · replace K := K.1 c7
          refine Ok.aload_n (pc' := 75) rfl dX2_advanceWhile_74 rfl ?_
          refine Ok.iconst (pc' := 76) in_0 dX2_advanceWhile_75 rfl ?_
          refine Ok.callV (pc' := 79) (av := [pI 0]) (rest := []) dX2_advanceWhile_76 rfl (by decide) cvX2_advanceWhile_152 (shC_19 _) rfl rfl rfl (leb rfl) (leb rfl) K (fun r_ h5 K => ?_)
          show Ok shC 0 0 mX2_advanceWhile 79 [some (pR 19), some (pI frame), some (pI step)] [] h5 Post
          refine Ok.bipush (pc' := 81) ⟨by decide, by decide⟩ dX2_advanceWhile_79 rfl ?_
          exact Ok.iret dX2_advanceWhile_81 rfl (by decide) K
        · replace K := K.2 c7
          refine Ok.aload_n (pc' := 65) rfl dX2_advanceWhile_64 rfl ?_
          refine Ok.getR (pc' := 68) (k := 0) dX2_advanceWhile_65 rfl (shC_19 _) rfl inX2 (by decide) rfl wd_210 rfl ?_
          refine Ok.iload_n (pc' := 69) rfl dX2_advanceWhile_68 rfl ?_
          refine Ok.iconst (pc' := 70) in_1 dX2_advanceWhile_69 rfl ?_
          refine Ok.callV (pc' := 73) (av := [pI step, pI 1]) (rest := []) dX2_advanceWhile_70 rfl (by decide) cvX2_advanceWhile_145 (shC_1 _) rfl rfl rfl (leb rfl) (leb rfl) K (fun r6 h6 K => ?_)
          show Ok shC 0 0 mX2_advanceWhile 73 [some (pR 19), some (pI frame), some (pI step)] [pI r6] h6 Post
          exact Ok.iret dX2_advanceWhile_73 rfl (by decide) K
      · replace K := K.2 c4
        refine Ok.aload_n (pc' := 44) rfl dX2_advanceWhile_43 rfl ?_
        refine Ok.getR (pc' := 47) (k := 0) dX2_advanceWhile_44 rfl (shC_19 _) rfl inX2 (by decide) rfl wd_210 rfl ?_
        refine Ok.iload_n (pc' := 48) rfl dX2_advanceWhile_47 rfl ?_
        refine Ok.iconst (pc' := 49) in_0 dX2_advanceWhile_48 rfl ?_
        refine Ok.callV (pc' := 52) (av := [pI step, pI 0]) (rest := []) dX2_advanceWhile_49 rfl (by decide) cvX2_advanceWhile_145 (shC_1 _) rfl rfl rfl (leb rfl) (leb rfl) K (fun r7 h7 K => ?_)
        show Ok shC 0 0 mX2_advanceWhile 52 [some (pR 19), some (pI frame), some (pI step)] [pI r7] h7 Post
        exact Ok.iret dX2_advanceWhile_52 rfl (by decide) K
    · replace K := K.2 c3
      refine Ok.bipush (pc' := 26) ⟨by decide, by decide⟩ dX2_advanceWhile_24 rfl ?_
      exact Ok.iret dX2_advanceWhile_26 rfl (by decide) K
theorem sX2_advanceCall_0 {frame step : Int} {h : Hp} {Post : Int → Hp → Prop}
    (K : Cl shC mX1_numberOf [pR 1, pI step] h (fun r1 h1 => Cl shC mX1_paramsOf [pR 1, pI r1] h1 (fun r2 h2 => ∃ k1 : Nat, frame = (k1 : Int) ∧ k1 < 480 ∧ (((r2 ≤ h2.1 26 k1) → ((¬ h2.1 26 k1 = r2) → inR ((h2.2.1 19 10 - 1)) ∧ (inR ((frame * 4)) ∧ (inR (((frame * 4) + (min r2 3))) ∧ (∃ k7 : Nat, ((frame * 4) + (min r2 3)) = (k7 : Int) ∧ k7 < 1920 ∧ (Cl shC mX2_finish [pR 19, pI (h2.1 27 k7)] (hI h2 19 10 (h2.2.1 19 10 - 1)) (fun _ h3 => Post (-4) h3)))))) ∧ ((h2.1 26 k1 = r2) → Cl shC mX2_enter [pR 19, pI frame, pI step, pI r1] h2 (fun r4 h4 => ((r4 = 0) → Post (-4) h4) ∧ ((¬ r4 = 0) → Cl shC mX1_bodyOf [pR 1, pI r1] h4 (fun r5 h5 => Post r5 h5))))) ∧ ((¬ r2 ≤ h2.1 26 k1) → Cl shC mX1_partOf [pR 1, pI step, pI (h2.1 26 k1)] h2 (fun r6 h6 => Post r6 h6)))))) :
    Cl shC mX2_advanceCall [pR 19, pI frame, pI step] h Post := by
  show Ok shC 0 0 mX2_advanceCall 0 [some (pR 19), some (pI frame), some (pI step), none, none] [] h Post
  refine Ok.aload_n (pc' := 1) rfl dX2_advanceCall_0 rfl ?_
  refine Ok.getR (pc' := 4) (k := 0) dX2_advanceCall_1 rfl (shC_19 _) rfl inX2 (by decide) rfl wd_210 rfl ?_
  refine Ok.iload_n (pc' := 5) rfl dX2_advanceCall_4 rfl ?_
  refine Ok.callV (pc' := 8) (av := [pI step]) (rest := []) dX2_advanceCall_5 rfl (by decide) cvX2_advanceCall_123 (shC_1 _) rfl rfl rfl (leb rfl) (leb rfl) K (fun r1 h1 K => ?_)
  show Ok shC 0 0 mX2_advanceCall 8 [some (pR 19), some (pI frame), some (pI step), none, none] [pI r1] h1 Post
  refine Ok.istore_n (pc' := 9) (ls' := [some (pR 19), some (pI frame), some (pI step), some (pI r1), none]) dX2_advanceCall_8 rfl (by decide) rfl rfl ?_
  refine Ok.aload_n (pc' := 10) rfl dX2_advanceCall_9 rfl ?_
  refine Ok.getR (pc' := 13) (k := 0) dX2_advanceCall_10 rfl (shC_19 _) rfl inX2 (by decide) rfl wd_210 rfl ?_
  refine Ok.iload_n (pc' := 14) rfl dX2_advanceCall_13 rfl ?_
  refine Ok.callV (pc' := 17) (av := [pI r1]) (rest := []) dX2_advanceCall_14 rfl (by decide) cvX2_advanceCall_92 (shC_1 _) rfl rfl rfl (leb rfl) (leb rfl) K (fun r2 h2 K => ?_)
  show Ok shC 0 0 mX2_advanceCall 17 [some (pR 19), some (pI frame), some (pI step), some (pI r1), none] [pI r2] h2 Post
  refine Ok.istore (pc' := 19) (ls' := [some (pR 19), some (pI frame), some (pI step), some (pI r1), some (pI r2)]) dX2_advanceCall_17 rfl (by decide) rfl rfl ?_
  refine Ok.aload_n (pc' := 20) rfl dX2_advanceCall_19 rfl ?_
  refine Ok.getR (pc' := 23) (k := 7) dX2_advanceCall_20 rfl (shC_19 _) rfl inX2 (by decide) rfl wd_217 rfl ?_
  refine Ok.iload_n (pc' := 24) rfl dX2_advanceCall_23 rfl ?_
  obtain ⟨k1, e1, q1, K⟩ := K
  refine Ok.iald (pc' := 25) (z := h2.1 26 k1) dX2_advanceCall_24 rfl (shC_26 _) (by decide) e1 q1 rfl ?_
  refine Ok.iload (pc' := 27) rfl dX2_advanceCall_25 rfl ?_
  refine Ok.icmp_ge (tgt := 45) dX2_advanceCall_27 rfl rfl (fun c2 => ?_) (fun c2 => ?_)
  · replace K := K.1 c2
    refine Ok.aload_n (pc' := 46) rfl dX2_advanceCall_45 rfl ?_
    refine Ok.getR (pc' := 49) (k := 7) dX2_advanceCall_46 rfl (shC_19 _) rfl inX2 (by decide) rfl wd_217 rfl ?_
    refine Ok.iload_n (pc' := 50) rfl dX2_advanceCall_49 rfl ?_
    refine Ok.iald (pc' := 51) (z := h2.1 26 k1) dX2_advanceCall_50 rfl (shC_26 _) (by decide) e1 q1 rfl ?_
    refine Ok.iload (pc' := 53) rfl dX2_advanceCall_51 rfl ?_
    refine Ok.icmp_ne (tgt := 80) dX2_advanceCall_53 rfl rfl (fun c3 => ?_) (fun c3 => ?_)
    · replace K := K.1 c3
      refine Ok.aload_n (pc' := 81) rfl dX2_advanceCall_80 rfl ?_
      refine Ok.dup (pc' := 82) dX2_advanceCall_81 rfl rfl ?_
      refine Ok.getI (pc' := 85) (z := h2.2.1 19 10) (k := 10) dX2_advanceCall_82 rfl (shC_19 _) rfl inX2 (by decide) rfl rfl wd_220 rfl ?_
      refine Ok.iconst (pc' := 86) in_1 dX2_advanceCall_85 rfl ?_
      obtain ⟨q4, K⟩ := K
      refine Ok.isub (pc' := 87) dX2_advanceCall_86 rfl q4 ?_
      refine Ok.putI (pc' := 90) (k := 10) dX2_advanceCall_87 rfl (shC_19 _) rfl inX2 tyX2 tyX2_ok nmX2 (by decide) rfl wd_220 rfl rfl (Or.inl rfl) ?_
      refine Ok.aload_n (pc' := 91) rfl dX2_advanceCall_90 rfl ?_
      refine Ok.aload_n (pc' := 92) rfl dX2_advanceCall_91 rfl ?_
      refine Ok.getR (pc' := 95) (k := 8) dX2_advanceCall_92 rfl (shC_19 _) rfl inX2 (by decide) rfl wd_218 rfl ?_
      refine Ok.iload_n (pc' := 96) rfl dX2_advanceCall_95 rfl ?_
      refine Ok.iconst (pc' := 97) in_4 dX2_advanceCall_96 rfl ?_
      obtain ⟨q5, K⟩ := K
      refine Ok.imul (pc' := 98) dX2_advanceCall_97 rfl q5 ?_
      refine Ok.iload (pc' := 100) rfl dX2_advanceCall_98 rfl ?_
      refine Ok.iconst (pc' := 101) in_3 dX2_advanceCall_100 rfl ?_
      refine Ok.mmin (pc' := 104) dX2_advanceCall_101 rfl (by decide) mwX2_advanceCall_159 (by decide) (leb rfl) ?_
      obtain ⟨q6, K⟩ := K
      refine Ok.iadd (pc' := 105) dX2_advanceCall_104 rfl q6 ?_
      obtain ⟨k7, e7, q7, K⟩ := K
      refine Ok.iald (pc' := 106) (z := h2.1 27 k7) dX2_advanceCall_105 rfl (shC_27 _) (by decide) e7 q7 rfl ?_
      refine Ok.callV (pc' := 109) (av := [pI (h2.1 27 k7)]) (rest := []) dX2_advanceCall_106 rfl (by decide) cvX2_advanceCall_152 (shC_19 _) rfl rfl rfl (leb rfl) (leb rfl) K (fun r_ h3 K => ?_)
      show Ok shC 0 0 mX2_advanceCall 109 [some (pR 19), some (pI frame), some (pI step), some (pI r1), some (pI r2)] [] h3 Post
      refine Ok.bipush (pc' := 111) ⟨by decide, by decide⟩ dX2_advanceCall_109 rfl ?_
      exact Ok.iret dX2_advanceCall_111 rfl (by decide) K
    · replace K := K.2 c3
      refine Ok.aload_n (pc' := 57) rfl dX2_advanceCall_56 rfl ?_
      refine Ok.iload_n (pc' := 58) rfl dX2_advanceCall_57 rfl ?_
      refine Ok.iload_n (pc' := 59) rfl dX2_advanceCall_58 rfl ?_
      refine Ok.iload_n (pc' := 60) rfl dX2_advanceCall_59 rfl ?_
      refine Ok.callV (pc' := 63) (av := [pI frame, pI step, pI r1]) (rest := []) dX2_advanceCall_60 rfl (by decide) cvX2_advanceCall_155 (shC_19 _) rfl rfl rfl (leb rfl) (leb rfl) K (fun r4 h4 K => ?_)
      show Ok shC 0 0 mX2_advanceCall 63 [some (pR 19), some (pI frame), some (pI step), some (pI r1), some (pI r2)] [pI r4] h4 Post
      refine Ok.if_eq (tgt := 77) dX2_advanceCall_63 rfl rfl (fun c4 => ?_) (fun c4 => ?_)
      · replace K := K.1 c4
        refine Ok.bipush (pc' := 79) ⟨by decide, by decide⟩ dX2_advanceCall_77 rfl ?_
        exact Ok.iret dX2_advanceCall_79 rfl (by decide) K
      · replace K := K.2 c4
        refine Ok.aload_n (pc' := 67) rfl dX2_advanceCall_66 rfl ?_
        refine Ok.getR (pc' := 70) (k := 0) dX2_advanceCall_67 rfl (shC_19 _) rfl inX2 (by decide) rfl wd_210 rfl ?_
        refine Ok.iload_n (pc' := 71) rfl dX2_advanceCall_70 rfl ?_
        refine Ok.callV (pc' := 74) (av := [pI r1]) (rest := []) dX2_advanceCall_71 rfl (by decide) cvX2_advanceCall_99 (shC_1 _) rfl rfl rfl (leb rfl) (leb rfl) K (fun r5 h5 K => ?_)
        show Ok shC 0 0 mX2_advanceCall 74 [some (pR 19), some (pI frame), some (pI step), some (pI r1), some (pI r2)] [pI r5] h5 Post
        refine Ok.goto (tgt := 79) dX2_advanceCall_74 rfl ?_
        exact Ok.iret dX2_advanceCall_79 rfl (by decide) K
  · replace K := K.2 c2
    refine Ok.aload_n (pc' := 31) rfl dX2_advanceCall_30 rfl ?_
    refine Ok.getR (pc' := 34) (k := 0) dX2_advanceCall_31 rfl (shC_19 _) rfl inX2 (by decide) rfl wd_210 rfl ?_
    refine Ok.iload_n (pc' := 35) rfl dX2_advanceCall_34 rfl ?_
    refine Ok.aload_n (pc' := 36) rfl dX2_advanceCall_35 rfl ?_
    refine Ok.getR (pc' := 39) (k := 7) dX2_advanceCall_36 rfl (shC_19 _) rfl inX2 (by decide) rfl wd_217 rfl ?_
    refine Ok.iload_n (pc' := 40) rfl dX2_advanceCall_39 rfl ?_
    refine Ok.iald (pc' := 41) (z := h2.1 26 k1) dX2_advanceCall_40 rfl (shC_26 _) (by decide) e1 q1 rfl ?_
    refine Ok.callV (pc' := 44) (av := [pI step, pI (h2.1 26 k1)]) (rest := []) dX2_advanceCall_41 rfl (by decide) cvX2_advanceCall_145 (shC_1 _) rfl rfl rfl (leb rfl) (leb rfl) K (fun r6 h6 K => ?_)
    show Ok shC 0 0 mX2_advanceCall 44 [some (pR 19), some (pI frame), some (pI step), some (pI r1), some (pI r2)] [pI r6] h6 Post
    exact Ok.iret dX2_advanceCall_44 rfl (by decide) K
theorem sX2_enter_0 {frame step r : Int} {h : Hp} {Post : Int → Hp → Prop}
    (K : Cl shC mX1_isMissing [pR 1, pI r] h (fun r1 h1 => ((r1 = 0) → ((r < 0) → inR ((4 + 0)) ∧ (Cl shC mX2_pay [pR 19, pI step, pI (4 + 0)] h1 (fun r2 h2 => ((¬ r2 = 0) → Cl shC mX2_countOne [pR 19, pI step] h2 (fun _ h3 => ((h3.2.1 19 10 < 12) → inR ((frame * 4)) ∧ (Cl shC mX1_paramsOf [pR 1, pI r] h3 (fun r4 h4 => ∃ k7 : Nat, (frame * 4) = (k7 : Int) ∧ k7 < 1920 ∧ (inR (((frame * 4) + 1)) ∧ (∃ k9 : Nat, ((frame * 4) + 1) = (k9 : Int) ∧ k9 < 1920 ∧ (inR (((frame * 4) + 2)) ∧ (∃ k11 : Nat, ((frame * 4) + 2) = (k11 : Int) ∧ k11 < 1920 ∧ (Cl shC mX2_openCall [pR 19, pI frame, pI r4, pI (h4.1 27 k7), pI (h4.1 27 k9), pI (h4.1 27 k11)] h4 (fun _ h5 => Post 1 h5))))))))) ∧ ((¬ h3.2.1 19 10 < 12) → Cl shC mX2_refuse [pR 19, pI 5, pI step] h3 (fun _ h6 => Post 0 h6)))) ∧ ((r2 = 0) → Post 0 h2)))) ∧ ((¬ r < 0) → ((10 ≤ r) → inR ((4 + 0)) ∧ (Cl shC mX2_pay [pR 19, pI step, pI (4 + 0)] h1 (fun r7 h7 => ((¬ r7 = 0) → Cl shC mX2_countOne [pR 19, pI step] h7 (fun _ h8 => ((h8.2.1 19 10 < 12) → inR ((frame * 4)) ∧ (Cl shC mX1_paramsOf [pR 1, pI r] h8 (fun r9 h9 => ∃ k8 : Nat, (frame * 4) = (k8 : Int) ∧ k8 < 1920 ∧ (inR (((frame * 4) + 1)) ∧ (∃ k10 : Nat, ((frame * 4) + 1) = (k10 : Int) ∧ k10 < 1920 ∧ (inR (((frame * 4) + 2)) ∧ (∃ k12 : Nat, ((frame * 4) + 2) = (k12 : Int) ∧ k12 < 1920 ∧ (Cl shC mX2_openCall [pR 19, pI frame, pI r9, pI (h9.1 27 k8), pI (h9.1 27 k10), pI (h9.1 27 k12)] h9 (fun _ h10 => Post 1 h10))))))))) ∧ ((¬ h8.2.1 19 10 < 12) → Cl shC mX2_refuse [pR 19, pI 5, pI step] h8 (fun _ h11 => Post 0 h11)))) ∧ ((r7 = 0) → Post 0 h7)))) ∧ ((¬ 10 ≤ r) → ∃ k4 : Nat, r = (k4 : Int) ∧ k4 < 10 ∧ (inR ((4 + h1.1 22 k4)) ∧ (Cl shC mX2_pay [pR 19, pI step, pI (4 + h1.1 22 k4)] h1 (fun r12 h12 => ((¬ r12 = 0) → Cl shC mX2_countOne [pR 19, pI step] h12 (fun _ h13 => ((h13.2.1 19 10 < 12) → inR ((frame * 4)) ∧ (Cl shC mX1_paramsOf [pR 1, pI r] h13 (fun r14 h14 => ∃ k9 : Nat, (frame * 4) = (k9 : Int) ∧ k9 < 1920 ∧ (inR (((frame * 4) + 1)) ∧ (∃ k11 : Nat, ((frame * 4) + 1) = (k11 : Int) ∧ k11 < 1920 ∧ (inR (((frame * 4) + 2)) ∧ (∃ k13 : Nat, ((frame * 4) + 2) = (k13 : Int) ∧ k13 < 1920 ∧ (Cl shC mX2_openCall [pR 19, pI frame, pI r14, pI (h14.1 27 k9), pI (h14.1 27 k11), pI (h14.1 27 k13)] h14 (fun _ h15 => Post 1 h15))))))))) ∧ ((¬ h13.2.1 19 10 < 12) → Cl shC mX2_refuse [pR 19, pI 5, pI step] h13 (fun _ h16 => Post 0 h16)))) ∧ ((r12 = 0) → Post 0 h12))))))) ∧ ((¬ r1 = 0) → Cl shC mX2_refuse [pR 19, pI 3, pI step] h1 (fun _ h17 => Post 0 h17)))) :
    Cl shC mX2_enter [pR 19, pI frame, pI step, pI r] h Post := by
  show Ok shC 0 0 mX2_enter 0 [some (pR 19), some (pI frame), some (pI step), some (pI r), none] [] h Post
  refine Ok.aload_n (pc' := 1) rfl dX2_enter_0 rfl ?_
  refine Ok.getR (pc' := 4) (k := 0) dX2_enter_1 rfl (shC_19 _) rfl inX2 (by decide) rfl wd_210 rfl ?_
  refine Ok.iload_n (pc' := 5) rfl dX2_enter_4 rfl ?_
  refine Ok.callV (pc' := 8) (av := [pI r]) (rest := []) dX2_enter_5 rfl (by decide) cvX2_enter_84 (shC_1 _) rfl rfl rfl (leb rfl) (leb rfl) K (fun r1 h1 K => ?_)
  show Ok shC 0 0 mX2_enter 8 [some (pR 19), some (pI frame), some (pI step), some (pI r), none] [pI r1] h1 Post
  refine Ok.if_eq (tgt := 19) dX2_enter_8 rfl rfl (fun c1 => ?_) (fun c1 => ?_)
  · replace K := K.1 c1
    refine Ok.aload_n (pc' := 20) rfl dX2_enter_19 rfl ?_
    refine Ok.iload_n (pc' := 21) rfl dX2_enter_20 rfl ?_
    refine Ok.iconst (pc' := 22) in_4 dX2_enter_21 rfl ?_
    refine Ok.iload_n (pc' := 23) rfl dX2_enter_22 rfl ?_
    refine Ok.if_lt (tgt := 41) dX2_enter_23 rfl rfl (fun c2 => ?_) (fun c2 => ?_)
    · replace K := K.1 c2
      refine Ok.iconst (pc' := 42) in_0 dX2_enter_41 rfl ?_
      obtain ⟨q3, K⟩ := K
      refine Ok.iadd (pc' := 43) dX2_enter_42 rfl q3 ?_
      refine Ok.callV (pc' := 46) (av := [pI step, pI (4 + 0)]) (rest := []) dX2_enter_43 rfl (by decide) cvX2_enter_116 (shC_19 _) rfl rfl rfl (leb rfl) (leb rfl) K (fun r2 h2 K => ?_)
      show Ok shC 0 0 mX2_enter 46 [some (pR 19), some (pI frame), some (pI step), some (pI r), none] [pI r2] h2 Post
      refine Ok.if_ne (tgt := 51) dX2_enter_46 rfl rfl (fun c4 => ?_) (fun c4 => ?_)
      · replace K := K.1 c4
        refine Ok.aload_n (pc' := 52) rfl dX2_enter_51 rfl ?_
        refine Ok.iload_n (pc' := 53) rfl dX2_enter_52 rfl ?_
        refine Ok.callV (pc' := 56) (av := [pI step]) (rest := []) dX2_enter_53 rfl (by decide) cvX2_enter_120 (shC_19 _) rfl rfl rfl (leb rfl) (leb rfl) K (fun r_ h3 K => ?_)
        show Ok shC 0 0 mX2_enter 56 [some (pR 19), some (pI frame), some (pI step), some (pI r), none] [] h3 Post
        refine Ok.aload_n (pc' := 57) rfl dX2_enter_56 rfl ?_
        refine Ok.getI (pc' := 60) (z := h3.2.1 19 10) (k := 10) dX2_enter_57 rfl (shC_19 _) rfl inX2 (by decide) rfl rfl wd_220 rfl ?_
        refine Ok.bipush (pc' := 62) ⟨by decide, by decide⟩ dX2_enter_60 rfl ?_
        refine Ok.icmp_lt (tgt := 73) dX2_enter_62 rfl rfl (fun c5 => ?_) (fun c5 => ?_)
        · replace K := K.1 c5
          refine Ok.iload_n (pc' := 74) rfl dX2_enter_73 rfl ?_
          refine Ok.iconst (pc' := 75) in_4 dX2_enter_74 rfl ?_
          obtain ⟨q6, K⟩ := K
          refine Ok.imul (pc' := 76) dX2_enter_75 rfl q6 ?_
          refine Ok.istore (pc' := 78) (ls' := [some (pR 19), some (pI frame), some (pI step), some (pI r), some (pI (frame * 4))]) dX2_enter_76 rfl (by decide) rfl rfl ?_
          refine Ok.aload_n (pc' := 79) rfl dX2_enter_78 rfl ?_
          refine Ok.iload_n (pc' := 80) rfl dX2_enter_79 rfl ?_
          refine Ok.aload_n (pc' := 81) rfl dX2_enter_80 rfl ?_
          refine Ok.getR (pc' := 84) (k := 0) dX2_enter_81 rfl (shC_19 _) rfl inX2 (by decide) rfl wd_210 rfl ?_
          refine Ok.iload_n (pc' := 85) rfl dX2_enter_84 rfl ?_
          refine Ok.callV (pc' := 88) (av := [pI r]) (rest := [pI frame, pR 19]) dX2_enter_85 rfl (by decide) cvX2_enter_92 (shC_1 _) rfl rfl rfl (leb rfl) (leb rfl) K (fun r4 h4 K => ?_)
          show Ok shC 0 0 mX2_enter 88 [some (pR 19), some (pI frame), some (pI step), some (pI r), some (pI (frame * 4))] [pI r4, pI frame, pR 19] h4 Post
          refine Ok.aload_n (pc' := 89) rfl dX2_enter_88 rfl ?_
          refine Ok.getR (pc' := 92) (k := 8) dX2_enter_89 rfl (shC_19 _) rfl inX2 (by decide) rfl wd_218 rfl ?_
          refine Ok.iload (pc' := 94) rfl dX2_enter_92 rfl ?_
          obtain ⟨k7, e7, q7, K⟩ := K
          refine Ok.iald (pc' := 95) (z := h4.1 27 k7) dX2_enter_94 rfl (shC_27 _) (by decide) e7 q7 rfl ?_
          refine Ok.aload_n (pc' := 96) rfl dX2_enter_95 rfl ?_
          refine Ok.getR (pc' := 99) (k := 8) dX2_enter_96 rfl (shC_19 _) rfl inX2 (by decide) rfl wd_218 rfl ?_
          refine Ok.iload (pc' := 101) rfl dX2_enter_99 rfl ?_
          refine Ok.iconst (pc' := 102) in_1 dX2_enter_101 rfl ?_
          obtain ⟨q8, K⟩ := K
          refine Ok.iadd (pc' := 103) dX2_enter_102 rfl q8 ?_
          obtain ⟨k9, e9, q9, K⟩ := K
          refine Ok.iald (pc' := 104) (z := h4.1 27 k9) dX2_enter_103 rfl (shC_27 _) (by decide) e9 q9 rfl ?_
          refine Ok.aload_n (pc' := 105) rfl dX2_enter_104 rfl ?_
          refine Ok.getR (pc' := 108) (k := 8) dX2_enter_105 rfl (shC_19 _) rfl inX2 (by decide) rfl wd_218 rfl ?_
          refine Ok.iload (pc' := 110) rfl dX2_enter_108 rfl ?_
          refine Ok.iconst (pc' := 111) in_2 dX2_enter_110 rfl ?_
          obtain ⟨q10, K⟩ := K
          refine Ok.iadd (pc' := 112) dX2_enter_111 rfl q10 ?_
          obtain ⟨k11, e11, q11, K⟩ := K
          refine Ok.iald (pc' := 113) (z := h4.1 27 k11) dX2_enter_112 rfl (shC_27 _) (by decide) e11 q11 rfl ?_
          refine Ok.callV (pc' := 116) (av := [pI frame, pI r4, pI (h4.1 27 k7), pI (h4.1 27 k9), pI (h4.1 27 k11)]) (rest := []) dX2_enter_113 rfl (by decide) cvX2_enter_95 (shC_19 _) rfl rfl rfl (leb rfl) (leb rfl) K (fun r_ h5 K => ?_)
          show Ok shC 0 0 mX2_enter 116 [some (pR 19), some (pI frame), some (pI step), some (pI r), some (pI (frame * 4))] [] h5 Post
          refine Ok.iconst (pc' := 117) in_1 dX2_enter_116 rfl ?_
          exact Ok.zret dX2_enter_117 rfl (by decide) (Or.inr rfl) K
        · replace K := K.2 c5
          refine Ok.aload_n (pc' := 66) rfl dX2_enter_65 rfl ?_
          refine Ok.iconst (pc' := 67) in_5 dX2_enter_66 rfl ?_
          refine Ok.iload_n (pc' := 68) rfl dX2_enter_67 rfl ?_
          refine Ok.callV (pc' := 71) (av := [pI 5, pI step]) (rest := []) dX2_enter_68 rfl (by decide) cvX2_enter_88 (shC_19 _) rfl rfl rfl (leb rfl) (leb rfl) K (fun r_ h6 K => ?_)
          show Ok shC 0 0 mX2_enter 71 [some (pR 19), some (pI frame), some (pI step), some (pI r), none] [] h6 Post
          refine Ok.iconst (pc' := 72) in_0 dX2_enter_71 rfl ?_
          exact Ok.zret dX2_enter_72 rfl (by decide) (Or.inl rfl) K
      · replace K := K.2 c4
        refine Ok.iconst (pc' := 50) in_0 dX2_enter_49 rfl ?_
        exact Ok.zret dX2_enter_50 rfl (by decide) (Or.inl rfl) K
    · replace K := K.2 c2
      refine Ok.iload_n (pc' := 27) rfl dX2_enter_26 rfl ?_
      refine Ok.bipush (pc' := 29) ⟨by decide, by decide⟩ dX2_enter_27 rfl ?_
      refine Ok.icmp_ge (tgt := 41) dX2_enter_29 rfl rfl (fun c3 => ?_) (fun c3 => ?_)
      · replace K := K.1 c3
        refine Ok.iconst (pc' := 42) in_0 dX2_enter_41 rfl ?_
        obtain ⟨q4, K⟩ := K
        refine Ok.iadd (pc' := 43) dX2_enter_42 rfl q4 ?_
        refine Ok.callV (pc' := 46) (av := [pI step, pI (4 + 0)]) (rest := []) dX2_enter_43 rfl (by decide) cvX2_enter_116 (shC_19 _) rfl rfl rfl (leb rfl) (leb rfl) K (fun r7 h7 K => ?_)
        show Ok shC 0 0 mX2_enter 46 [some (pR 19), some (pI frame), some (pI step), some (pI r), none] [pI r7] h7 Post
        refine Ok.if_ne (tgt := 51) dX2_enter_46 rfl rfl (fun c5 => ?_) (fun c5 => ?_)
        · replace K := K.1 c5
          refine Ok.aload_n (pc' := 52) rfl dX2_enter_51 rfl ?_
          refine Ok.iload_n (pc' := 53) rfl dX2_enter_52 rfl ?_
          refine Ok.callV (pc' := 56) (av := [pI step]) (rest := []) dX2_enter_53 rfl (by decide) cvX2_enter_120 (shC_19 _) rfl rfl rfl (leb rfl) (leb rfl) K (fun r_ h8 K => ?_)
          show Ok shC 0 0 mX2_enter 56 [some (pR 19), some (pI frame), some (pI step), some (pI r), none] [] h8 Post
          refine Ok.aload_n (pc' := 57) rfl dX2_enter_56 rfl ?_
          refine Ok.getI (pc' := 60) (z := h8.2.1 19 10) (k := 10) dX2_enter_57 rfl (shC_19 _) rfl inX2 (by decide) rfl rfl wd_220 rfl ?_
          refine Ok.bipush (pc' := 62) ⟨by decide, by decide⟩ dX2_enter_60 rfl ?_
          refine Ok.icmp_lt (tgt := 73) dX2_enter_62 rfl rfl (fun c6 => ?_) (fun c6 => ?_)
          · replace K := K.1 c6
            refine Ok.iload_n (pc' := 74) rfl dX2_enter_73 rfl ?_
            refine Ok.iconst (pc' := 75) in_4 dX2_enter_74 rfl ?_
            obtain ⟨q7, K⟩ := K
            refine Ok.imul (pc' := 76) dX2_enter_75 rfl q7 ?_
            refine Ok.istore (pc' := 78) (ls' := [some (pR 19), some (pI frame), some (pI step), some (pI r), some (pI (frame * 4))]) dX2_enter_76 rfl (by decide) rfl rfl ?_
            refine Ok.aload_n (pc' := 79) rfl dX2_enter_78 rfl ?_
            refine Ok.iload_n (pc' := 80) rfl dX2_enter_79 rfl ?_
            refine Ok.aload_n (pc' := 81) rfl dX2_enter_80 rfl ?_
            refine Ok.getR (pc' := 84) (k := 0) dX2_enter_81 rfl (shC_19 _) rfl inX2 (by decide) rfl wd_210 rfl ?_
            refine Ok.iload_n (pc' := 85) rfl dX2_enter_84 rfl ?_
            refine Ok.callV (pc' := 88) (av := [pI r]) (rest := [pI frame, pR 19]) dX2_enter_85 rfl (by decide) cvX2_enter_92 (shC_1 _) rfl rfl rfl (leb rfl) (leb rfl) K (fun r9 h9 K => ?_)
            show Ok shC 0 0 mX2_enter 88 [some (pR 19), some (pI frame), some (pI step), some (pI r), some (pI (frame * 4))] [pI r9, pI frame, pR 19] h9 Post
            refine Ok.aload_n (pc' := 89) rfl dX2_enter_88 rfl ?_
            refine Ok.getR (pc' := 92) (k := 8) dX2_enter_89 rfl (shC_19 _) rfl inX2 (by decide) rfl wd_218 rfl ?_
            refine Ok.iload (pc' := 94) rfl dX2_enter_92 rfl ?_
            obtain ⟨k8, e8, q8, K⟩ := K
            refine Ok.iald (pc' := 95) (z := h9.1 27 k8) dX2_enter_94 rfl (shC_27 _) (by decide) e8 q8 rfl ?_
            refine Ok.aload_n (pc' := 96) rfl dX2_enter_95 rfl ?_
            refine Ok.getR (pc' := 99) (k := 8) dX2_enter_96 rfl (shC_19 _) rfl inX2 (by decide) rfl wd_218 rfl ?_
            refine Ok.iload (pc' := 101) rfl dX2_enter_99 rfl ?_
            refine Ok.iconst (pc' := 102) in_1 dX2_enter_101 rfl ?_
            obtain ⟨q9, K⟩ := K
            refine Ok.iadd (pc' := 103) dX2_enter_102 rfl q9 ?_
            obtain ⟨k10, e10, q10, K⟩ := K
            refine Ok.iald (pc' := 104) (z := h9.1 27 k10) dX2_enter_103 rfl (shC_27 _) (by decide) e10 q10 rfl ?_
            refine Ok.aload_n (pc' := 105) rfl dX2_enter_104 rfl ?_
            refine Ok.getR (pc' := 108) (k := 8) dX2_enter_105 rfl (shC_19 _) rfl inX2 (by decide) rfl wd_218 rfl ?_
            refine Ok.iload (pc' := 110) rfl dX2_enter_108 rfl ?_
            refine Ok.iconst (pc' := 111) in_2 dX2_enter_110 rfl ?_
            obtain ⟨q11, K⟩ := K
            refine Ok.iadd (pc' := 112) dX2_enter_111 rfl q11 ?_
            obtain ⟨k12, e12, q12, K⟩ := K
            refine Ok.iald (pc' := 113) (z := h9.1 27 k12) dX2_enter_112 rfl (shC_27 _) (by decide) e12 q12 rfl ?_
            refine Ok.callV (pc' := 116) (av := [pI frame, pI r9, pI (h9.1 27 k8), pI (h9.1 27 k10), pI (h9.1 27 k12)]) (rest := []) dX2_enter_113 rfl (by decide) cvX2_enter_95 (shC_19 _) rfl rfl rfl (leb rfl) (leb rfl) K (fun r_ h10 K => ?_)
            show Ok shC 0 0 mX2_enter 116 [some (pR 19), some (pI frame), some (pI step), some (pI r), some (pI (frame * 4))] [] h10 Post
            refine Ok.iconst (pc' := 117) in_1 dX2_enter_116 rfl ?_
            exact Ok.zret dX2_enter_117 rfl (by decide) (Or.inr rfl) K
          · replace K := K.2 c6
            refine Ok.aload_n (pc' := 66) rfl dX2_enter_65 rfl ?_
            refine Ok.iconst (pc' := 67) in_5 dX2_enter_66 rfl ?_
            refine Ok.iload_n (pc' := 68) rfl dX2_enter_67 rfl ?_
            refine Ok.callV (pc' := 71) (av := [pI 5, pI step]) (rest := []) dX2_enter_68 rfl (by decide) cvX2_enter_88 (shC_19 _) rfl rfl rfl (leb rfl) (leb rfl) K (fun r_ h11 K => ?_)
            show Ok shC 0 0 mX2_enter 71 [some (pR 19), some (pI frame), some (pI step), some (pI r), none] [] h11 Post
            refine Ok.iconst (pc' := 72) in_0 dX2_enter_71 rfl ?_
            exact Ok.zret dX2_enter_72 rfl (by decide) (Or.inl rfl) K
        · replace K := K.2 c5
          refine Ok.iconst (pc' := 50) in_0 dX2_enter_49 rfl ?_
          exact Ok.zret dX2_enter_50 rfl (by decide) (Or.inl rfl) K
      · replace K := K.2 c3
        refine Ok.aload_n (pc' := 33) rfl dX2_enter_32 rfl ?_
        refine Ok.getR (pc' := 36) (k := 3) dX2_enter_33 rfl (shC_19 _) rfl inX2 (by decide) rfl wd_213 rfl ?_
        refine Ok.iload_n (pc' := 37) rfl dX2_enter_36 rfl ?_
        obtain ⟨k4, e4, q4, K⟩ := K
        refine Ok.iald (pc' := 38) (z := h1.1 22 k4) dX2_enter_37 rfl (shC_22 _) (by decide) e4 q4 rfl ?_
        refine Ok.goto (tgt := 42) dX2_enter_38 rfl ?_
        obtain ⟨q5, K⟩ := K
        refine Ok.iadd (pc' := 43) dX2_enter_42 rfl q5 ?_
        refine Ok.callV (pc' := 46) (av := [pI step, pI (4 + h1.1 22 k4)]) (rest := []) dX2_enter_43 rfl (by decide) cvX2_enter_116 (shC_19 _) rfl rfl rfl (leb rfl) (leb rfl) K (fun r12 h12 K => ?_)
        show Ok shC 0 0 mX2_enter 46 [some (pR 19), some (pI frame), some (pI step), some (pI r), none] [pI r12] h12 Post
        refine Ok.if_ne (tgt := 51) dX2_enter_46 rfl rfl (fun c6 => ?_) (fun c6 => ?_)
        · replace K := K.1 c6
          refine Ok.aload_n (pc' := 52) rfl dX2_enter_51 rfl ?_
          refine Ok.iload_n (pc' := 53) rfl dX2_enter_52 rfl ?_
          refine Ok.callV (pc' := 56) (av := [pI step]) (rest := []) dX2_enter_53 rfl (by decide) cvX2_enter_120 (shC_19 _) rfl rfl rfl (leb rfl) (leb rfl) K (fun r_ h13 K => ?_)
          show Ok shC 0 0 mX2_enter 56 [some (pR 19), some (pI frame), some (pI step), some (pI r), none] [] h13 Post
          refine Ok.aload_n (pc' := 57) rfl dX2_enter_56 rfl ?_
          refine Ok.getI (pc' := 60) (z := h13.2.1 19 10) (k := 10) dX2_enter_57 rfl (shC_19 _) rfl inX2 (by decide) rfl rfl wd_220 rfl ?_
          refine Ok.bipush (pc' := 62) ⟨by decide, by decide⟩ dX2_enter_60 rfl ?_
          refine Ok.icmp_lt (tgt := 73) dX2_enter_62 rfl rfl (fun c7 => ?_) (fun c7 => ?_)
          · replace K := K.1 c7
            refine Ok.iload_n (pc' := 74) rfl dX2_enter_73 rfl ?_
            refine Ok.iconst (pc' := 75) in_4 dX2_enter_74 rfl ?_
            obtain ⟨q8, K⟩ := K
            refine Ok.imul (pc' := 76) dX2_enter_75 rfl q8 ?_
            refine Ok.istore (pc' := 78) (ls' := [some (pR 19), some (pI frame), some (pI step), some (pI r), some (pI (frame * 4))]) dX2_enter_76 rfl (by decide) rfl rfl ?_
            refine Ok.aload_n (pc' := 79) rfl dX2_enter_78 rfl ?_
            refine Ok.iload_n (pc' := 80) rfl dX2_enter_79 rfl ?_
            refine Ok.aload_n (pc' := 81) rfl dX2_enter_80 rfl ?_
            refine Ok.getR (pc' := 84) (k := 0) dX2_enter_81 rfl (shC_19 _) rfl inX2 (by decide) rfl wd_210 rfl ?_
            refine Ok.iload_n (pc' := 85) rfl dX2_enter_84 rfl ?_
            refine Ok.callV (pc' := 88) (av := [pI r]) (rest := [pI frame, pR 19]) dX2_enter_85 rfl (by decide) cvX2_enter_92 (shC_1 _) rfl rfl rfl (leb rfl) (leb rfl) K (fun r14 h14 K => ?_)
            show Ok shC 0 0 mX2_enter 88 [some (pR 19), some (pI frame), some (pI step), some (pI r), some (pI (frame * 4))] [pI r14, pI frame, pR 19] h14 Post
            refine Ok.aload_n (pc' := 89) rfl dX2_enter_88 rfl ?_
            refine Ok.getR (pc' := 92) (k := 8) dX2_enter_89 rfl (shC_19 _) rfl inX2 (by decide) rfl wd_218 rfl ?_
            refine Ok.iload (pc' := 94) rfl dX2_enter_92 rfl ?_
            obtain ⟨k9, e9, q9, K⟩ := K
            refine Ok.iald (pc' := 95) (z := h14.1 27 k9) dX2_enter_94 rfl (shC_27 _) (by decide) e9 q9 rfl ?_
            refine Ok.aload_n (pc' := 96) rfl dX2_enter_95 rfl ?_
            refine Ok.getR (pc' := 99) (k := 8) dX2_enter_96 rfl (shC_19 _) rfl inX2 (by decide) rfl wd_218 rfl ?_
            refine Ok.iload (pc' := 101) rfl dX2_enter_99 rfl ?_
            refine Ok.iconst (pc' := 102) in_1 dX2_enter_101 rfl ?_
            obtain ⟨q10, K⟩ := K
            refine Ok.iadd (pc' := 103) dX2_enter_102 rfl q10 ?_
            obtain ⟨k11, e11, q11, K⟩ := K
            refine Ok.iald (pc' := 104) (z := h14.1 27 k11) dX2_enter_103 rfl (shC_27 _) (by decide) e11 q11 rfl ?_
            refine Ok.aload_n (pc' := 105) rfl dX2_enter_104 rfl ?_
            refine Ok.getR (pc' := 108) (k := 8) dX2_enter_105 rfl (shC_19 _) rfl inX2 (by decide) rfl wd_218 rfl ?_
            refine Ok.iload (pc' := 110) rfl dX2_enter_108 rfl ?_
            refine Ok.iconst (pc' := 111) in_2 dX2_enter_110 rfl ?_
            obtain ⟨q12, K⟩ := K
            refine Ok.iadd (pc' := 112) dX2_enter_111 rfl q12 ?_
            obtain ⟨k13, e13, q13, K⟩ := K
            refine Ok.iald (pc' := 113) (z := h14.1 27 k13) dX2_enter_112 rfl (shC_27 _) (by decide) e13 q13 rfl ?_
            refine Ok.callV (pc' := 116) (av := [pI frame, pI r14, pI (h14.1 27 k9), pI (h14.1 27 k11), pI (h14.1 27 k13)]) (rest := []) dX2_enter_113 rfl (by decide) cvX2_enter_95 (shC_19 _) rfl rfl rfl (leb rfl) (leb rfl) K (fun r_ h15 K => ?_)
            show Ok shC 0 0 mX2_enter 116 [some (pR 19), some (pI frame), some (pI step), some (pI r), some (pI (frame * 4))] [] h15 Post
            refine Ok.iconst (pc' := 117) in_1 dX2_enter_116 rfl ?_
            exact Ok.zret dX2_enter_117 rfl (by decide) (Or.inr rfl) K
          · replace K := K.2 c7
            refine Ok.aload_n (pc' := 66) rfl dX2_enter_65 rfl ?_
            refine Ok.iconst (pc' := 67) in_5 dX2_enter_66 rfl ?_
            refine Ok.iload_n (pc' := 68) rfl dX2_enter_67 rfl ?_
            refine Ok.callV (pc' := 71) (av := [pI 5, pI step]) (rest := []) dX2_enter_68 rfl (by decide) cvX2_enter_88 (shC_19 _) rfl rfl rfl (leb rfl) (leb rfl) K (fun r_ h16 K => ?_)
            show Ok shC 0 0 mX2_enter 71 [some (pR 19), some (pI frame), some (pI step), some (pI r), none] [] h16 Post
            refine Ok.iconst (pc' := 72) in_0 dX2_enter_71 rfl ?_
            exact Ok.zret dX2_enter_72 rfl (by decide) (Or.inl rfl) K
        · replace K := K.2 c6
          refine Ok.iconst (pc' := 50) in_0 dX2_enter_49 rfl ?_
          exact Ok.zret dX2_enter_50 rfl (by decide) (Or.inl rfl) K
  · replace K := K.2 c1
    refine Ok.aload_n (pc' := 12) rfl dX2_enter_11 rfl ?_
    refine Ok.iconst (pc' := 13) in_3 dX2_enter_12 rfl ?_
    refine Ok.iload_n (pc' := 14) rfl dX2_enter_13 rfl ?_
    refine Ok.callV (pc' := 17) (av := [pI 3, pI step]) (rest := []) dX2_enter_14 rfl (by decide) cvX2_enter_88 (shC_19 _) rfl rfl rfl (leb rfl) (leb rfl) K (fun r_ h17 K => ?_)
    show Ok shC 0 0 mX2_enter 17 [some (pR 19), some (pI frame), some (pI step), some (pI r), none] [] h17 Post
    refine Ok.iconst (pc' := 18) in_0 dX2_enter_17 rfl ?_
    exact Ok.zret dX2_enter_18 rfl (by decide) (Or.inl rfl) K
theorem sX2_openCall_0 {frame params a b c0 : Int} {h : Hp} {Post : Int → Hp → Prop}
    (K : ((h.2.1 19 10 < 12) → ∃ k2 : Nat, h.2.1 19 10 = (k2 : Int) ∧ k2 < 12 ∧ (inR ((h.2.1 19 10 * 40)) ∧ (inR ((h.2.1 19 10 + 1)) ∧ (inR (((h.2.1 19 10 + 1) * 40)) ∧ (Cl shC mJ7_fill_fda19 [pR 23, pI (h.2.1 19 10 * 40), pI ((h.2.1 19 10 + 1) * 40), pI 0] (hA h 24 k2 frame) (fun _ h1 => inR ((h1.2.1 19 10 + 1)) ∧ (((params ≤ 0) → Cl shC mX2_writeName [pR 19, pI 0, pI 0] (hI (hI h1 19 10 (h1.2.1 19 10 + 1)) 19 16 (max (h1.2.1 19 16) (h1.2.1 19 10 + 1))) (fun _ h2 => ((params ≤ 1) → Cl shC mX2_writeName [pR 19, pI 1, pI 0] h2 (fun _ h3 => ((params ≤ 2) → Cl shC mX2_writeName [pR 19, pI 2, pI 0] h3 (fun _ h4 => Post 0 h4)) ∧ ((¬ params ≤ 2) → Cl shC mX2_writeName [pR 19, pI 2, pI c0] h3 (fun _ h5 => Post 0 h5)))) ∧ ((¬ params ≤ 1) → Cl shC mX2_writeName [pR 19, pI 1, pI b] h2 (fun _ h6 => ((params ≤ 2) → Cl shC mX2_writeName [pR 19, pI 2, pI 0] h6 (fun _ h7 => Post 0 h7)) ∧ ((¬ params ≤ 2) → Cl shC mX2_writeName [pR 19, pI 2, pI c0] h6 (fun _ h8 => Post 0 h8)))))) ∧ ((¬ params ≤ 0) → Cl shC mX2_writeName [pR 19, pI 0, pI a] (hI (hI h1 19 10 (h1.2.1 19 10 + 1)) 19 16 (max (h1.2.1 19 16) (h1.2.1 19 10 + 1))) (fun _ h9 => ((params ≤ 1) → Cl shC mX2_writeName [pR 19, pI 1, pI 0] h9 (fun _ h10 => ((params ≤ 2) → Cl shC mX2_writeName [pR 19, pI 2, pI 0] h10 (fun _ h11 => Post 0 h11)) ∧ ((¬ params ≤ 2) → Cl shC mX2_writeName [pR 19, pI 2, pI c0] h10 (fun _ h12 => Post 0 h12)))) ∧ ((¬ params ≤ 1) → Cl shC mX2_writeName [pR 19, pI 1, pI b] h9 (fun _ h13 => ((params ≤ 2) → Cl shC mX2_writeName [pR 19, pI 2, pI 0] h13 (fun _ h14 => Post 0 h14)) ∧ ((¬ params ≤ 2) → Cl shC mX2_writeName [pR 19, pI 2, pI c0] h13 (fun _ h15 => Post 0 h15))))))))))))) ∧ ((¬ h.2.1 19 10 < 12) → Post 0 h)) :
    Cl shC mX2_openCall [pR 19, pI frame, pI params, pI a, pI b, pI c0] h Post := by
  show Ok shC 0 0 mX2_openCall 0 [some (pR 19), some (pI frame), some (pI params), some (pI a), some (pI b), some (pI c0)] [] h Post
  refine Ok.aload_n (pc' := 1) rfl dX2_openCall_0 rfl ?_
  refine Ok.getI (pc' := 4) (z := h.2.1 19 10) (k := 10) dX2_openCall_1 rfl (shC_19 _) rfl inX2 (by decide) rfl rfl wd_220 rfl ?_
  refine Ok.bipush (pc' := 6) ⟨by decide, by decide⟩ dX2_openCall_4 rfl ?_
  refine Ok.icmp_lt (tgt := 10) dX2_openCall_6 rfl rfl (fun c1 => ?_) (fun c1 => ?_)
  · replace K := K.1 c1
    refine Ok.aload_n (pc' := 11) rfl dX2_openCall_10 rfl ?_
    refine Ok.getR (pc' := 14) (k := 5) dX2_openCall_11 rfl (shC_19 _) rfl inX2 (by decide) rfl wd_215 rfl ?_
    refine Ok.aload_n (pc' := 15) rfl dX2_openCall_14 rfl ?_
    refine Ok.getI (pc' := 18) (z := h.2.1 19 10) (k := 10) dX2_openCall_15 rfl (shC_19 _) rfl inX2 (by decide) rfl rfl wd_220 rfl ?_
    refine Ok.iload_n (pc' := 19) rfl dX2_openCall_18 rfl ?_
    obtain ⟨k2, e2, q2, K⟩ := K
    refine Ok.iast (pc' := 20) dX2_openCall_19 rfl (shC_24 _) (by decide) e2 q2 ?_
    refine Ok.aload_n (pc' := 21) rfl dX2_openCall_20 rfl ?_
    refine Ok.getR (pc' := 24) (k := 4) dX2_openCall_21 rfl (shC_19 _) rfl inX2 (by decide) rfl wd_214 rfl ?_
    refine Ok.aload_n (pc' := 25) rfl dX2_openCall_24 rfl ?_
    refine Ok.getI (pc' := 28) (z := h.2.1 19 10) (k := 10) dX2_openCall_25 rfl (shC_19 _) rfl inX2 (by decide) rfl rfl wd_220 rfl ?_
    refine Ok.bipush (pc' := 30) ⟨by decide, by decide⟩ dX2_openCall_28 rfl ?_
    obtain ⟨q3, K⟩ := K
    refine Ok.imul (pc' := 31) dX2_openCall_30 rfl q3 ?_
    refine Ok.aload_n (pc' := 32) rfl dX2_openCall_31 rfl ?_
    refine Ok.getI (pc' := 35) (z := h.2.1 19 10) (k := 10) dX2_openCall_32 rfl (shC_19 _) rfl inX2 (by decide) rfl rfl wd_220 rfl ?_
    refine Ok.iconst (pc' := 36) in_1 dX2_openCall_35 rfl ?_
    obtain ⟨q4, K⟩ := K
    refine Ok.iadd (pc' := 37) dX2_openCall_36 rfl q4 ?_
    refine Ok.bipush (pc' := 39) ⟨by decide, by decide⟩ dX2_openCall_37 rfl ?_
    obtain ⟨q5, K⟩ := K
    refine Ok.imul (pc' := 40) dX2_openCall_39 rfl q5 ?_
    refine Ok.iconst (pc' := 41) in_0 dX2_openCall_40 rfl ?_
    refine Ok.callS (pc' := 44) (av := [pR 23, pI (h.2.1 19 10 * 40), pI ((h.2.1 19 10 + 1) * 40), pI 0]) (rest := []) dX2_openCall_41 rfl (by decide) cvX2_openCall_164 rfl rfl (leb rfl) (leb rfl) K (fun r_ h1 K => ?_)
    show Ok shC 0 0 mX2_openCall 44 [some (pR 19), some (pI frame), some (pI params), some (pI a), some (pI b), some (pI c0)] [] h1 Post
    refine Ok.aload_n (pc' := 45) rfl dX2_openCall_44 rfl ?_
    refine Ok.dup (pc' := 46) dX2_openCall_45 rfl rfl ?_
    refine Ok.getI (pc' := 49) (z := h1.2.1 19 10) (k := 10) dX2_openCall_46 rfl (shC_19 _) rfl inX2 (by decide) rfl rfl wd_220 rfl ?_
    refine Ok.iconst (pc' := 50) in_1 dX2_openCall_49 rfl ?_
    obtain ⟨q6, K⟩ := K
    refine Ok.iadd (pc' := 51) dX2_openCall_50 rfl q6 ?_
    refine Ok.putI (pc' := 54) (k := 10) dX2_openCall_51 rfl (shC_19 _) rfl inX2 tyX2 tyX2_ok nmX2 (by decide) rfl wd_220 rfl rfl (Or.inl rfl) ?_
    refine Ok.aload_n (pc' := 55) rfl dX2_openCall_54 rfl ?_
    refine Ok.aload_n (pc' := 56) rfl dX2_openCall_55 rfl ?_
    refine Ok.getI (pc' := 59) (z := h1.2.1 19 16) (k := 16) dX2_openCall_56 rfl (shC_19 _) rfl inX2 (by decide) rfl rfl wd_226 rfl ?_
    refine Ok.aload_n (pc' := 60) rfl dX2_openCall_59 rfl ?_
    refine Ok.getI (pc' := 63) (z := (h1.2.1 19 10 + 1)) (k := 10) dX2_openCall_60 rfl (shC_19 _) rfl inX2 (by decide) rfl rfl wd_220 rfl ?_
    refine Ok.mmax (pc' := 66) dX2_openCall_63 rfl (by decide) mwX2_openCall_167 (by decide) (leb rfl) ?_
    refine Ok.putI (pc' := 69) (k := 16) dX2_openCall_66 rfl (shC_19 _) rfl inX2 tyX2 tyX2_ok nmX2 (by decide) rfl wd_226 rfl rfl (Or.inl rfl) ?_
    refine Ok.aload_n (pc' := 70) rfl dX2_openCall_69 rfl ?_
    refine Ok.iconst (pc' := 71) in_0 dX2_openCall_70 rfl ?_
    refine Ok.iload_n (pc' := 72) rfl dX2_openCall_71 rfl ?_
    refine Ok.if_le (tgt := 79) dX2_openCall_72 rfl rfl (fun c7 => ?_) (fun c7 => ?_)
    · replace K := K.1 c7
      refine Ok.iconst (pc' := 80) in_0 dX2_openCall_79 rfl ?_
      refine Ok.callV (pc' := 83) (av := [pI 0, pI 0]) (rest := []) dX2_openCall_80 rfl (by decide) cvX2_openCall_170 (shC_19 _) rfl rfl rfl (leb rfl) (leb rfl) K (fun r_ h2 K => ?_)
      show Ok shC 0 0 mX2_openCall 83 [some (pR 19), some (pI frame), some (pI params), some (pI a), some (pI b), some (pI c0)] [] h2 Post
      refine Ok.aload_n (pc' := 84) rfl dX2_openCall_83 rfl ?_
      refine Ok.iconst (pc' := 85) in_1 dX2_openCall_84 rfl ?_
      refine Ok.iload_n (pc' := 86) rfl dX2_openCall_85 rfl ?_
      refine Ok.iconst (pc' := 87) in_1 dX2_openCall_86 rfl ?_
      refine Ok.icmp_le (tgt := 95) dX2_openCall_87 rfl rfl (fun c8 => ?_) (fun c8 => ?_)
      · replace K := K.1 c8
        refine Ok.iconst (pc' := 96) in_0 dX2_openCall_95 rfl ?_
        refine Ok.callV (pc' := 99) (av := [pI 1, pI 0]) (rest := []) dX2_openCall_96 rfl (by decide) cvX2_openCall_170 (shC_19 _) rfl rfl rfl (leb rfl) (leb rfl) K (fun r_ h3 K => ?_)
        show Ok shC 0 0 mX2_openCall 99 [some (pR 19), some (pI frame), some (pI params), some (pI a), some (pI b), some (pI c0)] [] h3 Post
        refine Ok.aload_n (pc' := 100) rfl dX2_openCall_99 rfl ?_
        refine Ok.iconst (pc' := 101) in_2 dX2_openCall_100 rfl ?_
        refine Ok.iload_n (pc' := 102) rfl dX2_openCall_101 rfl ?_
        refine Ok.iconst (pc' := 103) in_2 dX2_openCall_102 rfl ?_
        refine Ok.icmp_le (tgt := 111) dX2_openCall_103 rfl rfl (fun c9 => ?_) (fun c9 => ?_)
        · replace K := K.1 c9
          refine Ok.iconst (pc' := 112) in_0 dX2_openCall_111 rfl ?_
          refine Ok.callV (pc' := 115) (av := [pI 2, pI 0]) (rest := []) dX2_openCall_112 rfl (by decide) cvX2_openCall_170 (shC_19 _) rfl rfl rfl (leb rfl) (leb rfl) K (fun r_ h4 K => ?_)
          show Ok shC 0 0 mX2_openCall 115 [some (pR 19), some (pI frame), some (pI params), some (pI a), some (pI b), some (pI c0)] [] h4 Post
          exact Ok.vret dX2_openCall_115 rfl (by decide) K
        · replace K := K.2 c9
          refine Ok.iload (pc' := 108) rfl dX2_openCall_106 rfl ?_
          refine Ok.goto (tgt := 112) dX2_openCall_108 rfl ?_
          refine Ok.callV (pc' := 115) (av := [pI 2, pI c0]) (rest := []) dX2_openCall_112 rfl (by decide) cvX2_openCall_170 (shC_19 _) rfl rfl rfl (leb rfl) (leb rfl) K (fun r_ h5 K => ?_)
          show Ok shC 0 0 mX2_openCall 115 [some (pR 19), some (pI frame), some (pI params), some (pI a), some (pI b), some (pI c0)] [] h5 Post
          exact Ok.vret dX2_openCall_115 rfl (by decide) K
      · replace K := K.2 c8
        refine Ok.iload (pc' := 92) rfl dX2_openCall_90 rfl ?_
        refine Ok.goto (tgt := 96) dX2_openCall_92 rfl ?_
        refine Ok.callV (pc' := 99) (av := [pI 1, pI b]) (rest := []) dX2_openCall_96 rfl (by decide) cvX2_openCall_170 (shC_19 _) rfl rfl rfl (leb rfl) (leb rfl) K (fun r_ h6 K => ?_)
        show Ok shC 0 0 mX2_openCall 99 [some (pR 19), some (pI frame), some (pI params), some (pI a), some (pI b), some (pI c0)] [] h6 Post
        refine Ok.aload_n (pc' := 100) rfl dX2_openCall_99 rfl ?_
        refine Ok.iconst (pc' := 101) in_2 dX2_openCall_100 rfl ?_
        refine Ok.iload_n (pc' := 102) rfl dX2_openCall_101 rfl ?_
        refine Ok.iconst (pc' := 103) in_2 dX2_openCall_102 rfl ?_
        refine Ok.icmp_le (tgt := 111) dX2_openCall_103 rfl rfl (fun c9 => ?_) (fun c9 => ?_)
        · replace K := K.1 c9
          refine Ok.iconst (pc' := 112) in_0 dX2_openCall_111 rfl ?_
          refine Ok.callV (pc' := 115) (av := [pI 2, pI 0]) (rest := []) dX2_openCall_112 rfl (by decide) cvX2_openCall_170 (shC_19 _) rfl rfl rfl (leb rfl) (leb rfl) K (fun r_ h7 K => ?_)
          show Ok shC 0 0 mX2_openCall 115 [some (pR 19), some (pI frame), some (pI params), some (pI a), some (pI b), some (pI c0)] [] h7 Post
          exact Ok.vret dX2_openCall_115 rfl (by decide) K
        · replace K := K.2 c9
          refine Ok.iload (pc' := 108) rfl dX2_openCall_106 rfl ?_
          refine Ok.goto (tgt := 112) dX2_openCall_108 rfl ?_
          refine Ok.callV (pc' := 115) (av := [pI 2, pI c0]) (rest := []) dX2_openCall_112 rfl (by decide) cvX2_openCall_170 (shC_19 _) rfl rfl rfl (leb rfl) (leb rfl) K (fun r_ h8 K => ?_)
          show Ok shC 0 0 mX2_openCall 115 [some (pR 19), some (pI frame), some (pI params), some (pI a), some (pI b), some (pI c0)] [] h8 Post
          exact Ok.vret dX2_openCall_115 rfl (by decide) K
    · replace K := K.2 c7
      refine Ok.iload_n (pc' := 76) rfl dX2_openCall_75 rfl ?_
      refine Ok.goto (tgt := 80) dX2_openCall_76 rfl ?_
      refine Ok.callV (pc' := 83) (av := [pI 0, pI a]) (rest := []) dX2_openCall_80 rfl (by decide) cvX2_openCall_170 (shC_19 _) rfl rfl rfl (leb rfl) (leb rfl) K (fun r_ h9 K => ?_)
      show Ok shC 0 0 mX2_openCall 83 [some (pR 19), some (pI frame), some (pI params), some (pI a), some (pI b), some (pI c0)] [] h9 Post
      refine Ok.aload_n (pc' := 84) rfl dX2_openCall_83 rfl ?_
      refine Ok.iconst (pc' := 85) in_1 dX2_openCall_84 rfl ?_
      refine Ok.iload_n (pc' := 86) rfl dX2_openCall_85 rfl ?_
      refine Ok.iconst (pc' := 87) in_1 dX2_openCall_86 rfl ?_
      refine Ok.icmp_le (tgt := 95) dX2_openCall_87 rfl rfl (fun c8 => ?_) (fun c8 => ?_)
      · replace K := K.1 c8
        refine Ok.iconst (pc' := 96) in_0 dX2_openCall_95 rfl ?_
        refine Ok.callV (pc' := 99) (av := [pI 1, pI 0]) (rest := []) dX2_openCall_96 rfl (by decide) cvX2_openCall_170 (shC_19 _) rfl rfl rfl (leb rfl) (leb rfl) K (fun r_ h10 K => ?_)
        show Ok shC 0 0 mX2_openCall 99 [some (pR 19), some (pI frame), some (pI params), some (pI a), some (pI b), some (pI c0)] [] h10 Post
        refine Ok.aload_n (pc' := 100) rfl dX2_openCall_99 rfl ?_
        refine Ok.iconst (pc' := 101) in_2 dX2_openCall_100 rfl ?_
        refine Ok.iload_n (pc' := 102) rfl dX2_openCall_101 rfl ?_
        refine Ok.iconst (pc' := 103) in_2 dX2_openCall_102 rfl ?_
        refine Ok.icmp_le (tgt := 111) dX2_openCall_103 rfl rfl (fun c9 => ?_) (fun c9 => ?_)
        · replace K := K.1 c9
          refine Ok.iconst (pc' := 112) in_0 dX2_openCall_111 rfl ?_
          refine Ok.callV (pc' := 115) (av := [pI 2, pI 0]) (rest := []) dX2_openCall_112 rfl (by decide) cvX2_openCall_170 (shC_19 _) rfl rfl rfl (leb rfl) (leb rfl) K (fun r_ h11 K => ?_)
          show Ok shC 0 0 mX2_openCall 115 [some (pR 19), some (pI frame), some (pI params), some (pI a), some (pI b), some (pI c0)] [] h11 Post
          exact Ok.vret dX2_openCall_115 rfl (by decide) K
        · replace K := K.2 c9
          refine Ok.iload (pc' := 108) rfl dX2_openCall_106 rfl ?_
          refine Ok.goto (tgt := 112) dX2_openCall_108 rfl ?_
          refine Ok.callV (pc' := 115) (av := [pI 2, pI c0]) (rest := []) dX2_openCall_112 rfl (by decide) cvX2_openCall_170 (shC_19 _) rfl rfl rfl (leb rfl) (leb rfl) K (fun r_ h12 K => ?_)
          show Ok shC 0 0 mX2_openCall 115 [some (pR 19), some (pI frame), some (pI params), some (pI a), some (pI b), some (pI c0)] [] h12 Post
          exact Ok.vret dX2_openCall_115 rfl (by decide) K
      · replace K := K.2 c8
        refine Ok.iload (pc' := 92) rfl dX2_openCall_90 rfl ?_
        refine Ok.goto (tgt := 96) dX2_openCall_92 rfl ?_
        refine Ok.callV (pc' := 99) (av := [pI 1, pI b]) (rest := []) dX2_openCall_96 rfl (by decide) cvX2_openCall_170 (shC_19 _) rfl rfl rfl (leb rfl) (leb rfl) K (fun r_ h13 K => ?_)
        show Ok shC 0 0 mX2_openCall 99 [some (pR 19), some (pI frame), some (pI params), some (pI a), some (pI b), some (pI c0)] [] h13 Post
        refine Ok.aload_n (pc' := 100) rfl dX2_openCall_99 rfl ?_
        refine Ok.iconst (pc' := 101) in_2 dX2_openCall_100 rfl ?_
        refine Ok.iload_n (pc' := 102) rfl dX2_openCall_101 rfl ?_
        refine Ok.iconst (pc' := 103) in_2 dX2_openCall_102 rfl ?_
        refine Ok.icmp_le (tgt := 111) dX2_openCall_103 rfl rfl (fun c9 => ?_) (fun c9 => ?_)
        · replace K := K.1 c9
          refine Ok.iconst (pc' := 112) in_0 dX2_openCall_111 rfl ?_
          refine Ok.callV (pc' := 115) (av := [pI 2, pI 0]) (rest := []) dX2_openCall_112 rfl (by decide) cvX2_openCall_170 (shC_19 _) rfl rfl rfl (leb rfl) (leb rfl) K (fun r_ h14 K => ?_)
          show Ok shC 0 0 mX2_openCall 115 [some (pR 19), some (pI frame), some (pI params), some (pI a), some (pI b), some (pI c0)] [] h14 Post
          exact Ok.vret dX2_openCall_115 rfl (by decide) K
        · replace K := K.2 c9
          refine Ok.iload (pc' := 108) rfl dX2_openCall_106 rfl ?_
          refine Ok.goto (tgt := 112) dX2_openCall_108 rfl ?_
          refine Ok.callV (pc' := 115) (av := [pI 2, pI c0]) (rest := []) dX2_openCall_112 rfl (by decide) cvX2_openCall_170 (shC_19 _) rfl rfl rfl (leb rfl) (leb rfl) K (fun r_ h15 K => ?_)
          show Ok shC 0 0 mX2_openCall 115 [some (pR 19), some (pI frame), some (pI params), some (pI a), some (pI b), some (pI c0)] [] h15 Post
          exact Ok.vret dX2_openCall_115 rfl (by decide) K
  · replace K := K.2 c1
    exact Ok.vret dX2_openCall_9 rfl (by decide) K
theorem sX2_conclude_0 {frame step kind : Int} {h : Hp} {Post : Int → Hp → Prop}
    (K : inR ((frame * 4)) ∧ (∃ k2 : Nat, (frame * 4) = (k2 : Int) ∧ k2 < 1920 ∧ (inR (((frame * 4) + 1)) ∧ (∃ k4 : Nat, ((frame * 4) + 1) = (k4 : Int) ∧ k4 < 1920 ∧ (((¬ kind = 2) → ((¬ kind = 4) → ((¬ kind = 5) → ((¬ kind = 7) → ((kind = 9) → Cl shC mX2_concludePlace [pR 19, pI step, pI kind, pI (h.1 27 k2), pI (h.1 27 k4)] h (fun _ h1 => Post 0 h1)) ∧ ((¬ kind = 9) → ((¬ kind = 10) → Cl shC mX2_finish [pR 19, pI (h.1 27 k2)] h (fun _ h2 => Post 0 h2)) ∧ ((kind = 10) → Cl shC mX2_concludePlace [pR 19, pI step, pI kind, pI (h.1 27 k2), pI (h.1 27 k4)] h (fun _ h3 => Post 0 h3)))) ∧ ((kind = 7) → Cl shC mX2_leaveWith [pR 19, pI (h.1 27 k2)] h (fun _ h4 => Post 0 h4))) ∧ ((kind = 5) → Cl shC mX2_finish [pR 19, pI (h.1 27 k4)] h (fun _ h5 => Post 0 h5))) ∧ ((kind = 4) → Cl shC mX1_numberOf [pR 1, pI step] h (fun r6 h6 => Cl shC mX2_writeName [pR 19, pI r6, pI (h.1 27 k2)] h6 (fun _ h7 => Cl shC mX2_finish [pR 19, pI (h.1 27 k2)] h7 (fun _ h8 => Post 0 h8))))) ∧ ((kind = 2) → Cl shC mX2_concludeAct [pR 19, pI step, pI (h.1 27 k2), pI (h.1 27 k4)] h (fun _ h9 => Post 0 h9))))))) :
    Cl shC mX2_conclude [pR 19, pI frame, pI step, pI kind] h Post := by
  show Ok shC 0 0 mX2_conclude 0 [some (pR 19), some (pI frame), some (pI step), some (pI kind), none, none] [] h Post
  refine Ok.aload_n (pc' := 1) rfl dX2_conclude_0 rfl ?_
  refine Ok.getR (pc' := 4) (k := 8) dX2_conclude_1 rfl (shC_19 _) rfl inX2 (by decide) rfl wd_218 rfl ?_
  refine Ok.iload_n (pc' := 5) rfl dX2_conclude_4 rfl ?_
  refine Ok.iconst (pc' := 6) in_4 dX2_conclude_5 rfl ?_
  obtain ⟨q1, K⟩ := K
  refine Ok.imul (pc' := 7) dX2_conclude_6 rfl q1 ?_
  obtain ⟨k2, e2, q2, K⟩ := K
  refine Ok.iald (pc' := 8) (z := h.1 27 k2) dX2_conclude_7 rfl (shC_27 _) (by decide) e2 q2 rfl ?_
  refine Ok.istore (pc' := 10) (ls' := [some (pR 19), some (pI frame), some (pI step), some (pI kind), some (pI (h.1 27 k2)), none]) dX2_conclude_8 rfl (by decide) rfl rfl ?_
  refine Ok.aload_n (pc' := 11) rfl dX2_conclude_10 rfl ?_
  refine Ok.getR (pc' := 14) (k := 8) dX2_conclude_11 rfl (shC_19 _) rfl inX2 (by decide) rfl wd_218 rfl ?_
  refine Ok.iload_n (pc' := 15) rfl dX2_conclude_14 rfl ?_
  refine Ok.iconst (pc' := 16) in_4 dX2_conclude_15 rfl ?_
  refine Ok.imul (pc' := 17) dX2_conclude_16 rfl q1 ?_
  refine Ok.iconst (pc' := 18) in_1 dX2_conclude_17 rfl ?_
  obtain ⟨q3, K⟩ := K
  refine Ok.iadd (pc' := 19) dX2_conclude_18 rfl q3 ?_
  obtain ⟨k4, e4, q4, K⟩ := K
  refine Ok.iald (pc' := 20) (z := h.1 27 k4) dX2_conclude_19 rfl (shC_27 _) (by decide) e4 q4 rfl ?_
  refine Ok.istore (pc' := 22) (ls' := [some (pR 19), some (pI frame), some (pI step), some (pI kind), some (pI (h.1 27 k2)), some (pI (h.1 27 k4))]) dX2_conclude_20 rfl (by decide) rfl rfl ?_
  refine Ok.iload_n (pc' := 23) rfl dX2_conclude_22 rfl ?_
  refine Ok.iconst (pc' := 24) in_2 dX2_conclude_23 rfl ?_
  refine Ok.icmp_ne (tgt := 39) dX2_conclude_24 rfl rfl (fun c5 => ?_) (fun c5 => ?_)
  · replace K := K.1 c5
    refine Ok.iload_n (pc' := 40) rfl dX2_conclude_39 rfl ?_
    refine Ok.iconst (pc' := 41) in_4 dX2_conclude_40 rfl ?_
    refine Ok.icmp_ne (tgt := 67) dX2_conclude_41 rfl rfl (fun c6 => ?_) (fun c6 => ?_)
    · replace K := K.1 c6
      refine Ok.iload_n (pc' := 68) rfl dX2_conclude_67 rfl ?_
      refine Ok.iconst (pc' := 69) in_5 dX2_conclude_68 rfl ?_
      refine Ok.icmp_ne (tgt := 81) dX2_conclude_69 rfl rfl (fun c7 => ?_) (fun c7 => ?_)
      · replace K := K.1 c7
        refine Ok.iload_n (pc' := 82) rfl dX2_conclude_81 rfl ?_
        refine Ok.bipush (pc' := 84) ⟨by decide, by decide⟩ dX2_conclude_82 rfl ?_
        refine Ok.icmp_ne (tgt := 96) dX2_conclude_84 rfl rfl (fun c8 => ?_) (fun c8 => ?_)
        · replace K := K.1 c8
          refine Ok.iload_n (pc' := 97) rfl dX2_conclude_96 rfl ?_
          refine Ok.bipush (pc' := 99) ⟨by decide, by decide⟩ dX2_conclude_97 rfl ?_
          refine Ok.icmp_eq (tgt := 108) dX2_conclude_99 rfl rfl (fun c9 => ?_) (fun c9 => ?_)
          · replace K := K.1 c9
            refine Ok.aload_n (pc' := 109) rfl dX2_conclude_108 rfl ?_
            refine Ok.iload_n (pc' := 110) rfl dX2_conclude_109 rfl ?_
            refine Ok.iload_n (pc' := 111) rfl dX2_conclude_110 rfl ?_
            refine Ok.iload (pc' := 113) rfl dX2_conclude_111 rfl ?_
            refine Ok.iload (pc' := 115) rfl dX2_conclude_113 rfl ?_
            refine Ok.callV (pc' := 118) (av := [pI step, pI kind, pI (h.1 27 k2), pI (h.1 27 k4)]) (rest := []) dX2_conclude_115 rfl (by decide) cvX2_conclude_179 (shC_19 _) rfl rfl rfl (leb rfl) (leb rfl) K (fun r_ h1 K => ?_)
            show Ok shC 0 0 mX2_conclude 118 [some (pR 19), some (pI frame), some (pI step), some (pI kind), some (pI (h.1 27 k2)), some (pI (h.1 27 k4))] [] h1 Post
            refine Ok.goto (tgt := 127) dX2_conclude_118 rfl ?_
            exact Ok.vret dX2_conclude_127 rfl (by decide) K
          · replace K := K.2 c9
            refine Ok.iload_n (pc' := 103) rfl dX2_conclude_102 rfl ?_
            refine Ok.bipush (pc' := 105) ⟨by decide, by decide⟩ dX2_conclude_103 rfl ?_
            refine Ok.icmp_ne (tgt := 121) dX2_conclude_105 rfl rfl (fun c10 => ?_) (fun c10 => ?_)
            · replace K := K.1 c10
              refine Ok.aload_n (pc' := 122) rfl dX2_conclude_121 rfl ?_
              refine Ok.iload (pc' := 124) rfl dX2_conclude_122 rfl ?_
              refine Ok.callV (pc' := 127) (av := [pI (h.1 27 k2)]) (rest := []) dX2_conclude_124 rfl (by decide) cvX2_conclude_152 (shC_19 _) rfl rfl rfl (leb rfl) (leb rfl) K (fun r_ h2 K => ?_)
              show Ok shC 0 0 mX2_conclude 127 [some (pR 19), some (pI frame), some (pI step), some (pI kind), some (pI (h.1 27 k2)), some (pI (h.1 27 k4))] [] h2 Post
              exact Ok.vret dX2_conclude_127 rfl (by decide) K
            · replace K := K.2 c10
              refine Ok.aload_n (pc' := 109) rfl dX2_conclude_108 rfl ?_
              refine Ok.iload_n (pc' := 110) rfl dX2_conclude_109 rfl ?_
              refine Ok.iload_n (pc' := 111) rfl dX2_conclude_110 rfl ?_
              refine Ok.iload (pc' := 113) rfl dX2_conclude_111 rfl ?_
              refine Ok.iload (pc' := 115) rfl dX2_conclude_113 rfl ?_
              refine Ok.callV (pc' := 118) (av := [pI step, pI kind, pI (h.1 27 k2), pI (h.1 27 k4)]) (rest := []) dX2_conclude_115 rfl (by decide) cvX2_conclude_179 (shC_19 _) rfl rfl rfl (leb rfl) (leb rfl) K (fun r_ h3 K => ?_)
              show Ok shC 0 0 mX2_conclude 118 [some (pR 19), some (pI frame), some (pI step), some (pI kind), some (pI (h.1 27 k2)), some (pI (h.1 27 k4))] [] h3 Post
              refine Ok.goto (tgt := 127) dX2_conclude_118 rfl ?_
              exact Ok.vret dX2_conclude_127 rfl (by decide) K
        · replace K := K.2 c8
          refine Ok.aload_n (pc' := 88) rfl dX2_conclude_87 rfl ?_
          refine Ok.iload (pc' := 90) rfl dX2_conclude_88 rfl ?_
          refine Ok.callV (pc' := 93) (av := [pI (h.1 27 k2)]) (rest := []) dX2_conclude_90 rfl (by decide) cvX2_conclude_176 (shC_19 _) rfl rfl rfl (leb rfl) (leb rfl) K (fun r_ h4 K => ?_)
          show Ok shC 0 0 mX2_conclude 93 [some (pR 19), some (pI frame), some (pI step), some (pI kind), some (pI (h.1 27 k2)), some (pI (h.1 27 k4))] [] h4 Post
          refine Ok.goto (tgt := 127) dX2_conclude_93 rfl ?_
          exact Ok.vret dX2_conclude_127 rfl (by decide) K
      · replace K := K.2 c7
        refine Ok.aload_n (pc' := 73) rfl dX2_conclude_72 rfl ?_
        refine Ok.iload (pc' := 75) rfl dX2_conclude_73 rfl ?_
        refine Ok.callV (pc' := 78) (av := [pI (h.1 27 k4)]) (rest := []) dX2_conclude_75 rfl (by decide) cvX2_conclude_152 (shC_19 _) rfl rfl rfl (leb rfl) (leb rfl) K (fun r_ h5 K => ?_)
        show Ok shC 0 0 mX2_conclude 78 [some (pR 19), some (pI frame), some (pI step), some (pI kind), some (pI (h.1 27 k2)), some (pI (h.1 27 k4))] [] h5 Post
        refine Ok.goto (tgt := 127) dX2_conclude_78 rfl ?_
        exact Ok.vret dX2_conclude_127 rfl (by decide) K
    · replace K := K.2 c6
      refine Ok.aload_n (pc' := 45) rfl dX2_conclude_44 rfl ?_
      refine Ok.aload_n (pc' := 46) rfl dX2_conclude_45 rfl ?_
      refine Ok.getR (pc' := 49) (k := 0) dX2_conclude_46 rfl (shC_19 _) rfl inX2 (by decide) rfl wd_210 rfl ?_
      refine Ok.iload_n (pc' := 50) rfl dX2_conclude_49 rfl ?_
      refine Ok.callV (pc' := 53) (av := [pI step]) (rest := [pR 19]) dX2_conclude_50 rfl (by decide) cvX2_conclude_123 (shC_1 _) rfl rfl rfl (leb rfl) (leb rfl) K (fun r6 h6 K => ?_)
      show Ok shC 0 0 mX2_conclude 53 [some (pR 19), some (pI frame), some (pI step), some (pI kind), some (pI (h.1 27 k2)), some (pI (h.1 27 k4))] [pI r6, pR 19] h6 Post
      refine Ok.iload (pc' := 55) rfl dX2_conclude_53 rfl ?_
      refine Ok.callV (pc' := 58) (av := [pI r6, pI (h.1 27 k2)]) (rest := []) dX2_conclude_55 rfl (by decide) cvX2_conclude_170 (shC_19 _) rfl rfl rfl (leb rfl) (leb rfl) K (fun r_ h7 K => ?_)
      show Ok shC 0 0 mX2_conclude 58 [some (pR 19), some (pI frame), some (pI step), some (pI kind), some (pI (h.1 27 k2)), some (pI (h.1 27 k4))] [] h7 Post
      refine Ok.aload_n (pc' := 59) rfl dX2_conclude_58 rfl ?_
      refine Ok.iload (pc' := 61) rfl dX2_conclude_59 rfl ?_
      refine Ok.callV (pc' := 64) (av := [pI (h.1 27 k2)]) (rest := []) dX2_conclude_61 rfl (by decide) cvX2_conclude_152 (shC_19 _) rfl rfl rfl (leb rfl) (leb rfl) K (fun r_ h8 K => ?_)
      show Ok shC 0 0 mX2_conclude 64 [some (pR 19), some (pI frame), some (pI step), some (pI kind), some (pI (h.1 27 k2)), some (pI (h.1 27 k4))] [] h8 Post
      refine Ok.goto (tgt := 127) dX2_conclude_64 rfl ?_
      exact Ok.vret dX2_conclude_127 rfl (by decide) K
  · replace K := K.2 c5
    refine Ok.aload_n (pc' := 28) rfl dX2_conclude_27 rfl ?_
    refine Ok.iload_n (pc' := 29) rfl dX2_conclude_28 rfl ?_
    refine Ok.iload (pc' := 31) rfl dX2_conclude_29 rfl ?_
    refine Ok.iload (pc' := 33) rfl dX2_conclude_31 rfl ?_
    refine Ok.callV (pc' := 36) (av := [pI step, pI (h.1 27 k2), pI (h.1 27 k4)]) (rest := []) dX2_conclude_33 rfl (by decide) cvX2_conclude_173 (shC_19 _) rfl rfl rfl (leb rfl) (leb rfl) K (fun r_ h9 K => ?_)
    show Ok shC 0 0 mX2_conclude 36 [some (pR 19), some (pI frame), some (pI step), some (pI kind), some (pI (h.1 27 k2)), some (pI (h.1 27 k4))] [] h9 Post
    refine Ok.goto (tgt := 127) dX2_conclude_36 rfl ?_
    exact Ok.vret dX2_conclude_127 rfl (by decide) K
theorem sX2_concludeAct_0 {step x y : Int} {h : Hp} {Post : Int → Hp → Prop}
    (K : Cl shC mX1_numberOf [pR 1, pI step] h (fun r1 h1 => ((¬ r1 = 3) → Cl shC mX8_reckon [pI r1, pI x, pI y] h1 (fun r2 h2 => Cl shC mX2_finish [pR 19, pI r2] h2 (fun _ h3 => Post 0 h3))) ∧ ((r1 = 3) → ((¬ y = 0) → Cl shC mX8_reckon [pI r1, pI x, pI y] h1 (fun r4 h4 => Cl shC mX2_finish [pR 19, pI r4] h4 (fun _ h5 => Post 0 h5))) ∧ ((y = 0) → Cl shC mX2_refuse [pR 19, pI 1, pI step] h1 (fun _ h6 => Post 0 h6))))) :
    Cl shC mX2_concludeAct [pR 19, pI step, pI x, pI y] h Post := by
  show Ok shC 0 0 mX2_concludeAct 0 [some (pR 19), some (pI step), some (pI x), some (pI y), none] [] h Post
  refine Ok.aload_n (pc' := 1) rfl dX2_concludeAct_0 rfl ?_
  refine Ok.getR (pc' := 4) (k := 0) dX2_concludeAct_1 rfl (shC_19 _) rfl inX2 (by decide) rfl wd_210 rfl ?_
  refine Ok.iload_n (pc' := 5) rfl dX2_concludeAct_4 rfl ?_
  refine Ok.callV (pc' := 8) (av := [pI step]) (rest := []) dX2_concludeAct_5 rfl (by decide) cvX2_concludeAct_123 (shC_1 _) rfl rfl rfl (leb rfl) (leb rfl) K (fun r1 h1 K => ?_)
  show Ok shC 0 0 mX2_concludeAct 8 [some (pR 19), some (pI step), some (pI x), some (pI y), none] [pI r1] h1 Post
  refine Ok.istore (pc' := 10) (ls' := [some (pR 19), some (pI step), some (pI x), some (pI y), some (pI r1)]) dX2_concludeAct_8 rfl (by decide) rfl rfl ?_
  refine Ok.iload (pc' := 12) rfl dX2_concludeAct_10 rfl ?_
  refine Ok.iconst (pc' := 13) in_3 dX2_concludeAct_12 rfl ?_
  refine Ok.icmp_ne (tgt := 29) dX2_concludeAct_13 rfl rfl (fun c1 => ?_) (fun c1 => ?_)
  · replace K := K.1 c1
    refine Ok.aload_n (pc' := 30) rfl dX2_concludeAct_29 rfl ?_
    refine Ok.iload (pc' := 32) rfl dX2_concludeAct_30 rfl ?_
    refine Ok.iload_n (pc' := 33) rfl dX2_concludeAct_32 rfl ?_
    refine Ok.iload_n (pc' := 34) rfl dX2_concludeAct_33 rfl ?_
    refine Ok.callSN (pc' := 37) (av := [pI r1, pI x, pI y]) (rest := [pR 19]) dX2_concludeAct_34 rfl (by decide) cvX2_concludeAct_183 rfl rfl (leb rfl) (leb rfl) K (fun r2 h2 K => ?_)
    show Ok shC 0 0 mX2_concludeAct 37 [some (pR 19), some (pI step), some (pI x), some (pI y), some (pI r1)] [pI r2, pR 19] h2 Post
    refine Ok.callV (pc' := 40) (av := [pI r2]) (rest := []) dX2_concludeAct_37 rfl (by decide) cvX2_concludeAct_152 (shC_19 _) rfl rfl rfl (leb rfl) (leb rfl) K (fun r_ h3 K => ?_)
    show Ok shC 0 0 mX2_concludeAct 40 [some (pR 19), some (pI step), some (pI x), some (pI y), some (pI r1)] [] h3 Post
    exact Ok.vret dX2_concludeAct_40 rfl (by decide) K
  · replace K := K.2 c1
    refine Ok.iload_n (pc' := 17) rfl dX2_concludeAct_16 rfl ?_
    refine Ok.if_ne (tgt := 29) dX2_concludeAct_17 rfl rfl (fun c2 => ?_) (fun c2 => ?_)
    · replace K := K.1 c2
      refine Ok.aload_n (pc' := 30) rfl dX2_concludeAct_29 rfl ?_
      refine Ok.iload (pc' := 32) rfl dX2_concludeAct_30 rfl ?_
      refine Ok.iload_n (pc' := 33) rfl dX2_concludeAct_32 rfl ?_
      refine Ok.iload_n (pc' := 34) rfl dX2_concludeAct_33 rfl ?_
      refine Ok.callSN (pc' := 37) (av := [pI r1, pI x, pI y]) (rest := [pR 19]) dX2_concludeAct_34 rfl (by decide) cvX2_concludeAct_183 rfl rfl (leb rfl) (leb rfl) K (fun r4 h4 K => ?_)
      show Ok shC 0 0 mX2_concludeAct 37 [some (pR 19), some (pI step), some (pI x), some (pI y), some (pI r1)] [pI r4, pR 19] h4 Post
      refine Ok.callV (pc' := 40) (av := [pI r4]) (rest := []) dX2_concludeAct_37 rfl (by decide) cvX2_concludeAct_152 (shC_19 _) rfl rfl rfl (leb rfl) (leb rfl) K (fun r_ h5 K => ?_)
      show Ok shC 0 0 mX2_concludeAct 40 [some (pR 19), some (pI step), some (pI x), some (pI y), some (pI r1)] [] h5 Post
      exact Ok.vret dX2_concludeAct_40 rfl (by decide) K
    · replace K := K.2 c2
      refine Ok.aload_n (pc' := 21) rfl dX2_concludeAct_20 rfl ?_
      refine Ok.iconst (pc' := 22) in_1 dX2_concludeAct_21 rfl ?_
      refine Ok.iload_n (pc' := 23) rfl dX2_concludeAct_22 rfl ?_
      refine Ok.callV (pc' := 26) (av := [pI 1, pI step]) (rest := []) dX2_concludeAct_23 rfl (by decide) cvX2_concludeAct_88 (shC_19 _) rfl rfl rfl (leb rfl) (leb rfl) K (fun r_ h6 K => ?_)
      show Ok shC 0 0 mX2_concludeAct 26 [some (pR 19), some (pI step), some (pI x), some (pI y), some (pI r1)] [] h6 Post
      refine Ok.goto (tgt := 40) dX2_concludeAct_26 rfl ?_
      exact Ok.vret dX2_concludeAct_40 rfl (by decide) K
theorem sX2_concludePlace_0 {step kind i0 v : Int} {h : Hp} {Post : Int → Hp → Prop}
    (K : ((i0 < 0) → Cl shC mX2_refuse [pR 19, pI 2, pI step] h (fun _ h1 => Post 0 h1)) ∧ ((¬ i0 < 0) → ((i0 < 8) → ((¬ kind = 10) → Cl shC mX2_reach [pR 19, pI i0] h (fun r2 h2 => Cl shC mX2_finish [pR 19, pI r2] h2 (fun _ h3 => Post 0 h3))) ∧ ((kind = 10) → Cl shC mX2_put [pR 19, pI i0, pI v] h (fun r4 h4 => Cl shC mX2_finish [pR 19, pI v] h4 (fun _ h5 => Post 0 h5)))) ∧ ((¬ i0 < 8) → Cl shC mX2_refuse [pR 19, pI 2, pI step] h (fun _ h6 => Post 0 h6)))) :
    Cl shC mX2_concludePlace [pR 19, pI step, pI kind, pI i0, pI v] h Post := by
  show Ok shC 0 0 mX2_concludePlace 0 [some (pR 19), some (pI step), some (pI kind), some (pI i0), some (pI v)] [] h Post
  refine Ok.iload_n (pc' := 1) rfl dX2_concludePlace_0 rfl ?_
  refine Ok.if_lt (tgt := 10) dX2_concludePlace_1 rfl rfl (fun c1 => ?_) (fun c1 => ?_)
  · replace K := K.1 c1
    refine Ok.aload_n (pc' := 11) rfl dX2_concludePlace_10 rfl ?_
    refine Ok.iconst (pc' := 12) in_2 dX2_concludePlace_11 rfl ?_
    refine Ok.iload_n (pc' := 13) rfl dX2_concludePlace_12 rfl ?_
    refine Ok.callV (pc' := 16) (av := [pI 2, pI step]) (rest := []) dX2_concludePlace_13 rfl (by decide) cvX2_concludePlace_88 (shC_19 _) rfl rfl rfl (leb rfl) (leb rfl) K (fun r_ h1 K => ?_)
    show Ok shC 0 0 mX2_concludePlace 16 [some (pR 19), some (pI step), some (pI kind), some (pI i0), some (pI v)] [] h1 Post
    refine Ok.goto (tgt := 51) dX2_concludePlace_16 rfl ?_
    exact Ok.vret dX2_concludePlace_51 rfl (by decide) K
  · replace K := K.2 c1
    refine Ok.iload_n (pc' := 5) rfl dX2_concludePlace_4 rfl ?_
    refine Ok.bipush (pc' := 7) ⟨by decide, by decide⟩ dX2_concludePlace_5 rfl ?_
    refine Ok.icmp_lt (tgt := 19) dX2_concludePlace_7 rfl rfl (fun c2 => ?_) (fun c2 => ?_)
    · replace K := K.1 c2
      refine Ok.iload_n (pc' := 20) rfl dX2_concludePlace_19 rfl ?_
      refine Ok.bipush (pc' := 22) ⟨by decide, by decide⟩ dX2_concludePlace_20 rfl ?_
      refine Ok.icmp_ne (tgt := 42) dX2_concludePlace_22 rfl rfl (fun c3 => ?_) (fun c3 => ?_)
      · replace K := K.1 c3
        refine Ok.aload_n (pc' := 43) rfl dX2_concludePlace_42 rfl ?_
        refine Ok.aload_n (pc' := 44) rfl dX2_concludePlace_43 rfl ?_
        refine Ok.iload_n (pc' := 45) rfl dX2_concludePlace_44 rfl ?_
        refine Ok.callV (pc' := 48) (av := [pI i0]) (rest := [pR 19]) dX2_concludePlace_45 rfl (by decide) cvX2_concludePlace_190 (shC_19 _) rfl rfl rfl (leb rfl) (leb rfl) K (fun r2 h2 K => ?_)
        show Ok shC 0 0 mX2_concludePlace 48 [some (pR 19), some (pI step), some (pI kind), some (pI i0), some (pI v)] [pI r2, pR 19] h2 Post
        refine Ok.callV (pc' := 51) (av := [pI r2]) (rest := []) dX2_concludePlace_48 rfl (by decide) cvX2_concludePlace_152 (shC_19 _) rfl rfl rfl (leb rfl) (leb rfl) K (fun r_ h3 K => ?_)
        show Ok shC 0 0 mX2_concludePlace 51 [some (pR 19), some (pI step), some (pI kind), some (pI i0), some (pI v)] [] h3 Post
        exact Ok.vret dX2_concludePlace_51 rfl (by decide) K
      · replace K := K.2 c3
        refine Ok.aload_n (pc' := 26) rfl dX2_concludePlace_25 rfl ?_
        refine Ok.iload_n (pc' := 27) rfl dX2_concludePlace_26 rfl ?_
        refine Ok.iload (pc' := 29) rfl dX2_concludePlace_27 rfl ?_
        refine Ok.callV (pc' := 32) (av := [pI i0, pI v]) (rest := []) dX2_concludePlace_29 rfl (by decide) cvX2_concludePlace_187 (shC_19 _) rfl rfl rfl (leb rfl) (leb rfl) K (fun r4 h4 K => ?_)
        show Ok shC 0 0 mX2_concludePlace 32 [some (pR 19), some (pI step), some (pI kind), some (pI i0), some (pI v)] [pI r4] h4 Post
        refine Ok.pop (pc' := 33) dX2_concludePlace_32 rfl rfl ?_
        refine Ok.aload_n (pc' := 34) rfl dX2_concludePlace_33 rfl ?_
        refine Ok.iload (pc' := 36) rfl dX2_concludePlace_34 rfl ?_
        refine Ok.callV (pc' := 39) (av := [pI v]) (rest := []) dX2_concludePlace_36 rfl (by decide) cvX2_concludePlace_152 (shC_19 _) rfl rfl rfl (leb rfl) (leb rfl) K (fun r_ h5 K => ?_)
        show Ok shC 0 0 mX2_concludePlace 39 [some (pR 19), some (pI step), some (pI kind), some (pI i0), some (pI v)] [] h5 Post
        refine Ok.goto (tgt := 51) dX2_concludePlace_39 rfl ?_
        exact Ok.vret dX2_concludePlace_51 rfl (by decide) K
    · replace K := K.2 c2
      refine Ok.aload_n (pc' := 11) rfl dX2_concludePlace_10 rfl ?_
      refine Ok.iconst (pc' := 12) in_2 dX2_concludePlace_11 rfl ?_
      refine Ok.iload_n (pc' := 13) rfl dX2_concludePlace_12 rfl ?_
      refine Ok.callV (pc' := 16) (av := [pI 2, pI step]) (rest := []) dX2_concludePlace_13 rfl (by decide) cvX2_concludePlace_88 (shC_19 _) rfl rfl rfl (leb rfl) (leb rfl) K (fun r_ h6 K => ?_)
      show Ok shC 0 0 mX2_concludePlace 16 [some (pR 19), some (pI step), some (pI kind), some (pI i0), some (pI v)] [] h6 Post
      refine Ok.goto (tgt := 51) dX2_concludePlace_16 rfl ?_
      exact Ok.vret dX2_concludePlace_51 rfl (by decide) K
theorem sX2_leaveWith_0 {v : Int} {h : Hp} {Post : Int → Hp → Prop}
    (K : ((h.2.1 19 10 ≤ 0) → inR ((h.2.1 19 9 - 1)) ∧ (Ok shC 0 0 mX2_leaveWith 30 [some (pR 19), some (pI v), some (pI (-1)), some (pI (h.2.1 19 9 - 1))] [] h Post)) ∧ ((¬ h.2.1 19 10 ≤ 0) → inR ((h.2.1 19 10 - 1)) ∧ (∃ k3 : Nat, (h.2.1 19 10 - 1) = (k3 : Int) ∧ k3 < 12 ∧ (inR ((h.2.1 19 9 - 1)) ∧ (Ok shC 0 0 mX2_leaveWith 30 [some (pR 19), some (pI v), some (pI (h.1 24 k3)), some (pI (h.2.1 19 9 - 1))] [] h Post))))) :
    Cl shC mX2_leaveWith [pR 19, pI v] h Post := by
  show Ok shC 0 0 mX2_leaveWith 0 [some (pR 19), some (pI v), none, none] [] h Post
  refine Ok.aload_n (pc' := 1) rfl dX2_leaveWith_0 rfl ?_
  refine Ok.getI (pc' := 4) (z := h.2.1 19 10) (k := 10) dX2_leaveWith_1 rfl (shC_19 _) rfl inX2 (by decide) rfl rfl wd_220 rfl ?_
  refine Ok.if_le (tgt := 21) dX2_leaveWith_4 rfl rfl (fun c1 => ?_) (fun c1 => ?_)
  · replace K := K.1 c1
    refine Ok.iconst (pc' := 22) in_m1 dX2_leaveWith_21 rfl ?_
    refine Ok.istore_n (pc' := 23) (ls' := [some (pR 19), some (pI v), some (pI (-1)), none]) dX2_leaveWith_22 rfl (by decide) rfl rfl ?_
    refine Ok.aload_n (pc' := 24) rfl dX2_leaveWith_23 rfl ?_
    refine Ok.getI (pc' := 27) (z := h.2.1 19 9) (k := 9) dX2_leaveWith_24 rfl (shC_19 _) rfl inX2 (by decide) rfl rfl wd_219 rfl ?_
    refine Ok.iconst (pc' := 28) in_1 dX2_leaveWith_27 rfl ?_
    obtain ⟨q2, K⟩ := K
    refine Ok.isub (pc' := 29) dX2_leaveWith_28 rfl q2 ?_
    refine Ok.istore_n (pc' := 30) (ls' := [some (pR 19), some (pI v), some (pI (-1)), some (pI (h.2.1 19 9 - 1))]) dX2_leaveWith_29 rfl (by decide) rfl rfl ?_
    exact K
  · replace K := K.2 c1
    refine Ok.aload_n (pc' := 8) rfl dX2_leaveWith_7 rfl ?_
    refine Ok.getR (pc' := 11) (k := 5) dX2_leaveWith_8 rfl (shC_19 _) rfl inX2 (by decide) rfl wd_215 rfl ?_
    refine Ok.aload_n (pc' := 12) rfl dX2_leaveWith_11 rfl ?_
    refine Ok.getI (pc' := 15) (z := h.2.1 19 10) (k := 10) dX2_leaveWith_12 rfl (shC_19 _) rfl inX2 (by decide) rfl rfl wd_220 rfl ?_
    refine Ok.iconst (pc' := 16) in_1 dX2_leaveWith_15 rfl ?_
    obtain ⟨q2, K⟩ := K
    refine Ok.isub (pc' := 17) dX2_leaveWith_16 rfl q2 ?_
    obtain ⟨k3, e3, q3, K⟩ := K
    refine Ok.iald (pc' := 18) (z := h.1 24 k3) dX2_leaveWith_17 rfl (shC_24 _) (by decide) e3 q3 rfl ?_
    refine Ok.goto (tgt := 22) dX2_leaveWith_18 rfl ?_
    refine Ok.istore_n (pc' := 23) (ls' := [some (pR 19), some (pI v), some (pI (h.1 24 k3)), none]) dX2_leaveWith_22 rfl (by decide) rfl rfl ?_
    refine Ok.aload_n (pc' := 24) rfl dX2_leaveWith_23 rfl ?_
    refine Ok.getI (pc' := 27) (z := h.2.1 19 9) (k := 9) dX2_leaveWith_24 rfl (shC_19 _) rfl inX2 (by decide) rfl rfl wd_219 rfl ?_
    refine Ok.iconst (pc' := 28) in_1 dX2_leaveWith_27 rfl ?_
    obtain ⟨q4, K⟩ := K
    refine Ok.isub (pc' := 29) dX2_leaveWith_28 rfl q4 ?_
    refine Ok.istore_n (pc' := 30) (ls' := [some (pR 19), some (pI v), some (pI (h.1 24 k3)), some (pI (h.2.1 19 9 - 1))]) dX2_leaveWith_29 rfl (by decide) rfl rfl ?_
    exact K
theorem sX2_leaveWith_30 {v v2 v3 : Int} {h : Hp} {Post : Int → Hp → Prop}
    (K : ((v3 ≤ v2) → inR ((v2 + 1)) ∧ (Cl shC mX2_deliver [pR 19, pI v] (hI h 19 9 (v2 + 1)) (fun _ h1 => Post 0 h1))) ∧ ((¬ v3 ≤ v2) → ∃ k2 : Nat, v3 = (k2 : Int) ∧ k2 < 480 ∧ (Cl shC mX1_kindOf [pR 1, pI (h.1 25 k2)] h (fun r2 h2 => ((r2 = 11) → Cl shC mX2_deliver [pR 19, pI v] (hI h2 19 9 v3) (fun _ h3 => Post 0 h3)) ∧ ((¬ r2 = 11) → inR ((v3 + (-1))) ∧ (Ok shC 0 0 mX2_leaveWith 30 [some (pR 19), some (pI v), some (pI v2), some (pI (v3 + (-1)))] [] h2 Post)))))) :
    Ok shC 0 0 mX2_leaveWith 30 [some (pR 19), some (pI v), some (pI v2), some (pI v3)] [] h Post := by
  show Ok shC 0 0 mX2_leaveWith 30 [some (pR 19), some (pI v), some (pI v2), some (pI v3)] [] h Post
  refine Ok.iload_n (pc' := 31) rfl dX2_leaveWith_30 rfl ?_
  refine Ok.iload_n (pc' := 32) rfl dX2_leaveWith_31 rfl ?_
  refine Ok.icmp_le (tgt := 59) dX2_leaveWith_32 rfl rfl (fun c1 => ?_) (fun c1 => ?_)
  · replace K := K.1 c1
    refine Ok.aload_n (pc' := 60) rfl dX2_leaveWith_59 rfl ?_
    refine Ok.iload_n (pc' := 61) rfl dX2_leaveWith_60 rfl ?_
    refine Ok.iload_n (pc' := 62) rfl dX2_leaveWith_61 rfl ?_
    refine Ok.icmp_le (tgt := 69) dX2_leaveWith_62 rfl rfl (fun _ => ?_) (fun z => absurd c1 z)
    refine Ok.iload_n (pc' := 70) rfl dX2_leaveWith_69 rfl ?_
    refine Ok.iconst (pc' := 71) in_1 dX2_leaveWith_70 rfl ?_
    obtain ⟨q2, K⟩ := K
    refine Ok.iadd (pc' := 72) dX2_leaveWith_71 rfl q2 ?_
    refine Ok.putI (pc' := 75) (k := 9) dX2_leaveWith_72 rfl (shC_19 _) rfl inX2 tyX2 tyX2_ok nmX2 (by decide) rfl wd_219 rfl rfl (Or.inl rfl) ?_
    refine Ok.aload_n (pc' := 76) rfl dX2_leaveWith_75 rfl ?_
    refine Ok.iload_n (pc' := 77) rfl dX2_leaveWith_76 rfl ?_
    refine Ok.callV (pc' := 80) (av := [pI v]) (rest := []) dX2_leaveWith_77 rfl (by decide) cvX2_leaveWith_126 (shC_19 _) rfl rfl rfl (leb rfl) (leb rfl) K (fun r_ h1 K => ?_)
    show Ok shC 0 0 mX2_leaveWith 80 [some (pR 19), some (pI v), some (pI v2), some (pI v3)] [] h1 Post
    exact Ok.vret dX2_leaveWith_80 rfl (by decide) K
  · replace K := K.2 c1
    refine Ok.aload_n (pc' := 36) rfl dX2_leaveWith_35 rfl ?_
    refine Ok.getR (pc' := 39) (k := 0) dX2_leaveWith_36 rfl (shC_19 _) rfl inX2 (by decide) rfl wd_210 rfl ?_
    refine Ok.aload_n (pc' := 40) rfl dX2_leaveWith_39 rfl ?_
    refine Ok.getR (pc' := 43) (k := 6) dX2_leaveWith_40 rfl (shC_19 _) rfl inX2 (by decide) rfl wd_216 rfl ?_
    refine Ok.iload_n (pc' := 44) rfl dX2_leaveWith_43 rfl ?_
    obtain ⟨k2, e2, q2, K⟩ := K
    refine Ok.iald (pc' := 45) (z := h.1 25 k2) dX2_leaveWith_44 rfl (shC_25 _) (by decide) e2 q2 rfl ?_
    refine Ok.callV (pc' := 48) (av := [pI (h.1 25 k2)]) (rest := []) dX2_leaveWith_45 rfl (by decide) cvX2_leaveWith_110 (shC_1 _) rfl rfl rfl (leb rfl) (leb rfl) K (fun r2 h2 K => ?_)
    show Ok shC 0 0 mX2_leaveWith 48 [some (pR 19), some (pI v), some (pI v2), some (pI v3)] [pI r2] h2 Post
    refine Ok.bipush (pc' := 50) ⟨by decide, by decide⟩ dX2_leaveWith_48 rfl ?_
    refine Ok.icmp_eq (tgt := 59) dX2_leaveWith_50 rfl rfl (fun c3 => ?_) (fun c3 => ?_)
    · replace K := K.1 c3
      refine Ok.aload_n (pc' := 60) rfl dX2_leaveWith_59 rfl ?_
      refine Ok.iload_n (pc' := 61) rfl dX2_leaveWith_60 rfl ?_
      refine Ok.iload_n (pc' := 62) rfl dX2_leaveWith_61 rfl ?_
      refine Ok.icmp_le (tgt := 69) dX2_leaveWith_62 rfl rfl (fun z => absurd z c1) (fun _ => ?_)
      refine Ok.iload_n (pc' := 66) rfl dX2_leaveWith_65 rfl ?_
      refine Ok.goto (tgt := 72) dX2_leaveWith_66 rfl ?_
      refine Ok.putI (pc' := 75) (k := 9) dX2_leaveWith_72 rfl (shC_19 _) rfl inX2 tyX2 tyX2_ok nmX2 (by decide) rfl wd_219 rfl rfl (Or.inl rfl) ?_
      refine Ok.aload_n (pc' := 76) rfl dX2_leaveWith_75 rfl ?_
      refine Ok.iload_n (pc' := 77) rfl dX2_leaveWith_76 rfl ?_
      refine Ok.callV (pc' := 80) (av := [pI v]) (rest := []) dX2_leaveWith_77 rfl (by decide) cvX2_leaveWith_126 (shC_19 _) rfl rfl rfl (leb rfl) (leb rfl) K (fun r_ h3 K => ?_)
      show Ok shC 0 0 mX2_leaveWith 80 [some (pR 19), some (pI v), some (pI v2), some (pI v3)] [] h3 Post
      exact Ok.vret dX2_leaveWith_80 rfl (by decide) K
    · replace K := K.2 c3
      obtain ⟨q4, K⟩ := K
      refine Ok.iinc (pc' := 56) (ls' := [some (pR 19), some (pI v), some (pI v2), some (pI (v3 + (-1)))]) dX2_leaveWith_53 rfl rfl (by decide) rfl rfl q4 ?_
      refine Ok.goto (tgt := 30) dX2_leaveWith_56 rfl ?_
      exact K
