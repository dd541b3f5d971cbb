theorem k_Re_cutTokens {κ : Kx} {μ : Sg} (a1 : Int) (σ : Sg) (ha1 : inR a1) (hok : okS σ) : CtV κ mX4_cutTokens 6 [vr 141, vi a1] false μ σ (Re_cutTokens a1 σ) := by
  intro τ h
  refine con_of (by decide) (Nat.le_of_ble_eq_true rfl) 4 ?_
  refine (?_ : Rk κ mX4_cutTokens _ 0 [some (vr 141), some (vi a1), none, none, none, none] [] (ms false μ σ) (Re_cutTokens a1 σ) (fun a => a = τ)) _ h rfl
  unfold Re_cutTokens
  refine Rk.sp (G_iload_n (pc := 0) 1 rfl rfl dX4_cutTokens_0) ?_
  refine Rk.cRS (pc := 1) (Cl.s [vi a1] [] dX4_cutTokens_1 ckX4_40 rfl rfl (Nat.le_of_ble_eq_true rfl) (Nat.le_of_ble_eq_true rfl)) (k_Re_wordsOf a1 ha1) (fun r1 hr1 => ?_)
  refine Rk.ast_n (pc := 4) 2 (L' := [some (vr 141), some (vi a1), some (vr (1000 + 2 * r1)), none, none, none]) rfl (Nat.le_of_ble_eq_true rfl) rfl dX4_cutTokens_4 rfl ?_
  refine Rk.sp (G_aload_n (pc := 5) 0 rfl rfl dX4_cutTokens_5) ?_
  refine Rk.gI (pc := 6) flX4_37 cl4 rfl lb141 dX4_cutTokens_6 ?_
  refine Rk.ist_n (pc := 9) 3 (fun v3_2 => [some (vr 141), some (vi a1), some (vr (1000 + 2 * r1)), some (vi v3_2), none, none]) rfl (Nat.le_of_ble_eq_true rfl) rfl dX4_cutTokens_9 (nmI (hok _ _)) (fun _ => rfl) (fun v3_2 hv3_2 => ?_)
  refine Rk.sp (G_aload_n (pc := 10) 0 rfl rfl dX4_cutTokens_10) ?_
  refine Rk.sp (G_iconst (pc := 11) dX4_cutTokens_11) ?_
  refine Rk.pI (pc := 12) hok (nmI (inRk 0 rfl)) flX4_37 cl4 rfl rfl lb141 dX4_cutTokens_12 (fun σ3 hσ3 => ?_)
  refine Rk.sp (G_aload_n (pc := 15) 0 rfl rfl dX4_cutTokens_15) ?_
  refine Rk.sp (G_iconst (pc := 16) dX4_cutTokens_16) ?_
  refine Rk.pI (pc := 17) hσ3 (nmI (inRk 0 rfl)) flX4_44 cl4 rfl rfl lb141 dX4_cutTokens_17 (fun σ4 hσ4 => ?_)
  refine Rk.sp (G_aload_n (pc := 20) 0 rfl rfl dX4_cutTokens_20) ?_
  refine Rk.sp (G_iconst (pc := 21) dX4_cutTokens_21) ?_
  refine Rk.pI (pc := 22) hσ4 (nmI (inRk (-1) rfl)) flX4_20 cl4 rfl rfl lb141 dX4_cutTokens_22 (fun σ5 hσ5 => ?_)
  refine Rk.sp (G_aload_n (pc := 25) 0 rfl rfl dX4_cutTokens_25) ?_
  refine Rk.sp (G_iconst (pc := 26) dX4_cutTokens_26) ?_
  refine Rk.pI (pc := 27) hσ5 (nmI (inRk 0 rfl)) flX4_47 cl4 rfl rfl lb141 dX4_cutTokens_27 (fun σ6 hσ6 => ?_)
  refine Rk.sp (G_aload_n (pc := 30) 0 rfl rfl dX4_cutTokens_30) ?_
  refine Rk.sp (G_iconst (pc := 31) dX4_cutTokens_31) ?_
  refine Rk.pI (pc := 32) hσ6 (nmI (inRk 0 rfl)) flX4_50 cl4 rfl rfl lb141 dX4_cutTokens_32 (fun σ7 hσ7 => ?_)
  refine Rk.sp (G_iconst (pc := 35) dX4_cutTokens_35) ?_
  refine Rk.isa_w (pc := 36) 4 (L' := [some (vr 141), some (vi a1), some (vr (1000 + 2 * r1)), some (vi v3_2), some (vi 0), none]) (Nat.le_of_ble_eq_true rfl) rfl dX4_cutTokens_36 rfl ?_
  refine Rk.sp (G_iconst (pc := 38) dX4_cutTokens_38) ?_
  refine Rk.isa_w (pc := 39) 5 (L' := [some (vr 141), some (vi a1), some (vr (1000 + 2 * r1)), some (vi v3_2), some (vi 0), some (vi 0)]) (Nat.le_of_ble_eq_true rfl) rfl dX4_cutTokens_39 rfl ?_
  refine Rk.fg [true, false, true, true, true, true] (L' := [some (vr 141), none, some (vr (1000 + 2 * r1)), some (vi v3_2), some (vi 0), some (vi 0)]) rfl ?_
  refine Rk.loop (pc := 41) (B := (fun p => Re_cutTokens_41_b v3_2 r1 p.1 p.2.1 p.2.2)) (fun p => inR p.1 ∧ inR p.2.1 ∧ okS p.2.2) (fun p => [some (vr 141), none, some (vr (1000 + 2 * r1)), some (vi v3_2), some (vi p.1), some (vi p.2.1)]) (fun p => (ms false μ p.2.2)) (fun p hp => ?_) (0, 0, σ7) ⟨(inRk 0 rfl), (inRk 0 rfl), hσ7⟩
  obtain ⟨v4_8, v5_9, σ10⟩ := p
  obtain ⟨hv4_8, hv5_9, hσ10⟩ := hp
  try dsimp only
  unfold Re_cutTokens_41_b
  refine Rk.sp (G_iload_w (pc := 41) 5 rfl dX4_cutTokens_41) ?_
  refine Rk.sp (G_sipush (pc := 43) dX4_cutTokens_43 rfl) ?_
  refine Rk.sel (A := 102) (B := 55) (st' := []) ?_ ?_ ?_
  · refine Rk.icmp_ge (pc := 46) (tgt := 102) dX4_cutTokens_46 (nmI hv5_9) (nmI (inRk 400 rfl)) rfl (fun hc11 => ?_) (fun hc11 => ?_)
    · refine Rk.sp (G_iload_w (pc := 49) 4 rfl dX4_cutTokens_49) ?_
      refine Rk.sp (G_iload_n (pc := 51) 3 rfl rfl dX4_cutTokens_51) ?_
      refine Rk.icmp_ge (pc := 52) (tgt := 102) dX4_cutTokens_52 (nmI hv4_8) (nmI hv3_2) rfl (fun hc12 => ?_) (fun hc12 => ?_)
      · exact Rk.end_ (fun h => h inZ0)
      · exact Rk.end_ (fun h => h inZ1)
    · exact Rk.end_ (fun h => h inZ1)
  · refine Rk.sp (G_aload_n (pc := 55) 0 rfl rfl dX4_cutTokens_55) ?_
    refine Rk.gR (pc := 56) 145 flX4_24 cl4 rfl lb141 dX4_cutTokens_56 ?_
    refine Rk.sp (G_iload_w (pc := 59) 4 rfl dX4_cutTokens_59) ?_
    refine Rk.al (pc := 61) lb145 dX4_cutTokens_61 (fun hi14 => ?_)
    refine Rk.sp (G_bipush (pc := 62) dX4_cutTokens_62 rfl) ?_
    refine Rk.icmp_eq (pc := 64) (tgt := 79) dX4_cutTokens_64 (nmI (hσ10 _ _)) (nmI (inRk 32 rfl)) rfl (fun hc15 => ?_) (fun hc15 => ?_)
    · refine Rk.sp (G_iload_w (pc := 79) 4 rfl dX4_cutTokens_79) ?_
      refine Rk.sp (G_iconst (pc := 81) dX4_cutTokens_81) ?_
      refine Rk.sp (G_iadd (pc := 82) dX4_cutTokens_82) ?_
      refine Rk.sp (G_goto (pc := 83) (tgt := 94) dX4_cutTokens_83 rfl) ?_
      refine Rk.ist_w (pc := 94) 4 (fun v4_16 => [some (vr 141), none, some (vr (1000 + 2 * r1)), some (vi v3_2), some (vi v4_16), some (vi v5_9)]) (Nat.le_of_ble_eq_true rfl) rfl dX4_cutTokens_94 (nmW _) (fun _ => rfl) (fun v4_16 hv4_16 => ?_)
      refine Rk.inc (pc := 96) 5 (fun v5_17 => [some (vr 141), none, some (vr (1000 + 2 * r1)), some (vi v3_2), some (vi v4_16), some (vi v5_17)]) rfl (Nat.le_of_ble_eq_true rfl) rfl dX4_cutTokens_96 (fun _ => rfl) (fun v5_17 hv5_17 => ?_)
      refine Rk.sp (G_goto (pc := 99) (tgt := 41) dX4_cutTokens_99 rfl) ?_
      exact Rk.end_ (fun h => h ⟨hv4_16, hv5_17, hσ10⟩)
    · refine Rk.sp (G_aload_n (pc := 67) 0 rfl rfl dX4_cutTokens_67) ?_
      refine Rk.gR (pc := 68) 145 flX4_24 cl4 rfl lb141 dX4_cutTokens_68 ?_
      refine Rk.sp (G_iload_w (pc := 71) 4 rfl dX4_cutTokens_71) ?_
      refine Rk.al (pc := 73) lb145 dX4_cutTokens_73 (fun hi18 => ?_)
      refine Rk.sp (G_bipush (pc := 74) dX4_cutTokens_74 rfl) ?_
      refine Rk.icmp_ne (pc := 76) (tgt := 86) dX4_cutTokens_76 (nmI (hσ10 _ _)) (nmI (inRk 10 rfl)) rfl (fun hc19 => ?_) (fun hc19 => ?_)
      · refine Rk.sp (G_iload_w (pc := 79) 4 rfl dX4_cutTokens_79) ?_
        refine Rk.sp (G_iconst (pc := 81) dX4_cutTokens_81) ?_
        refine Rk.sp (G_iadd (pc := 82) dX4_cutTokens_82) ?_
        refine Rk.sp (G_goto (pc := 83) (tgt := 94) dX4_cutTokens_83 rfl) ?_
        refine Rk.ist_w (pc := 94) 4 (fun v4_20 => [some (vr 141), none, some (vr (1000 + 2 * r1)), some (vi v3_2), some (vi v4_20), some (vi v5_9)]) (Nat.le_of_ble_eq_true rfl) rfl dX4_cutTokens_94 (nmW _) (fun _ => rfl) (fun v4_20 hv4_20 => ?_)
        refine Rk.inc (pc := 96) 5 (fun v5_21 => [some (vr 141), none, some (vr (1000 + 2 * r1)), some (vi v3_2), some (vi v4_20), some (vi v5_21)]) rfl (Nat.le_of_ble_eq_true rfl) rfl dX4_cutTokens_96 (fun _ => rfl) (fun v5_21 hv5_21 => ?_)
        refine Rk.sp (G_goto (pc := 99) (tgt := 41) dX4_cutTokens_99 rfl) ?_
        exact Rk.end_ (fun h => h ⟨hv4_20, hv5_21, hσ10⟩)
      · refine Rk.sp (G_aload_n (pc := 86) 0 rfl rfl dX4_cutTokens_86) ?_
        refine Rk.sp (G_aload_n (pc := 87) 2 rfl rfl dX4_cutTokens_87) ?_
        refine Rk.sp (G_iload_w (pc := 88) 4 rfl dX4_cutTokens_88) ?_
        refine Rk.sp (G_iload_n (pc := 90) 3 rfl rfl dX4_cutTokens_90) ?_
        refine Rk.cI (pc := 91) (Cl.v [vr (1000 + 2 * r1), vi v4_8, vi v3_2] [] dX4_cutTokens_91 ckX4_53 lb141 rfl rfl rfl (Nat.le_of_ble_eq_true rfl) (Nat.le_of_ble_eq_true rfl)) (k_Re_cutOne r1 v4_8 v3_2 σ10 hr1 hv4_8 hv3_2 hσ10) (fun r22 σ23 hr22 hσ23 => ?_)
        refine Rk.isa_w (pc := 94) 4 (L' := [some (vr 141), none, some (vr (1000 + 2 * r1)), some (vi v3_2), some (vi r22), some (vi v5_9)]) (Nat.le_of_ble_eq_true rfl) rfl dX4_cutTokens_94 rfl ?_
        refine Rk.inc (pc := 96) 5 (fun v5_24 => [some (vr 141), none, some (vr (1000 + 2 * r1)), some (vi v3_2), some (vi r22), some (vi v5_24)]) rfl (Nat.le_of_ble_eq_true rfl) rfl dX4_cutTokens_96 (fun _ => rfl) (fun v5_24 hv5_24 => ?_)
        refine Rk.sp (G_goto (pc := 99) (tgt := 41) dX4_cutTokens_99 rfl) ?_
        exact Rk.end_ (fun h => h ⟨hr22, hv5_24, hσ23⟩)
  · refine Rk.sp (G_aload_n (pc := 102) 0 rfl rfl dX4_cutTokens_102) ?_
    refine Rk.sp (G_iconst (pc := 103) dX4_cutTokens_103) ?_
    refine Rk.sp (G_iconst (pc := 104) dX4_cutTokens_104) ?_
    refine Rk.sp (G_iload_n (pc := 105) 3 rfl rfl dX4_cutTokens_105) ?_
    refine Rk.cV (pc := 106) (Cl.v [vi 0, vi 0, vi v3_2] [] dX4_cutTokens_106 ckX4_57 lb141 rfl rfl rfl (Nat.le_of_ble_eq_true rfl) (Nat.le_of_ble_eq_true rfl)) (k_Re_addToken 0 0 v3_2 σ10 (inRk 0 rfl) (inRk 0 rfl) hv3_2 hσ10) (fun σ13 hσ13 => ?_)
    exact Rk.end_ (fun h => G_return (pc := 109) rfl dX4_cutTokens_109 (q_V h hσ13))
theorem k_Re_widthOf {κ : Kx} {b : Bool} {μ σ : Sg} (a1 : Int) (ha1 : inR a1) : CtRI κ mX4_widthOf 0 [vi a1] b μ σ (Re_widthOf a1) := by
  intro r h
  refine con_of (by decide) (Nat.le_of_ble_eq_true rfl) 0 ?_
  refine (?_ : Rk κ mX4_widthOf _ 0 [some (vi a1)] [] (ms b μ σ) (Re_widthOf a1) (fun a => a = r)) _ h rfl
  unfold Re_widthOf
  refine Rk.sp (G_iload_n (pc := 0) 0 rfl rfl dX4_widthOf_0) ?_
  refine Rk.sp (G_iconst (pc := 1) dX4_widthOf_1) ?_
  refine Rk.icmp_ne (pc := 2) (tgt := 8) dX4_widthOf_2 (nmI ha1) (nmI (inRk 2 rfl)) rfl (fun hc1 => ?_) (fun hc1 => ?_)
  · refine Rk.sp (G_bipush (pc := 5) dX4_widthOf_5 rfl) ?_
    exact Rk.end_ (fun h => G_ireturn (pc := 7) rfl dX4_widthOf_7 (q_RI h (inRk 6 rfl)))
  · refine Rk.sp (G_iload_n (pc := 8) 0 rfl rfl dX4_widthOf_8) ?_
    refine Rk.sp (G_iconst (pc := 9) dX4_widthOf_9) ?_
    refine Rk.icmp_ne (pc := 10) (tgt := 17) dX4_widthOf_10 (nmI ha1) (nmI (inRk 3 rfl)) rfl (fun hc2 => ?_) (fun hc2 => ?_)
    · refine Rk.sp (G_iconst (pc := 13) dX4_widthOf_13) ?_
      refine Rk.sp (G_goto (pc := 14) (tgt := 18) dX4_widthOf_14 rfl) ?_
      exact Rk.end_ (fun h => G_ireturn (pc := 18) rfl dX4_widthOf_18 (q_RI h (inRk 2 rfl)))
    · refine Rk.sp (G_iconst (pc := 17) dX4_widthOf_17) ?_
      exact Rk.end_ (fun h => G_ireturn (pc := 18) rfl dX4_widthOf_18 (q_RI h (inRk 4 rfl)))
theorem k_Sh_clear {κ : Kx} {μ : Sg} (t0 : Nat) (a1 : Int) (σ : Sg) (ht0 : LB false t0 (1, 5)) (ha1 : inR a1) (hok : okS σ) : CtV κ mX5_clear 0 [vr t0, vi a1] false μ σ (Sh_clear t0 a1 σ) := by
  intro τ h
  refine con_of (by decide) (Nat.le_of_ble_eq_true rfl) 0 ?_
  refine (?_ : Rk κ mX5_clear _ 0 [some (vr t0), some (vi a1)] [] (ms false μ σ) (Sh_clear t0 a1 σ) (fun a => a = τ)) _ h rfl
  unfold Sh_clear
  refine Rk.sp (G_aload_n (pc := 0) 0 rfl rfl dX5_clear_0) ?_
  refine Rk.sp (G_iconst (pc := 1) dX5_clear_1) ?_
  refine Rk.pI (pc := 2) hok (nmI (inRk 0 rfl)) flX5_16 cl5 rfl rfl ht0 dX5_clear_2 (fun σ1 hσ1 => ?_)
  refine Rk.sp (G_aload_n (pc := 5) 0 rfl rfl dX5_clear_5) ?_
  refine Rk.sp (G_iload_n (pc := 6) 1 rfl rfl dX5_clear_6) ?_
  refine Rk.pI (pc := 7) hσ1 (nmI ha1) flX5_20 cl5 rfl rfl ht0 dX5_clear_7 (fun σ2 hσ2 => ?_)
  refine Rk.sp (G_aload_n (pc := 10) 0 rfl rfl dX5_clear_10) ?_
  refine Rk.sp (G_iconst (pc := 11) dX5_clear_11) ?_
  refine Rk.pI (pc := 12) hσ2 (nmI (inRk 0 rfl)) flX5_23 cl5 rfl rfl ht0 dX5_clear_12 (fun σ3 hσ3 => ?_)
  refine Rk.sp (G_aload_n (pc := 15) 0 rfl rfl dX5_clear_15) ?_
  refine Rk.sp (G_iconst (pc := 16) dX5_clear_16) ?_
  refine Rk.pI (pc := 17) hσ3 (nmI (inRk 0 rfl)) flX5_26 cl5 rfl rfl ht0 dX5_clear_17 (fun σ4 hσ4 => ?_)
  exact Rk.end_ (fun h => G_return (pc := 20) rfl dX5_clear_20 (q_V h hσ4))
theorem k_Sh_put {κ : Kx} {μ : Sg} (t0 : Nat) (a1 : Int) (σ : Sg) (ht0 : LB false t0 (1, 5)) (ha1 : inR a1) (hok : okS σ) : CtV κ mX5_put 0 [vr t0, vi a1] false μ σ (Sh_put t0 a1 σ) := by
  intro τ h
  refine con_of (by decide) (Nat.le_of_ble_eq_true rfl) 0 ?_
  refine (?_ : Rk κ mX5_put _ 0 [some (vr t0), some (vi a1)] [] (ms false μ σ) (Sh_put t0 a1 σ) (fun a => a = τ)) _ h rfl
  unfold Sh_put
  refine Rk.sp (G_aload_n (pc := 0) 0 rfl rfl dX5_put_0) ?_
  refine Rk.gI (pc := 1) flX5_23 cl5 rfl ht0 dX5_put_1 ?_
  refine Rk.sp (G_aload_n (pc := 4) 0 rfl rfl dX5_put_4) ?_
  refine Rk.gR (pc := 5) (t0 + 1) flX5_7 cl5 rfl ht0 dX5_put_5 ?_
  refine Rk.sp (G_arrlen (pc := 8) ((LBs ht0 1 (by decide))).1 dX5_put_8) ?_
  refine Rk.icmp_ge (pc := 9) (tgt := 32) dX5_put_9 (nmI (hok _ _)) (nmI (lnR _)) rfl (fun hc1 => ?_) (fun hc1 => ?_)
  · refine Rk.sp (G_aload_n (pc := 12) 0 rfl rfl dX5_put_12) ?_
    refine Rk.gR (pc := 13) (t0 + 1) flX5_7 cl5 rfl ht0 dX5_put_13 ?_
    refine Rk.sp (G_aload_n (pc := 16) 0 rfl rfl dX5_put_16) ?_
    refine Rk.gI (pc := 17) flX5_23 cl5 rfl ht0 dX5_put_17 ?_
    refine Rk.sp (G_iload_n (pc := 20) 1 rfl rfl dX5_put_20) ?_
    refine Rk.as (pc := 21) hok (nmI ha1) (LBs ht0 1 (by decide)) dX5_put_21 (fun hi3 σ2 hσ2 => ?_)
    refine Rk.sp (G_aload_n (pc := 22) 0 rfl rfl dX5_put_22) ?_
    refine Rk.sp (G_dup (pc := 23) dX5_put_23 (fun _ h => by cases h)) ?_
    refine Rk.gI (pc := 24) flX5_23 cl5 rfl ht0 dX5_put_24 ?_
    refine Rk.sp (G_iconst (pc := 27) dX5_put_27) ?_
    refine Rk.sp (G_iadd (pc := 28) dX5_put_28) ?_
    refine Rk.pI (pc := 29) hσ2 (nmW _) flX5_23 cl5 rfl rfl ht0 dX5_put_29 (fun σ4 hσ4 => ?_)
    exact Rk.end_ (fun h => G_return (pc := 32) rfl dX5_put_32 (q_V h hσ4))
  · exact Rk.end_ (fun h => G_return (pc := 32) rfl dX5_put_32 (q_V h hok))
theorem k_Re_parseLaw {κ : Kx} {μ : Sg} (σ : Sg) (hok : okS σ) : CtZ κ mX4_parseLaw 41 [vr 141] false μ σ (Re_parseLaw σ) := by
  intro r τ h
  refine con_of (by decide) (Nat.le_of_ble_eq_true rfl) 0 ?_
  refine (?_ : Rk κ mX4_parseLaw _ 0 [some (vr 141)] [] (ms false μ σ) (Re_parseLaw σ) (fun a => a = (r, τ))) _ h rfl
  unfold Re_parseLaw
  refine Rk.sp (G_aload_n (pc := 0) 0 rfl rfl dX4_parseLaw_0) ?_
  refine Rk.gR (pc := 1) 142 flX4_16 cl4 rfl lb141 dX4_parseLaw_1 ?_
  refine Rk.sp (G_aload_n (pc := 4) 0 rfl rfl dX4_parseLaw_4) ?_
  refine Rk.gR (pc := 5) 147 flX4_31 cl4 rfl lb141 dX4_parseLaw_5 ?_
  refine Rk.sp (G_aload_n (pc := 8) 0 rfl rfl dX4_parseLaw_8) ?_
  refine Rk.gI (pc := 9) flX4_50 cl4 rfl lb141 dX4_parseLaw_9 ?_
  refine Rk.al (pc := 12) lb147 dX4_parseLaw_12 (fun hi1 => ?_)
  refine Rk.cV (pc := 13) (Cl.v [vi (σ 147 ((σ 141 9)).toNat)] [] dX4_parseLaw_13 ckX4_122 lb142 rfl rfl rfl (Nat.le_of_ble_eq_true rfl) (Nat.le_of_ble_eq_true rfl)) (k_Sh_put 142 (σ 147 ((σ 141 9)).toNat) σ lb142 (hok _ _) hok) (fun σ2 hσ2 => ?_)
  refine Rk.sp (G_aload_n (pc := 16) 0 rfl rfl dX4_parseLaw_16) ?_
  refine Rk.cV (pc := 17) (Cl.v [] [] dX4_parseLaw_17 ckX4_125 lb141 rfl rfl rfl (Nat.le_of_ble_eq_true rfl) (Nat.le_of_ble_eq_true rfl)) (k_Re_advance σ2 hσ2) (fun σ3 hσ3 => ?_)
  refine Rk.sp (G_aload_n (pc := 20) 0 rfl rfl dX4_parseLaw_20) ?_
  refine Rk.gR (pc := 21) 142 flX4_16 cl4 rfl lb141 dX4_parseLaw_21 ?_
  refine Rk.sp (G_aload_n (pc := 24) 0 rfl rfl dX4_parseLaw_24) ?_
  refine Rk.gR (pc := 25) 142 flX4_16 cl4 rfl lb141 dX4_parseLaw_25 ?_
  refine Rk.gI (pc := 28) flX4_128 cl5 rfl lb142 dX4_parseLaw_28 ?_
  refine Rk.cV (pc := 31) (Cl.v [vi (σ3 142 3)] [] dX4_parseLaw_31 ckX4_122 lb142 rfl rfl rfl (Nat.le_of_ble_eq_true rfl) (Nat.le_of_ble_eq_true rfl)) (k_Sh_put 142 (σ3 142 3) σ3 lb142 (hσ3 _ _) hσ3) (fun σ4 hσ4 => ?_)
  refine Rk.sp (G_aload_n (pc := 34) 0 rfl rfl dX4_parseLaw_34) ?_
  refine Rk.cZ (pc := 35) (Cl.v [] [] dX4_parseLaw_35 ckX4_131 lb141 rfl rfl rfl (Nat.le_of_ble_eq_true rfl) (Nat.le_of_ble_eq_true rfl)) (k_Re_parseSum σ4 hσ4) (fun r5 σ6 hr5 hσ6 => ?_)
  refine Rk.if_ne (pc := 38) (tgt := 43) dX4_parseLaw_38 (nmI (inZ.R hr5)) rfl (fun hc7 => ?_) (fun hc7 => ?_)
  · refine Rk.sp (G_iconst (pc := 41) dX4_parseLaw_41) ?_
    exact Rk.end_ (fun h => G_zreturn (pc := 42) rfl (nz inZ0) dX4_parseLaw_42 (q_Z h inZ0 hσ6))
  · refine Rk.sp (G_aload_n (pc := 43) 0 rfl rfl dX4_parseLaw_43) ?_
    refine Rk.gR (pc := 44) 142 flX4_16 cl4 rfl lb141 dX4_parseLaw_44 ?_
    refine Rk.sp (G_aload_n (pc := 47) 0 rfl rfl dX4_parseLaw_47) ?_
    refine Rk.gR (pc := 48) 142 flX4_16 cl4 rfl lb141 dX4_parseLaw_48 ?_
    refine Rk.gI (pc := 51) flX4_128 cl5 rfl lb142 dX4_parseLaw_51 ?_
    refine Rk.cV (pc := 54) (Cl.v [vi (σ6 142 3)] [] dX4_parseLaw_54 ckX4_122 lb142 rfl rfl rfl (Nat.le_of_ble_eq_true rfl) (Nat.le_of_ble_eq_true rfl)) (k_Sh_put 142 (σ6 142 3) σ6 lb142 (hσ6 _ _) hσ6) (fun σ8 hσ8 => ?_)
    refine Rk.sp (G_aload_n (pc := 57) 0 rfl rfl dX4_parseLaw_57) ?_
    refine Rk.sp (G_iconst (pc := 58) dX4_parseLaw_58) ?_
    refine Rk.cRZ (pc := 59) (Cl.v [vi 5] [] dX4_parseLaw_59 ckX4_134 lb141 rfl rfl rfl (Nat.le_of_ble_eq_true rfl) (Nat.le_of_ble_eq_true rfl)) (k_Re_isWord 5 σ8 (inRk 5 rfl) hσ8) (fun r9 hr9 => ?_)
    refine Rk.if_eq (pc := 62) (tgt := 79) dX4_parseLaw_62 (nmI (inZ.R hr9)) rfl (fun hc10 => ?_) (fun hc10 => ?_)
    · refine Rk.sp (G_aload_n (pc := 79) 0 rfl rfl dX4_parseLaw_79) ?_
      refine Rk.gR (pc := 80) 142 flX4_16 cl4 rfl lb141 dX4_parseLaw_80 ?_
      refine Rk.sp (G_aload_n (pc := 83) 0 rfl rfl dX4_parseLaw_83) ?_
      refine Rk.gR (pc := 84) 142 flX4_16 cl4 rfl lb141 dX4_parseLaw_84 ?_
      refine Rk.gI (pc := 87) flX4_128 cl5 rfl lb142 dX4_parseLaw_87 ?_
      refine Rk.cV (pc := 90) (Cl.v [vi (σ8 142 3)] [] dX4_parseLaw_90 ckX4_122 lb142 rfl rfl rfl (Nat.le_of_ble_eq_true rfl) (Nat.le_of_ble_eq_true rfl)) (k_Sh_put 142 (σ8 142 3) σ8 lb142 (hσ8 _ _) hσ8) (fun σ11 hσ11 => ?_)
      refine Rk.sp (G_iconst (pc := 93) dX4_parseLaw_93) ?_
      exact Rk.end_ (fun h => G_zreturn (pc := 94) rfl (nz inZ1) dX4_parseLaw_94 (q_Z h inZ1 hσ11))
    · refine Rk.sp (G_aload_n (pc := 65) 0 rfl rfl dX4_parseLaw_65) ?_
      refine Rk.cV (pc := 66) (Cl.v [] [] dX4_parseLaw_66 ckX4_125 lb141 rfl rfl rfl (Nat.le_of_ble_eq_true rfl) (Nat.le_of_ble_eq_true rfl)) (k_Re_advance σ8 hσ8) (fun σ12 hσ12 => ?_)
      refine Rk.sp (G_aload_n (pc := 69) 0 rfl rfl dX4_parseLaw_69) ?_
      refine Rk.sp (G_iconst (pc := 70) dX4_parseLaw_70) ?_
      refine Rk.cZ (pc := 71) (Cl.v [vi 0] [] dX4_parseLaw_71 ckX4_137 lb141 rfl rfl rfl (Nat.le_of_ble_eq_true rfl) (Nat.le_of_ble_eq_true rfl)) (k_Re_parseCondition (Re_parseSingle 10) 39 (fun a σ ha hσ => k_Re_parseSingle 10 a σ ha hσ) (by decide) 0 σ12 (inRk 0 rfl) hσ12) (fun r13 σ14 hr13 hσ14 => ?_)
      refine Rk.if_ne (pc := 74) (tgt := 79) dX4_parseLaw_74 (nmI (inZ.R hr13)) rfl (fun hc15 => ?_) (fun hc15 => ?_)
      · refine Rk.sp (G_iconst (pc := 77) dX4_parseLaw_77) ?_
        exact Rk.end_ (fun h => G_zreturn (pc := 78) rfl (nz inZ0) dX4_parseLaw_78 (q_Z h inZ0 hσ14))
      · refine Rk.sp (G_aload_n (pc := 79) 0 rfl rfl dX4_parseLaw_79) ?_
        refine Rk.gR (pc := 80) 142 flX4_16 cl4 rfl lb141 dX4_parseLaw_80 ?_
        refine Rk.sp (G_aload_n (pc := 83) 0 rfl rfl dX4_parseLaw_83) ?_
        refine Rk.gR (pc := 84) 142 flX4_16 cl4 rfl lb141 dX4_parseLaw_84 ?_
        refine Rk.gI (pc := 87) flX4_128 cl5 rfl lb142 dX4_parseLaw_87 ?_
        refine Rk.cV (pc := 90) (Cl.v [vi (σ14 142 3)] [] dX4_parseLaw_90 ckX4_122 lb142 rfl rfl rfl (Nat.le_of_ble_eq_true rfl) (Nat.le_of_ble_eq_true rfl)) (k_Sh_put 142 (σ14 142 3) σ14 lb142 (hσ14 _ _) hσ14) (fun σ16 hσ16 => ?_)
        refine Rk.sp (G_iconst (pc := 93) dX4_parseLaw_93) ?_
        exact Rk.end_ (fun h => G_zreturn (pc := 94) rfl (nz inZ1) dX4_parseLaw_94 (q_Z h inZ1 hσ16))
theorem k_Re_takeNumber {κ : Kx} {μ : Sg} (a1 : Int) (a2 : Int) (σ : Sg) (ha1 : inR a1) (ha2 : inR a2) (hok : okS σ) : CtZ κ mX4_takeNumber 1 [vr 141, vi a1, vi a2] false μ σ (Re_takeNumber a1 a2 σ) := by
  intro r τ h
  refine con_of (by decide) (Nat.le_of_ble_eq_true rfl) 0 ?_
  refine (?_ : Rk κ mX4_takeNumber _ 0 [some (vr 141), some (vi a1), some (vi a2)] [] (ms false μ σ) (Re_takeNumber a1 a2 σ) (fun a => a = (r, τ))) _ h rfl
  unfold Re_takeNumber
  refine Rk.sp (G_aload_n (pc := 0) 0 rfl rfl dX4_takeNumber_0) ?_
  refine Rk.gR (pc := 1) 146 flX4_28 cl4 rfl lb141 dX4_takeNumber_1 ?_
  refine Rk.sp (G_aload_n (pc := 4) 0 rfl rfl dX4_takeNumber_4) ?_
  refine Rk.gI (pc := 5) flX4_50 cl4 rfl lb141 dX4_takeNumber_5 ?_
  refine Rk.al (pc := 8) lb146 dX4_takeNumber_8 (fun hi1 => ?_)
  refine Rk.sp (G_iconst (pc := 9) dX4_takeNumber_9) ?_
  refine Rk.icmp_eq (pc := 10) (tgt := 19) dX4_takeNumber_10 (nmI (hok _ _)) (nmI (inRk 2 rfl)) rfl (fun hc2 => ?_) (fun hc2 => ?_)
  · refine Rk.sp (G_aload_n (pc := 19) 0 rfl rfl dX4_takeNumber_19) ?_
    refine Rk.gR (pc := 20) 147 flX4_31 cl4 rfl lb141 dX4_takeNumber_20 ?_
    refine Rk.sp (G_aload_n (pc := 23) 0 rfl rfl dX4_takeNumber_23) ?_
    refine Rk.gI (pc := 24) flX4_50 cl4 rfl lb141 dX4_takeNumber_24 ?_
    refine Rk.al (pc := 27) lb147 dX4_takeNumber_27 (fun hi3 => ?_)
    refine Rk.sp (G_iload_n (pc := 28) 1 rfl rfl dX4_takeNumber_28) ?_
    refine Rk.sel (A := 45) (B := 51) (st' := []) ?_ ?_ ?_
    · refine Rk.icmp_lt (pc := 29) (tgt := 45) dX4_takeNumber_29 (nmI (hok _ _)) (nmI ha1) rfl (fun hc4 => ?_) (fun hc4 => ?_)
      · exact Rk.end_ (fun h => h inZ1)
      · refine Rk.sp (G_aload_n (pc := 32) 0 rfl rfl dX4_takeNumber_32) ?_
        refine Rk.gR (pc := 33) 147 flX4_31 cl4 rfl lb141 dX4_takeNumber_33 ?_
        refine Rk.sp (G_aload_n (pc := 36) 0 rfl rfl dX4_takeNumber_36) ?_
        refine Rk.gI (pc := 37) flX4_50 cl4 rfl lb141 dX4_takeNumber_37 ?_
        refine Rk.al (pc := 40) lb147 dX4_takeNumber_40 (fun hi5 => ?_)
        refine Rk.sp (G_iload_n (pc := 41) 2 rfl rfl dX4_takeNumber_41) ?_
        refine Rk.icmp_le (pc := 42) (tgt := 51) dX4_takeNumber_42 (nmI (hok _ _)) (nmI ha2) rfl (fun hc6 => ?_) (fun hc6 => ?_)
        · exact Rk.end_ (fun h => h inZ1)
        · exact Rk.end_ (fun h => h inZ0)
    · refine Rk.sp (G_aload_n (pc := 51) 0 rfl rfl dX4_takeNumber_51) ?_
      refine Rk.gR (pc := 52) 142 flX4_16 cl4 rfl lb141 dX4_takeNumber_52 ?_
      refine Rk.sp (G_aload_n (pc := 55) 0 rfl rfl dX4_takeNumber_55) ?_
      refine Rk.gR (pc := 56) 147 flX4_31 cl4 rfl lb141 dX4_takeNumber_56 ?_
      refine Rk.sp (G_aload_n (pc := 59) 0 rfl rfl dX4_takeNumber_59) ?_
      refine Rk.gI (pc := 60) flX4_50 cl4 rfl lb141 dX4_takeNumber_60 ?_
      refine Rk.al (pc := 63) lb147 dX4_takeNumber_63 (fun hi9 => ?_)
      refine Rk.cV (pc := 64) (Cl.v [vi (σ 147 ((σ 141 9)).toNat)] [] dX4_takeNumber_64 ckX4_122 lb142 rfl rfl rfl (Nat.le_of_ble_eq_true rfl) (Nat.le_of_ble_eq_true rfl)) (k_Sh_put 142 (σ 147 ((σ 141 9)).toNat) σ lb142 (hok _ _) hok) (fun σ10 hσ10 => ?_)
      refine Rk.sp (G_aload_n (pc := 67) 0 rfl rfl dX4_takeNumber_67) ?_
      refine Rk.cV (pc := 68) (Cl.v [] [] dX4_takeNumber_68 ckX4_125 lb141 rfl rfl rfl (Nat.le_of_ble_eq_true rfl) (Nat.le_of_ble_eq_true rfl)) (k_Re_advance σ10 hσ10) (fun σ11 hσ11 => ?_)
      refine Rk.sp (G_iconst (pc := 71) dX4_takeNumber_71) ?_
      exact Rk.end_ (fun h => G_zreturn (pc := 72) rfl (nz inZ1) dX4_takeNumber_72 (q_Z h inZ1 hσ11))
    · refine Rk.sp (G_aload_n (pc := 45) 0 rfl rfl dX4_takeNumber_45) ?_
      refine Rk.sp (G_iconst (pc := 46) dX4_takeNumber_46) ?_
      refine Rk.cZ (pc := 47) (Cl.v [vi 2] [] dX4_takeNumber_47 ckX4_100 lb141 rfl rfl rfl (Nat.le_of_ble_eq_true rfl) (Nat.le_of_ble_eq_true rfl)) (k_Re_refuse 2 σ (inRk 2 rfl) hok) (fun r7 σ8 hr7 hσ8 => ?_)
      exact Rk.end_ (fun h => G_zreturn (pc := 50) rfl (nz hr7) dX4_takeNumber_50 (q_Z h hr7 hσ8))
  · refine Rk.sp (G_aload_n (pc := 13) 0 rfl rfl dX4_takeNumber_13) ?_
    refine Rk.sp (G_iconst (pc := 14) dX4_takeNumber_14) ?_
    refine Rk.cZ (pc := 15) (Cl.v [vi 1] [] dX4_takeNumber_15 ckX4_100 lb141 rfl rfl rfl (Nat.le_of_ble_eq_true rfl) (Nat.le_of_ble_eq_true rfl)) (k_Re_refuse 1 σ (inRk 1 rfl) hok) (fun r13 σ14 hr13 hσ14 => ?_)
    exact Rk.end_ (fun h => G_zreturn (pc := 18) rfl (nz hr13) dX4_takeNumber_18 (q_Z h hr13 hσ14))
theorem k_Re_takeWord {κ : Kx} {μ : Sg} (a1 : Int) (σ : Sg) (ha1 : inR a1) (hok : okS σ) : CtZ κ mX4_takeWord 1 [vr 141, vi a1] false μ σ (Re_takeWord a1 σ) := by
  intro r τ h
  refine con_of (by decide) (Nat.le_of_ble_eq_true rfl) 0 ?_
  refine (?_ : Rk κ mX4_takeWord _ 0 [some (vr 141), some (vi a1)] [] (ms false μ σ) (Re_takeWord a1 σ) (fun a => a = (r, τ))) _ h rfl
  unfold Re_takeWord
  refine Rk.sp (G_aload_n (pc := 0) 0 rfl rfl dX4_takeWord_0) ?_
  refine Rk.sp (G_iload_n (pc := 1) 1 rfl rfl dX4_takeWord_1) ?_
  refine Rk.cRZ (pc := 2) (Cl.v [vi a1] [] dX4_takeWord_2 ckX4_134 lb141 rfl rfl rfl (Nat.le_of_ble_eq_true rfl) (Nat.le_of_ble_eq_true rfl)) (k_Re_isWord a1 σ ha1 hok) (fun r1 hr1 => ?_)
  refine Rk.if_ne (pc := 5) (tgt := 14) dX4_takeWord_5 (nmI (inZ.R hr1)) rfl (fun hc2 => ?_) (fun hc2 => ?_)
  · refine Rk.sp (G_aload_n (pc := 8) 0 rfl rfl dX4_takeWord_8) ?_
    refine Rk.sp (G_iconst (pc := 9) dX4_takeWord_9) ?_
    refine Rk.cZ (pc := 10) (Cl.v [vi 1] [] dX4_takeWord_10 ckX4_100 lb141 rfl rfl rfl (Nat.le_of_ble_eq_true rfl) (Nat.le_of_ble_eq_true rfl)) (k_Re_refuse 1 σ (inRk 1 rfl) hok) (fun r3 σ4 hr3 hσ4 => ?_)
    exact Rk.end_ (fun h => G_zreturn (pc := 13) rfl (nz hr3) dX4_takeWord_13 (q_Z h hr3 hσ4))
  · refine Rk.sp (G_aload_n (pc := 14) 0 rfl rfl dX4_takeWord_14) ?_
    refine Rk.cV (pc := 15) (Cl.v [] [] dX4_takeWord_15 ckX4_125 lb141 rfl rfl rfl (Nat.le_of_ble_eq_true rfl) (Nat.le_of_ble_eq_true rfl)) (k_Re_advance σ hok) (fun σ5 hσ5 => ?_)
    refine Rk.sp (G_iconst (pc := 18) dX4_takeWord_18) ?_
    exact Rk.end_ (fun h => G_zreturn (pc := 19) rfl (nz inZ1) dX4_takeWord_19 (q_Z h inZ1 hσ5))
theorem k_Re_takeDoing {κ : Kx} {μ : Sg} (σ : Sg) (hok : okS σ) : CtZ κ mX4_takeDoing 1 [vr 141] false μ σ (Re_takeDoing σ) := by
  intro r τ h
  refine con_of (by decide) (Nat.le_of_ble_eq_true rfl) 0 ?_
  refine (?_ : Rk κ mX4_takeDoing _ 0 [some (vr 141)] [] (ms false μ σ) (Re_takeDoing σ) (fun a => a = (r, τ))) _ h rfl
  unfold Re_takeDoing
  refine Rk.sp (G_aload_n (pc := 0) 0 rfl rfl dX4_takeDoing_0) ?_
  refine Rk.gR (pc := 1) 146 flX4_28 cl4 rfl lb141 dX4_takeDoing_1 ?_
  refine Rk.sp (G_aload_n (pc := 4) 0 rfl rfl dX4_takeDoing_4) ?_
  refine Rk.gI (pc := 5) flX4_50 cl4 rfl lb141 dX4_takeDoing_5 ?_
  refine Rk.al (pc := 8) lb146 dX4_takeDoing_8 (fun hi1 => ?_)
  refine Rk.sp (G_iconst (pc := 9) dX4_takeDoing_9) ?_
  refine Rk.sel (A := 40) (B := 46) (st' := []) ?_ ?_ ?_
  · refine Rk.icmp_ne (pc := 10) (tgt := 40) dX4_takeDoing_10 (nmI (hok _ _)) (nmI (inRk 1 rfl)) rfl (fun hc2 => ?_) (fun hc2 => ?_)
    · refine Rk.sp (G_aload_n (pc := 13) 0 rfl rfl dX4_takeDoing_13) ?_
      refine Rk.gR (pc := 14) 147 flX4_31 cl4 rfl lb141 dX4_takeDoing_14 ?_
      refine Rk.sp (G_aload_n (pc := 17) 0 rfl rfl dX4_takeDoing_17) ?_
      refine Rk.gI (pc := 18) flX4_50 cl4 rfl lb141 dX4_takeDoing_18 ?_
      refine Rk.al (pc := 21) lb147 dX4_takeDoing_21 (fun hi3 => ?_)
      refine Rk.sp (G_iconst (pc := 22) dX4_takeDoing_22) ?_
      refine Rk.icmp_lt (pc := 23) (tgt := 40) dX4_takeDoing_23 (nmI (hok _ _)) (nmI (inRk 3 rfl)) rfl (fun hc4 => ?_) (fun hc4 => ?_)
      · exact Rk.end_ (fun h => h inZ1)
      · refine Rk.sp (G_aload_n (pc := 26) 0 rfl rfl dX4_takeDoing_26) ?_
        refine Rk.gR (pc := 27) 147 flX4_31 cl4 rfl lb141 dX4_takeDoing_27 ?_
        refine Rk.sp (G_aload_n (pc := 30) 0 rfl rfl dX4_takeDoing_30) ?_
        refine Rk.gI (pc := 31) flX4_50 cl4 rfl lb141 dX4_takeDoing_31 ?_
        refine Rk.al (pc := 34) lb147 dX4_takeDoing_34 (fun hi5 => ?_)
        refine Rk.sp (G_bipush (pc := 35) dX4_takeDoing_35 rfl) ?_
        refine Rk.icmp_le (pc := 37) (tgt := 46) dX4_takeDoing_37 (nmI (hok _ _)) (nmI (inRk 6 rfl)) rfl (fun hc6 => ?_) (fun hc6 => ?_)
        · exact Rk.end_ (fun h => h inZ1)
        · exact Rk.end_ (fun h => h inZ0)
    · exact Rk.end_ (fun h => h inZ1)
  · refine Rk.sp (G_aload_n (pc := 46) 0 rfl rfl dX4_takeDoing_46) ?_
    refine Rk.gR (pc := 47) 142 flX4_16 cl4 rfl lb141 dX4_takeDoing_47 ?_
    refine Rk.sp (G_aload_n (pc := 50) 0 rfl rfl dX4_takeDoing_50) ?_
    refine Rk.gR (pc := 51) 147 flX4_31 cl4 rfl lb141 dX4_takeDoing_51 ?_
    refine Rk.sp (G_aload_n (pc := 54) 0 rfl rfl dX4_takeDoing_54) ?_
    refine Rk.gI (pc := 55) flX4_50 cl4 rfl lb141 dX4_takeDoing_55 ?_
    refine Rk.al (pc := 58) lb147 dX4_takeDoing_58 (fun hi9 => ?_)
    refine Rk.sp (G_iconst (pc := 59) dX4_takeDoing_59) ?_
    refine Rk.sp (G_isub (pc := 60) dX4_takeDoing_60) ?_
    refine Rk.sp (Go.n0 (nmW _)) ?_
    refine Rk.cV (pc := 61) (Cl.v [vi (wr ((σ 147 ((σ 141 9)).toNat) - 3))] [] dX4_takeDoing_61 ckX4_122 lb142 rfl rfl rfl (Nat.le_of_ble_eq_true rfl) (Nat.le_of_ble_eq_true rfl)) (k_Sh_put 142 (wr ((σ 147 ((σ 141 9)).toNat) - 3)) σ lb142 (wrR _) hok) (fun σ10 hσ10 => ?_)
    refine Rk.sp (G_aload_n (pc := 64) 0 rfl rfl dX4_takeDoing_64) ?_
    refine Rk.cV (pc := 65) (Cl.v [] [] dX4_takeDoing_65 ckX4_125 lb141 rfl rfl rfl (Nat.le_of_ble_eq_true rfl) (Nat.le_of_ble_eq_true rfl)) (k_Re_advance σ10 hσ10) (fun σ11 hσ11 => ?_)
    refine Rk.sp (G_iconst (pc := 68) dX4_takeDoing_68) ?_
    exact Rk.end_ (fun h => G_zreturn (pc := 69) rfl (nz inZ1) dX4_takeDoing_69 (q_Z h inZ1 hσ11))
  · refine Rk.sp (G_aload_n (pc := 40) 0 rfl rfl dX4_takeDoing_40) ?_
    refine Rk.sp (G_iconst (pc := 41) dX4_takeDoing_41) ?_
    refine Rk.cZ (pc := 42) (Cl.v [vi 1] [] dX4_takeDoing_42 ckX4_100 lb141 rfl rfl rfl (Nat.le_of_ble_eq_true rfl) (Nat.le_of_ble_eq_true rfl)) (k_Re_refuse 1 σ (inRk 1 rfl) hok) (fun r7 σ8 hr7 hσ8 => ?_)
    exact Rk.end_ (fun h => G_zreturn (pc := 45) rfl (nz hr7) dX4_takeDoing_45 (q_Z h hr7 hσ8))
theorem k_Re_parseHours {κ : Kx} {μ : Sg} (σ : Sg) (hok : okS σ) : CtZ κ mX4_parseHours 2 [vr 141] false μ σ (Re_parseHours σ) := by
  intro r τ h
  refine con_of (by decide) (Nat.le_of_ble_eq_true rfl) 0 ?_
  refine (?_ : Rk κ mX4_parseHours _ 0 [some (vr 141)] [] (ms false μ σ) (Re_parseHours σ) (fun a => a = (r, τ))) _ h rfl
  unfold Re_parseHours
  refine Rk.sp (G_aload_n (pc := 0) 0 rfl rfl dX4_parseHours_0) ?_
  refine Rk.cV (pc := 1) (Cl.v [] [] dX4_parseHours_1 ckX4_125 lb141 rfl rfl rfl (Nat.le_of_ble_eq_true rfl) (Nat.le_of_ble_eq_true rfl)) (k_Re_advance σ hok) (fun σ1 hσ1 => ?_)
  refine Rk.sp (G_aload_n (pc := 4) 0 rfl rfl dX4_parseHours_4) ?_
  refine Rk.sp (G_iconst (pc := 5) dX4_parseHours_5) ?_
  refine Rk.sp (G_iconst (pc := 6) dX4_parseHours_6) ?_
  refine Rk.cZ (pc := 7) (Cl.v [vi 0, vi 1] [] dX4_parseHours_7 ckX4_140 lb141 rfl rfl rfl (Nat.le_of_ble_eq_true rfl) (Nat.le_of_ble_eq_true rfl)) (k_Re_takeNumber 0 1 σ1 (inRk 0 rfl) (inRk 1 rfl) hσ1) (fun r2 σ3 hr2 hσ3 => ?_)
  refine Rk.if_eq (pc := 10) (tgt := 60) dX4_parseHours_10 (nmI (inZ.R hr2)) rfl (fun hc4 => ?_) (fun hc4 => ?_)
  · refine Rk.sp (G_iconst (pc := 60) dX4_parseHours_60) ?_
    exact Rk.end_ (fun h => G_zreturn (pc := 61) rfl (nz inZ0) dX4_parseHours_61 (q_Z h inZ0 hσ3))
  · refine Rk.sp (G_aload_n (pc := 13) 0 rfl rfl dX4_parseHours_13) ?_
    refine Rk.sp (G_iconst (pc := 14) dX4_parseHours_14) ?_
    refine Rk.cZ (pc := 15) (Cl.v [vi 1] [] dX4_parseHours_15 ckX4_144 lb141 rfl rfl rfl (Nat.le_of_ble_eq_true rfl) (Nat.le_of_ble_eq_true rfl)) (k_Re_takeWord 1 σ3 (inRk 1 rfl) hσ3) (fun r5 σ6 hr5 hσ6 => ?_)
    refine Rk.if_eq (pc := 18) (tgt := 60) dX4_parseHours_18 (nmI (inZ.R hr5)) rfl (fun hc7 => ?_) (fun hc7 => ?_)
    · refine Rk.sp (G_iconst (pc := 60) dX4_parseHours_60) ?_
      exact Rk.end_ (fun h => G_zreturn (pc := 61) rfl (nz inZ0) dX4_parseHours_61 (q_Z h inZ0 hσ6))
    · refine Rk.sp (G_aload_n (pc := 21) 0 rfl rfl dX4_parseHours_21) ?_
      refine Rk.sp (G_iconst (pc := 22) dX4_parseHours_22) ?_
      refine Rk.sp (G_bipush (pc := 23) dX4_parseHours_23 rfl) ?_
      refine Rk.cZ (pc := 25) (Cl.v [vi 0, vi 23] [] dX4_parseHours_25 ckX4_140 lb141 rfl rfl rfl (Nat.le_of_ble_eq_true rfl) (Nat.le_of_ble_eq_true rfl)) (k_Re_takeNumber 0 23 σ6 (inRk 0 rfl) (inRk 23 rfl) hσ6) (fun r8 σ9 hr8 hσ9 => ?_)
      refine Rk.if_eq (pc := 28) (tgt := 60) dX4_parseHours_28 (nmI (inZ.R hr8)) rfl (fun hc10 => ?_) (fun hc10 => ?_)
      · refine Rk.sp (G_iconst (pc := 60) dX4_parseHours_60) ?_
        exact Rk.end_ (fun h => G_zreturn (pc := 61) rfl (nz inZ0) dX4_parseHours_61 (q_Z h inZ0 hσ9))
      · refine Rk.sp (G_aload_n (pc := 31) 0 rfl rfl dX4_parseHours_31) ?_
        refine Rk.sp (G_iconst (pc := 32) dX4_parseHours_32) ?_
        refine Rk.cZ (pc := 33) (Cl.v [vi 2] [] dX4_parseHours_33 ckX4_144 lb141 rfl rfl rfl (Nat.le_of_ble_eq_true rfl) (Nat.le_of_ble_eq_true rfl)) (k_Re_takeWord 2 σ9 (inRk 2 rfl) hσ9) (fun r11 σ12 hr11 hσ12 => ?_)
        refine Rk.if_eq (pc := 36) (tgt := 60) dX4_parseHours_36 (nmI (inZ.R hr11)) rfl (fun hc13 => ?_) (fun hc13 => ?_)
        · refine Rk.sp (G_iconst (pc := 60) dX4_parseHours_60) ?_
          exact Rk.end_ (fun h => G_zreturn (pc := 61) rfl (nz inZ0) dX4_parseHours_61 (q_Z h inZ0 hσ12))
        · refine Rk.sp (G_aload_n (pc := 39) 0 rfl rfl dX4_parseHours_39) ?_
          refine Rk.sp (G_iconst (pc := 40) dX4_parseHours_40) ?_
          refine Rk.sp (G_bipush (pc := 41) dX4_parseHours_41 rfl) ?_
          refine Rk.cZ (pc := 43) (Cl.v [vi 1, vi 24] [] dX4_parseHours_43 ckX4_140 lb141 rfl rfl rfl (Nat.le_of_ble_eq_true rfl) (Nat.le_of_ble_eq_true rfl)) (k_Re_takeNumber 1 24 σ12 (inRk 1 rfl) (inRk 24 rfl) hσ12) (fun r14 σ15 hr14 hσ15 => ?_)
          refine Rk.if_eq (pc := 46) (tgt := 60) dX4_parseHours_46 (nmI (inZ.R hr14)) rfl (fun hc16 => ?_) (fun hc16 => ?_)
          · refine Rk.sp (G_iconst (pc := 60) dX4_parseHours_60) ?_
            exact Rk.end_ (fun h => G_zreturn (pc := 61) rfl (nz inZ0) dX4_parseHours_61 (q_Z h inZ0 hσ15))
          · refine Rk.sp (G_aload_n (pc := 49) 0 rfl rfl dX4_parseHours_49) ?_
            refine Rk.cZ (pc := 50) (Cl.v [] [] dX4_parseHours_50 ckX4_147 lb141 rfl rfl rfl (Nat.le_of_ble_eq_true rfl) (Nat.le_of_ble_eq_true rfl)) (k_Re_takeDoing σ15 hσ15) (fun r17 σ18 hr17 hσ18 => ?_)
            refine Rk.if_eq (pc := 53) (tgt := 60) dX4_parseHours_53 (nmI (inZ.R hr17)) rfl (fun hc19 => ?_) (fun hc19 => ?_)
            · refine Rk.sp (G_iconst (pc := 60) dX4_parseHours_60) ?_
              exact Rk.end_ (fun h => G_zreturn (pc := 61) rfl (nz inZ0) dX4_parseHours_61 (q_Z h inZ0 hσ18))
            · refine Rk.sp (G_iconst (pc := 56) dX4_parseHours_56) ?_
              refine Rk.sp (G_goto (pc := 57) (tgt := 61) dX4_parseHours_57 rfl) ?_
              exact Rk.end_ (fun h => G_zreturn (pc := 61) rfl (nz inZ1) dX4_parseHours_61 (q_Z h inZ1 hσ18))
theorem k_Re_parseSaying {κ : Kx} {μ : Sg} (σ : Sg) (hok : okS σ) : CtZ κ mX4_parseSaying 2 [vr 141] false μ σ (Re_parseSaying σ) := by
  intro r τ h
  refine con_of (by decide) (Nat.le_of_ble_eq_true rfl) 1 ?_
  refine (?_ : Rk κ mX4_parseSaying _ 0 [some (vr 141), none] [] (ms false μ σ) (Re_parseSaying σ) (fun a => a = (r, τ))) _ h rfl
  unfold Re_parseSaying
  refine Rk.sp (G_aload_n (pc := 0) 0 rfl rfl dX4_parseSaying_0) ?_
  refine Rk.cV (pc := 1) (Cl.v [] [] dX4_parseSaying_1 ckX4_125 lb141 rfl rfl rfl (Nat.le_of_ble_eq_true rfl) (Nat.le_of_ble_eq_true rfl)) (k_Re_advance σ hok) (fun σ1 hσ1 => ?_)
  refine Rk.sp (G_aload_n (pc := 4) 0 rfl rfl dX4_parseSaying_4) ?_
  refine Rk.sp (G_iconst (pc := 5) dX4_parseSaying_5) ?_
  refine Rk.sp (G_sipush (pc := 6) dX4_parseSaying_6 rfl) ?_
  refine Rk.cZ (pc := 9) (Cl.v [vi 0, vi 9999] [] dX4_parseSaying_9 ckX4_140 lb141 rfl rfl rfl (Nat.le_of_ble_eq_true rfl) (Nat.le_of_ble_eq_true rfl)) (k_Re_takeNumber 0 9999 σ1 (inRk 0 rfl) (inRk 9999 rfl) hσ1) (fun r2 σ3 hr2 hσ3 => ?_)
  refine Rk.if_eq (pc := 12) (tgt := 32) dX4_parseSaying_12 (nmI (inZ.R hr2)) rfl (fun hc4 => ?_) (fun hc4 => ?_)
  · refine Rk.sp (G_iconst (pc := 32) dX4_parseSaying_32) ?_
    exact Rk.end_ (fun h => G_zreturn (pc := 33) rfl (nz inZ0) dX4_parseSaying_33 (q_Z h inZ0 hσ3))
  · refine Rk.sp (G_aload_n (pc := 15) 0 rfl rfl dX4_parseSaying_15) ?_
    refine Rk.sp (G_iconst (pc := 16) dX4_parseSaying_16) ?_
    refine Rk.cZ (pc := 17) (Cl.v [vi 1] [] dX4_parseSaying_17 ckX4_144 lb141 rfl rfl rfl (Nat.le_of_ble_eq_true rfl) (Nat.le_of_ble_eq_true rfl)) (k_Re_takeWord 1 σ3 (inRk 1 rfl) hσ3) (fun r5 σ6 hr5 hσ6 => ?_)
    refine Rk.if_eq (pc := 20) (tgt := 32) dX4_parseSaying_20 (nmI (inZ.R hr5)) rfl (fun hc7 => ?_) (fun hc7 => ?_)
    · refine Rk.sp (G_iconst (pc := 32) dX4_parseSaying_32) ?_
      exact Rk.end_ (fun h => G_zreturn (pc := 33) rfl (nz inZ0) dX4_parseSaying_33 (q_Z h inZ0 hσ6))
    · refine Rk.sp (G_aload_n (pc := 23) 0 rfl rfl dX4_parseSaying_23) ?_
      refine Rk.sp (G_iconst (pc := 24) dX4_parseSaying_24) ?_
      refine Rk.sp (G_iconst (pc := 25) dX4_parseSaying_25) ?_
      refine Rk.cZ (pc := 26) (Cl.v [vi 0, vi 1] [] dX4_parseSaying_26 ckX4_140 lb141 rfl rfl rfl (Nat.le_of_ble_eq_true rfl) (Nat.le_of_ble_eq_true rfl)) (k_Re_takeNumber 0 1 σ6 (inRk 0 rfl) (inRk 1 rfl) hσ6) (fun r8 σ9 hr8 hσ9 => ?_)
      refine Rk.if_ne (pc := 29) (tgt := 34) dX4_parseSaying_29 (nmI (inZ.R hr8)) rfl (fun hc10 => ?_) (fun hc10 => ?_)
      · refine Rk.sp (G_iconst (pc := 32) dX4_parseSaying_32) ?_
        exact Rk.end_ (fun h => G_zreturn (pc := 33) rfl (nz inZ0) dX4_parseSaying_33 (q_Z h inZ0 hσ9))
      · refine Rk.sp (G_aload_n (pc := 34) 0 rfl rfl dX4_parseSaying_34) ?_
        refine Rk.sp (G_iconst (pc := 35) dX4_parseSaying_35) ?_
        refine Rk.cRZ (pc := 36) (Cl.v [vi 5] [] dX4_parseSaying_36 ckX4_134 lb141 rfl rfl rfl (Nat.le_of_ble_eq_true rfl) (Nat.le_of_ble_eq_true rfl)) (k_Re_isWord 5 σ9 (inRk 5 rfl) hσ9) (fun r11 hr11 => ?_)
        refine Rk.if_eq (pc := 39) (tgt := 80) dX4_parseSaying_39 (nmI (inZ.R hr11)) rfl (fun hc12 => ?_) (fun hc12 => ?_)
        · refine Rk.sp (G_aload_n (pc := 80) 0 rfl rfl dX4_parseSaying_80) ?_
          refine Rk.gR (pc := 81) 142 flX4_16 cl4 rfl lb141 dX4_parseSaying_81 ?_
          refine Rk.sp (G_iconst (pc := 84) dX4_parseSaying_84) ?_
          refine Rk.cV (pc := 85) (Cl.v [vi 0] [] dX4_parseSaying_85 ckX4_122 lb142 rfl rfl rfl (Nat.le_of_ble_eq_true rfl) (Nat.le_of_ble_eq_true rfl)) (k_Sh_put 142 0 σ9 lb142 (inRk 0 rfl) hσ9) (fun σ13 hσ13 => ?_)
          refine Rk.sp (G_aload_n (pc := 88) 0 rfl rfl dX4_parseSaying_88) ?_
          refine Rk.sp (G_iconst (pc := 89) dX4_parseSaying_89) ?_
          refine Rk.cZ (pc := 90) (Cl.v [vi 2] [] dX4_parseSaying_90 ckX4_144 lb141 rfl rfl rfl (Nat.le_of_ble_eq_true rfl) (Nat.le_of_ble_eq_true rfl)) (k_Re_takeWord 2 σ13 (inRk 2 rfl) hσ13) (fun r14 σ15 hr14 hσ15 => ?_)
          refine Rk.if_eq (pc := 93) (tgt := 124) dX4_parseSaying_93 (nmI (inZ.R hr14)) rfl (fun hc16 => ?_) (fun hc16 => ?_)
          · refine Rk.sp (G_iconst (pc := 124) dX4_parseSaying_124) ?_
            exact Rk.end_ (fun h => G_zreturn (pc := 125) rfl (nz inZ0) dX4_parseSaying_125 (q_Z h inZ0 hσ15))
          · refine Rk.sp (G_aload_n (pc := 96) 0 rfl rfl dX4_parseSaying_96) ?_
            refine Rk.sp (G_iconst (pc := 97) dX4_parseSaying_97) ?_
            refine Rk.sp (G_bipush (pc := 98) dX4_parseSaying_98 rfl) ?_
            refine Rk.cZ (pc := 100) (Cl.v [vi 1, vi 99] [] dX4_parseSaying_100 ckX4_140 lb141 rfl rfl rfl (Nat.le_of_ble_eq_true rfl) (Nat.le_of_ble_eq_true rfl)) (k_Re_takeNumber 1 99 σ15 (inRk 1 rfl) (inRk 99 rfl) hσ15) (fun r17 σ18 hr17 hσ18 => ?_)
            refine Rk.if_eq (pc := 103) (tgt := 124) dX4_parseSaying_103 (nmI (inZ.R hr17)) rfl (fun hc19 => ?_) (fun hc19 => ?_)
            · refine Rk.sp (G_iconst (pc := 124) dX4_parseSaying_124) ?_
              exact Rk.end_ (fun h => G_zreturn (pc := 125) rfl (nz inZ0) dX4_parseSaying_125 (q_Z h inZ0 hσ18))
            · refine Rk.sp (G_aload_n (pc := 106) 0 rfl rfl dX4_parseSaying_106) ?_
              refine Rk.sp (G_iconst (pc := 107) dX4_parseSaying_107) ?_
              refine Rk.cZ (pc := 108) (Cl.v [vi 3] [] dX4_parseSaying_108 ckX4_144 lb141 rfl rfl rfl (Nat.le_of_ble_eq_true rfl) (Nat.le_of_ble_eq_true rfl)) (k_Re_takeWord 3 σ18 (inRk 3 rfl) hσ18) (fun r20 σ21 hr20 hσ21 => ?_)
              refine Rk.if_eq (pc := 111) (tgt := 124) dX4_parseSaying_111 (nmI (inZ.R hr20)) rfl (fun hc22 => ?_) (fun hc22 => ?_)
              · refine Rk.sp (G_iconst (pc := 124) dX4_parseSaying_124) ?_
                exact Rk.end_ (fun h => G_zreturn (pc := 125) rfl (nz inZ0) dX4_parseSaying_125 (q_Z h inZ0 hσ21))
              · refine Rk.sp (G_aload_n (pc := 114) 0 rfl rfl dX4_parseSaying_114) ?_
                refine Rk.sp (G_iconst (pc := 115) dX4_parseSaying_115) ?_
                refine Rk.sp (G_bipush (pc := 116) dX4_parseSaying_116 rfl) ?_
                refine Rk.cZ (pc := 118) (Cl.v [vi 0, vi 9] [] dX4_parseSaying_118 ckX4_140 lb141 rfl rfl rfl (Nat.le_of_ble_eq_true rfl) (Nat.le_of_ble_eq_true rfl)) (k_Re_takeNumber 0 9 σ21 (inRk 0 rfl) (inRk 9 rfl) hσ21) (fun r23 σ24 hr23 hσ24 => ?_)
                refine Rk.if_ne (pc := 121) (tgt := 126) dX4_parseSaying_121 (nmI (inZ.R hr23)) rfl (fun hc25 => ?_) (fun hc25 => ?_)
                · refine Rk.sp (G_iconst (pc := 124) dX4_parseSaying_124) ?_
                  exact Rk.end_ (fun h => G_zreturn (pc := 125) rfl (nz inZ0) dX4_parseSaying_125 (q_Z h inZ0 hσ24))
                · refine Rk.sp (G_aload_n (pc := 126) 0 rfl rfl dX4_parseSaying_126) ?_
                  refine Rk.sp (G_iconst (pc := 127) dX4_parseSaying_127) ?_
                  refine Rk.cRZ (pc := 128) (Cl.v [vi 4] [] dX4_parseSaying_128 ckX4_134 lb141 rfl rfl rfl (Nat.le_of_ble_eq_true rfl) (Nat.le_of_ble_eq_true rfl)) (k_Re_isWord 4 σ24 (inRk 4 rfl) hσ24) (fun r26 hr26 => ?_)
                  refine Rk.isa_n (pc := 131) 1 (L' := [some (vr 141), some (vi r26)]) rfl (Nat.le_of_ble_eq_true rfl) rfl dX4_parseSaying_131 rfl ?_
                  refine Rk.sp (G_iload_n (pc := 132) 1 rfl rfl dX4_parseSaying_132) ?_
                  refine Rk.join (P := fun p => okS p) (pcj := 140) (fun p => [some (vr 141), some (vi r26)]) (fun p => []) (fun p => (ms false μ p)) ?_ (fun p hp => ?_)
                  · refine Rk.if_eq (pc := 133) (tgt := 140) dX4_parseSaying_133 (nmI (inZ.R hr26)) rfl (fun hc27 => ?_) (fun hc27 => ?_)
                    · exact Rk.end_ (fun h => h hσ24)
                    · refine Rk.sp (G_aload_n (pc := 136) 0 rfl rfl dX4_parseSaying_136) ?_
                      refine Rk.cV (pc := 137) (Cl.v [] [] dX4_parseSaying_137 ckX4_125 lb141 rfl rfl rfl (Nat.le_of_ble_eq_true rfl) (Nat.le_of_ble_eq_true rfl)) (k_Re_advance σ24 hσ24) (fun σ29 hσ29 => ?_)
                      exact Rk.end_ (fun h => h hσ29)
                  · revert hp; revert p; intro σ28 hσ28
                    try dsimp only
                    refine Rk.sp (G_aload_n (pc := 140) 0 rfl rfl dX4_parseSaying_140) ?_
                    refine Rk.gR (pc := 141) 142 flX4_16 cl4 rfl lb141 dX4_parseSaying_141 ?_
                    refine Rk.sp (G_iload_n (pc := 144) 1 rfl rfl dX4_parseSaying_144) ?_
                    refine Rk.join (P := fun p => inR p) (pcj := 153) (fun p => [none, none]) (fun p => [vi p, vr 142]) (fun p => (ms false μ σ28)) ?_ (fun p hp => ?_)
                    · refine Rk.if_eq (pc := 145) (tgt := 152) dX4_parseSaying_145 (nmI (inZ.R hr26)) rfl (fun hc30 => ?_) (fun hc30 => ?_)
                      · refine Rk.sp (G_iconst (pc := 152) dX4_parseSaying_152) ?_
                        refine Rk.fg [false, false] (L' := [none, none]) rfl ?_
                        exact Rk.end_ (fun h => h (inRk 0 rfl))
                      · refine Rk.sp (G_iconst (pc := 148) dX4_parseSaying_148) ?_
                        refine Rk.sp (G_goto (pc := 149) (tgt := 153) dX4_parseSaying_149 rfl) ?_
                        refine Rk.fg [false, false] (L' := [none, none]) rfl ?_
                        exact Rk.end_ (fun h => h (inRk 1 rfl))
                    · revert hp; revert p; intro t31 ht31
                      try dsimp only
                      refine Rk.cV (pc := 153) (Cl.v [vi t31] [] dX4_parseSaying_153 ckX4_122 lb142 rfl rfl rfl (Nat.le_of_ble_eq_true rfl) (Nat.le_of_ble_eq_true rfl)) (k_Sh_put 142 t31 σ28 lb142 ht31 hσ28) (fun σ32 hσ32 => ?_)
                      refine Rk.sp (G_iconst (pc := 156) dX4_parseSaying_156) ?_
                      exact Rk.end_ (fun h => G_zreturn (pc := 157) rfl (nz inZ1) dX4_parseSaying_157 (q_Z h inZ1 hσ32))
        · refine Rk.sp (G_aload_n (pc := 42) 0 rfl rfl dX4_parseSaying_42) ?_
          refine Rk.cV (pc := 43) (Cl.v [] [] dX4_parseSaying_43 ckX4_125 lb141 rfl rfl rfl (Nat.le_of_ble_eq_true rfl) (Nat.le_of_ble_eq_true rfl)) (k_Re_advance σ9 hσ9) (fun σ33 hσ33 => ?_)
          refine Rk.sp (G_aload_n (pc := 46) 0 rfl rfl dX4_parseSaying_46) ?_
          refine Rk.gR (pc := 47) 142 flX4_16 cl4 rfl lb141 dX4_parseSaying_47 ?_
          refine Rk.sp (G_iconst (pc := 50) dX4_parseSaying_50) ?_
          refine Rk.cV (pc := 51) (Cl.v [vi 1] [] dX4_parseSaying_51 ckX4_122 lb142 rfl rfl rfl (Nat.le_of_ble_eq_true rfl) (Nat.le_of_ble_eq_true rfl)) (k_Sh_put 142 1 σ33 lb142 (inRk 1 rfl) hσ33) (fun σ34 hσ34 => ?_)
          refine Rk.sp (G_aload_n (pc := 54) 0 rfl rfl dX4_parseSaying_54) ?_
          refine Rk.gR (pc := 55) 142 flX4_16 cl4 rfl lb141 dX4_parseSaying_55 ?_
          refine Rk.sp (G_iconst (pc := 58) dX4_parseSaying_58) ?_
          refine Rk.cV (pc := 59) (Cl.v [vi 0] [] dX4_parseSaying_59 ckX4_122 lb142 rfl rfl rfl (Nat.le_of_ble_eq_true rfl) (Nat.le_of_ble_eq_true rfl)) (k_Sh_put 142 0 σ34 lb142 (inRk 0 rfl) hσ34) (fun σ35 hσ35 => ?_)
          refine Rk.sp (G_aload_n (pc := 62) 0 rfl rfl dX4_parseSaying_62) ?_
          refine Rk.gR (pc := 63) 142 flX4_16 cl4 rfl lb141 dX4_parseSaying_63 ?_
          refine Rk.sp (G_iconst (pc := 66) dX4_parseSaying_66) ?_
          refine Rk.cV (pc := 67) (Cl.v [vi 0] [] dX4_parseSaying_67 ckX4_122 lb142 rfl rfl rfl (Nat.le_of_ble_eq_true rfl) (Nat.le_of_ble_eq_true rfl)) (k_Sh_put 142 0 σ35 lb142 (inRk 0 rfl) hσ35) (fun σ36 hσ36 => ?_)
          refine Rk.sp (G_aload_n (pc := 70) 0 rfl rfl dX4_parseSaying_70) ?_
          refine Rk.gR (pc := 71) 142 flX4_16 cl4 rfl lb141 dX4_parseSaying_71 ?_
          refine Rk.sp (G_iconst (pc := 74) dX4_parseSaying_74) ?_
          refine Rk.cV (pc := 75) (Cl.v [vi 0] [] dX4_parseSaying_75 ckX4_122 lb142 rfl rfl rfl (Nat.le_of_ble_eq_true rfl) (Nat.le_of_ble_eq_true rfl)) (k_Sh_put 142 0 σ36 lb142 (inRk 0 rfl) hσ36) (fun σ37 hσ37 => ?_)
          refine Rk.sp (G_iconst (pc := 78) dX4_parseSaying_78) ?_
          exact Rk.end_ (fun h => G_zreturn (pc := 79) rfl (nz inZ1) dX4_parseSaying_79 (q_Z h inZ1 hσ37))
theorem k_Re_parseHabit {κ : Kx} {μ : Sg} (σ : Sg) (hok : okS σ) : CtZ κ mX4_parseHabit 2 [vr 141] false μ σ (Re_parseHabit σ) := by
  intro r τ h
  refine con_of (by decide) (Nat.le_of_ble_eq_true rfl) 0 ?_
  refine (?_ : Rk κ mX4_parseHabit _ 0 [some (vr 141)] [] (ms false μ σ) (Re_parseHabit σ) (fun a => a = (r, τ))) _ h rfl
  unfold Re_parseHabit
  refine Rk.sp (G_aload_n (pc := 0) 0 rfl rfl dX4_parseHabit_0) ?_
  refine Rk.cV (pc := 1) (Cl.v [] [] dX4_parseHabit_1 ckX4_125 lb141 rfl rfl rfl (Nat.le_of_ble_eq_true rfl) (Nat.le_of_ble_eq_true rfl)) (k_Re_advance σ hok) (fun σ1 hσ1 => ?_)
  refine Rk.sp (G_aload_n (pc := 4) 0 rfl rfl dX4_parseHabit_4) ?_
  refine Rk.sp (G_iconst (pc := 5) dX4_parseHabit_5) ?_
  refine Rk.cZ (pc := 6) (Cl.v [vi 1] [] dX4_parseHabit_6 ckX4_144 lb141 rfl rfl rfl (Nat.le_of_ble_eq_true rfl) (Nat.le_of_ble_eq_true rfl)) (k_Re_takeWord 1 σ1 (inRk 1 rfl) hσ1) (fun r2 σ3 hr2 hσ3 => ?_)
  refine Rk.if_eq (pc := 9) (tgt := 46) dX4_parseHabit_9 (nmI (inZ.R hr2)) rfl (fun hc4 => ?_) (fun hc4 => ?_)
  · refine Rk.sp (G_iconst (pc := 46) dX4_parseHabit_46) ?_
    exact Rk.end_ (fun h => G_zreturn (pc := 47) rfl (nz inZ0) dX4_parseHabit_47 (q_Z h inZ0 hσ3))
  · refine Rk.sp (G_aload_n (pc := 12) 0 rfl rfl dX4_parseHabit_12) ?_
    refine Rk.sp (G_iconst (pc := 13) dX4_parseHabit_13) ?_
    refine Rk.sp (G_sipush (pc := 14) dX4_parseHabit_14 rfl) ?_
    refine Rk.cZ (pc := 17) (Cl.v [vi 1, vi 999] [] dX4_parseHabit_17 ckX4_140 lb141 rfl rfl rfl (Nat.le_of_ble_eq_true rfl) (Nat.le_of_ble_eq_true rfl)) (k_Re_takeNumber 1 999 σ3 (inRk 1 rfl) (inRk 999 rfl) hσ3) (fun r5 σ6 hr5 hσ6 => ?_)
    refine Rk.if_eq (pc := 20) (tgt := 46) dX4_parseHabit_20 (nmI (inZ.R hr5)) rfl (fun hc7 => ?_) (fun hc7 => ?_)
    · refine Rk.sp (G_iconst (pc := 46) dX4_parseHabit_46) ?_
      exact Rk.end_ (fun h => G_zreturn (pc := 47) rfl (nz inZ0) dX4_parseHabit_47 (q_Z h inZ0 hσ6))
    · refine Rk.sp (G_aload_n (pc := 23) 0 rfl rfl dX4_parseHabit_23) ?_
      refine Rk.sp (G_iconst (pc := 24) dX4_parseHabit_24) ?_
      refine Rk.cZ (pc := 25) (Cl.v [vi 2] [] dX4_parseHabit_25 ckX4_144 lb141 rfl rfl rfl (Nat.le_of_ble_eq_true rfl) (Nat.le_of_ble_eq_true rfl)) (k_Re_takeWord 2 σ6 (inRk 2 rfl) hσ6) (fun r8 σ9 hr8 hσ9 => ?_)
      refine Rk.if_eq (pc := 28) (tgt := 46) dX4_parseHabit_28 (nmI (inZ.R hr8)) rfl (fun hc10 => ?_) (fun hc10 => ?_)
      · refine Rk.sp (G_iconst (pc := 46) dX4_parseHabit_46) ?_
        exact Rk.end_ (fun h => G_zreturn (pc := 47) rfl (nz inZ0) dX4_parseHabit_47 (q_Z h inZ0 hσ9))
      · refine Rk.sp (G_aload_n (pc := 31) 0 rfl rfl dX4_parseHabit_31) ?_
        refine Rk.sp (G_iconst (pc := 32) dX4_parseHabit_32) ?_
        refine Rk.sp (G_sipush (pc := 33) dX4_parseHabit_33 rfl) ?_
        refine Rk.cZ (pc := 36) (Cl.v [vi 1, vi 999] [] dX4_parseHabit_36 ckX4_140 lb141 rfl rfl rfl (Nat.le_of_ble_eq_true rfl) (Nat.le_of_ble_eq_true rfl)) (k_Re_takeNumber 1 999 σ9 (inRk 1 rfl) (inRk 999 rfl) hσ9) (fun r11 σ12 hr11 hσ12 => ?_)
        refine Rk.if_eq (pc := 39) (tgt := 46) dX4_parseHabit_39 (nmI (inZ.R hr11)) rfl (fun hc13 => ?_) (fun hc13 => ?_)
        · refine Rk.sp (G_iconst (pc := 46) dX4_parseHabit_46) ?_
          exact Rk.end_ (fun h => G_zreturn (pc := 47) rfl (nz inZ0) dX4_parseHabit_47 (q_Z h inZ0 hσ12))
        · refine Rk.sp (G_iconst (pc := 42) dX4_parseHabit_42) ?_
          refine Rk.sp (G_goto (pc := 43) (tgt := 47) dX4_parseHabit_43 rfl) ?_
          exact Rk.end_ (fun h => G_zreturn (pc := 47) rfl (nz inZ1) dX4_parseHabit_47 (q_Z h inZ1 hσ12))
theorem k_Re_parse {κ : Kx} {μ : Sg} (a1 : Int) (σ : Sg) (ha1 : inR a1) (hok : okS σ) : CtZ κ mX4_parse 42 [vr 141, vi a1] false μ σ (Re_parse a1 σ) := by
  intro r τ h
  refine con_of (by decide) (Nat.le_of_ble_eq_true rfl) 4 ?_
  refine (?_ : Rk κ mX4_parse _ 0 [some (vr 141), some (vi a1), none, none, none, none] [] (ms false μ σ) (Re_parse a1 σ) (fun a => a = (r, τ))) _ h rfl
  unfold Re_parse
  refine Rk.sp (G_aload_n (pc := 0) 0 rfl rfl dX4_parse_0) ?_
  refine Rk.gR (pc := 1) 142 flX4_16 cl4 rfl lb141 dX4_parse_1 ?_
  refine Rk.sp (G_iload_n (pc := 4) 1 rfl rfl dX4_parse_4) ?_
  refine Rk.cRI (pc := 5) (Cl.s [vi a1] [vr 142] dX4_parse_5 ckX4_88 rfl rfl (Nat.le_of_ble_eq_true rfl) (Nat.le_of_ble_eq_true rfl)) (k_Re_widthOf a1 ha1) (fun r1 hr1 => ?_)
  refine Rk.cV (pc := 8) (Cl.v [vi r1] [] dX4_parse_8 ckX4_92 lb142 rfl rfl rfl (Nat.le_of_ble_eq_true rfl) (Nat.le_of_ble_eq_true rfl)) (k_Sh_clear 142 r1 σ lb142 hr1 hok) (fun σ2 hσ2 => ?_)
  refine Rk.sp (G_iload_n (pc := 11) 1 rfl rfl dX4_parse_11) ?_
  refine Rk.join (P := fun p => inR p) (pcj := 20) (fun p => [some (vr 141), some (vi a1), none, none, none, none]) (fun p => [vi p]) (fun p => (ms false μ σ2)) ?_ (fun p hp => ?_)
  · refine Rk.if_ne (pc := 12) (tgt := 19) dX4_parse_12 (nmI ha1) rfl (fun hc3 => ?_) (fun hc3 => ?_)
    · refine Rk.sp (G_iconst (pc := 15) dX4_parse_15) ?_
      refine Rk.sp (G_goto (pc := 16) (tgt := 20) dX4_parse_16 rfl) ?_
      exact Rk.end_ (fun h => h (inRk 4 rfl))
    · refine Rk.sp (G_iconst (pc := 19) dX4_parse_19) ?_
      exact Rk.end_ (fun h => h (inRk 0 rfl))
  · revert hp; revert p; intro t4 ht4
    try dsimp only
    refine Rk.isa_n (pc := 20) 2 (L' := [some (vr 141), some (vi a1), some (vi t4), none, none, none]) rfl (Nat.le_of_ble_eq_true rfl) rfl dX4_parse_20 rfl ?_
    refine Rk.sp (G_iload_n (pc := 21) 1 rfl rfl dX4_parse_21) ?_
    refine Rk.sp (G_iconst (pc := 22) dX4_parse_22) ?_
    refine Rk.join (P := fun p => inR p) (pcj := 33) (fun p => [some (vr 141), some (vi a1), some (vi t4), none, none, none]) (fun p => [vi p]) (fun p => (ms false μ σ2)) ?_ (fun p hp => ?_)
    · refine Rk.icmp_ne (pc := 23) (tgt := 31) dX4_parse_23 (nmI ha1) (nmI (inRk 3 rfl)) rfl (fun hc5 => ?_) (fun hc5 => ?_)
      · refine Rk.sp (G_bipush (pc := 26) dX4_parse_26 rfl) ?_
        refine Rk.sp (G_goto (pc := 28) (tgt := 33) dX4_parse_28 rfl) ?_
        exact Rk.end_ (fun h => h (inRk 8 rfl))
      · refine Rk.sp (G_bipush (pc := 31) dX4_parse_31 rfl) ?_
        exact Rk.end_ (fun h => h (inRk 16 rfl))
    · revert hp; revert p; intro t6 ht6
      try dsimp only
      refine Rk.isa_n (pc := 33) 3 (L' := [some (vr 141), some (vi a1), some (vi t4), some (vi t6), none, none]) rfl (Nat.le_of_ble_eq_true rfl) rfl dX4_parse_33 rfl ?_
      refine Rk.sp (G_iconst (pc := 34) dX4_parse_34) ?_
      refine Rk.isa_w (pc := 35) 4 (L' := [some (vr 141), some (vi a1), some (vi t4), some (vi t6), some (vi 0), none]) (Nat.le_of_ble_eq_true rfl) rfl dX4_parse_35 rfl ?_
      refine Rk.loop (pc := 37) (B := (fun p => Re_parse_37_b t4 t6 a1 p.1 p.2)) (fun p => inR p.1 ∧ okS p.2) (fun p => [some (vr 141), some (vi a1), some (vi t4), some (vi t6), some (vi p.1), none]) (fun p => (ms false μ p.2)) (fun p hp => ?_) (0, σ2) ⟨(inRk 0 rfl), hσ2⟩
      obtain ⟨v4_7, σ8⟩ := p
      obtain ⟨hv4_7, hσ8⟩ := hp
      try dsimp only
      unfold Re_parse_37_b
      refine Rk.sp (G_iload_w (pc := 37) 4 rfl dX4_parse_37) ?_
      refine Rk.sp (G_sipush (pc := 39) dX4_parse_39 rfl) ?_
      refine Rk.icmp_gt (pc := 42) (tgt := 182) dX4_parse_42 (nmI hv4_7) (nmI (inRk 400 rfl)) rfl (fun hc9 => ?_) (fun hc9 => ?_)
      · refine Rk.sp (G_iconst (pc := 182) dX4_parse_182) ?_
        exact Rk.end_ (fun h => G_zreturn (pc := 183) rfl (nz inZ1) dX4_parse_183 (q_Z h inZ1 hσ8))
      · refine Rk.sp (G_aload_n (pc := 45) 0 rfl rfl dX4_parse_45) ?_
        refine Rk.gR (pc := 46) 146 flX4_28 cl4 rfl lb141 dX4_parse_46 ?_
        refine Rk.sp (G_aload_n (pc := 49) 0 rfl rfl dX4_parse_49) ?_
        refine Rk.gI (pc := 50) flX4_50 cl4 rfl lb141 dX4_parse_50 ?_
        refine Rk.al (pc := 53) lb146 dX4_parse_53 (fun hi10 => ?_)
        refine Rk.if_eq (pc := 54) (tgt := 182) dX4_parse_54 (nmI (hσ8 _ _)) rfl (fun hc11 => ?_) (fun hc11 => ?_)
        · refine Rk.sp (G_iconst (pc := 182) dX4_parse_182) ?_
          exact Rk.end_ (fun h => G_zreturn (pc := 183) rfl (nz inZ1) dX4_parse_183 (q_Z h inZ1 hσ8))
        · refine Rk.sp (G_aload_n (pc := 57) 0 rfl rfl dX4_parse_57) ?_
          refine Rk.gR (pc := 58) 146 flX4_28 cl4 rfl lb141 dX4_parse_58 ?_
          refine Rk.sp (G_aload_n (pc := 61) 0 rfl rfl dX4_parse_61) ?_
          refine Rk.gI (pc := 62) flX4_50 cl4 rfl lb141 dX4_parse_62 ?_
          refine Rk.al (pc := 65) lb146 dX4_parse_65 (fun hi12 => ?_)
          refine Rk.sp (G_iconst (pc := 66) dX4_parse_66) ?_
          refine Rk.sel (A := 83) (B := 89) (st' := []) ?_ ?_ ?_
          · refine Rk.icmp_ne (pc := 67) (tgt := 83) dX4_parse_67 (nmI (hσ8 _ _)) (nmI (inRk 1 rfl)) rfl (fun hc13 => ?_) (fun hc13 => ?_)
            · refine Rk.sp (G_aload_n (pc := 70) 0 rfl rfl dX4_parse_70) ?_
              refine Rk.gR (pc := 71) 147 flX4_31 cl4 rfl lb141 dX4_parse_71 ?_
              refine Rk.sp (G_aload_n (pc := 74) 0 rfl rfl dX4_parse_74) ?_
              refine Rk.gI (pc := 75) flX4_50 cl4 rfl lb141 dX4_parse_75 ?_
              refine Rk.al (pc := 78) lb147 dX4_parse_78 (fun hi14 => ?_)
              refine Rk.sp (G_iload_n (pc := 79) 2 rfl rfl dX4_parse_79) ?_
              refine Rk.icmp_le (pc := 80) (tgt := 89) dX4_parse_80 (nmI (hσ8 _ _)) (nmI ht4) rfl (fun hc15 => ?_) (fun hc15 => ?_)
              · exact Rk.end_ (fun h => h inZ1)
              · exact Rk.end_ (fun h => h inZ0)
            · exact Rk.end_ (fun h => h inZ1)
          · refine Rk.sp (G_aload_n (pc := 89) 0 rfl rfl dX4_parse_89) ?_
            refine Rk.gR (pc := 90) 142 flX4_16 cl4 rfl lb141 dX4_parse_90 ?_
            refine Rk.gI (pc := 93) flX4_103 cl5 rfl lb142 dX4_parse_93 ?_
            refine Rk.sp (G_iload_n (pc := 96) 3 rfl rfl dX4_parse_96) ?_
            refine Rk.icmp_lt (pc := 97) (tgt := 106) dX4_parse_97 (nmI (hσ8 _ _)) (nmI ht6) rfl (fun hc18 => ?_) (fun hc18 => ?_)
            · refine Rk.sp (G_iload_n (pc := 106) 1 rfl rfl dX4_parse_106) ?_
              refine Rk.join (P := fun p => inR p.1 ∧ okS p.2) (pcj := 145) (fun p => [some (vr 141), some (vi a1), some (vi t4), some (vi t6), some (vi v4_7), none]) (fun p => [vi p.1]) (fun p => (ms false μ p.2)) ?_ (fun p hp => ?_)
              · refine Rk.if_ne (pc := 107) (tgt := 117) dX4_parse_107 (nmI ha1) rfl (fun hc19 => ?_) (fun hc19 => ?_)
                · refine Rk.sp (G_aload_n (pc := 110) 0 rfl rfl dX4_parse_110) ?_
                  refine Rk.cZ (pc := 111) (Cl.v [] [] dX4_parse_111 ckX4_106 lb141 rfl rfl rfl (Nat.le_of_ble_eq_true rfl) (Nat.le_of_ble_eq_true rfl)) (k_Re_parseLaw σ8 hσ8) (fun r22 σ23 hr22 hσ23 => ?_)
                  refine Rk.sp (G_goto (pc := 114) (tgt := 145) dX4_parse_114 rfl) ?_
                  exact Rk.end_ (fun h => h ⟨(inZ.R hr22), hσ23⟩)
                · refine Rk.sp (G_iload_n (pc := 117) 1 rfl rfl dX4_parse_117) ?_
                  refine Rk.sp (G_iconst (pc := 118) dX4_parse_118) ?_
                  refine Rk.icmp_ne (pc := 119) (tgt := 129) dX4_parse_119 (nmI ha1) (nmI (inRk 1 rfl)) rfl (fun hc24 => ?_) (fun hc24 => ?_)
                  · refine Rk.sp (G_aload_n (pc := 122) 0 rfl rfl dX4_parse_122) ?_
                    refine Rk.cZ (pc := 123) (Cl.v [] [] dX4_parse_123 ckX4_110 lb141 rfl rfl rfl (Nat.le_of_ble_eq_true rfl) (Nat.le_of_ble_eq_true rfl)) (k_Re_parseHours σ8 hσ8) (fun r25 σ26 hr25 hσ26 => ?_)
                    refine Rk.sp (G_goto (pc := 126) (tgt := 145) dX4_parse_126 rfl) ?_
                    exact Rk.end_ (fun h => h ⟨(inZ.R hr25), hσ26⟩)
                  · refine Rk.sp (G_iload_n (pc := 129) 1 rfl rfl dX4_parse_129) ?_
                    refine Rk.sp (G_iconst (pc := 130) dX4_parse_130) ?_
                    refine Rk.icmp_ne (pc := 131) (tgt := 141) dX4_parse_131 (nmI ha1) (nmI (inRk 2 rfl)) rfl (fun hc27 => ?_) (fun hc27 => ?_)
                    · refine Rk.sp (G_aload_n (pc := 134) 0 rfl rfl dX4_parse_134) ?_
                      refine Rk.cZ (pc := 135) (Cl.v [] [] dX4_parse_135 ckX4_113 lb141 rfl rfl rfl (Nat.le_of_ble_eq_true rfl) (Nat.le_of_ble_eq_true rfl)) (k_Re_parseSaying σ8 hσ8) (fun r28 σ29 hr28 hσ29 => ?_)
                      refine Rk.sp (G_goto (pc := 138) (tgt := 145) dX4_parse_138 rfl) ?_
                      exact Rk.end_ (fun h => h ⟨(inZ.R hr28), hσ29⟩)
                    · refine Rk.sp (G_aload_n (pc := 141) 0 rfl rfl dX4_parse_141) ?_
                      refine Rk.cZ (pc := 142) (Cl.v [] [] dX4_parse_142 ckX4_116 lb141 rfl rfl rfl (Nat.le_of_ble_eq_true rfl) (Nat.le_of_ble_eq_true rfl)) (k_Re_parseHabit σ8 hσ8) (fun r30 σ31 hr30 hσ31 => ?_)
                      exact Rk.end_ (fun h => h ⟨(inZ.R hr30), hσ31⟩)
              · obtain ⟨t20, σ21⟩ := p
                obtain ⟨ht20, hσ21⟩ := hp
                try dsimp only
                refine Rk.isa_w (pc := 145) 5 (L' := [some (vr 141), some (vi a1), some (vi t4), some (vi t6), some (vi v4_7), some (vi t20)]) (Nat.le_of_ble_eq_true rfl) rfl dX4_parse_145 rfl ?_
                refine Rk.sp (G_iload_w (pc := 147) 5 rfl dX4_parse_147) ?_
                refine Rk.if_eq (pc := 149) (tgt := 161) dX4_parse_149 (nmI ht20) rfl (fun hc32 => ?_) (fun hc32 => ?_)
                · refine Rk.sp (G_iconst (pc := 161) dX4_parse_161) ?_
                  exact Rk.end_ (fun h => G_zreturn (pc := 162) rfl (nz inZ0) dX4_parse_162 (q_Z h inZ0 hσ21))
                · refine Rk.sp (G_aload_n (pc := 152) 0 rfl rfl dX4_parse_152) ?_
                  refine Rk.sp (G_bipush (pc := 153) dX4_parse_153 rfl) ?_
                  refine Rk.cZ (pc := 155) (Cl.v [vi 59] [] dX4_parse_155 ckX4_119 lb141 rfl rfl rfl (Nat.le_of_ble_eq_true rfl) (Nat.le_of_ble_eq_true rfl)) (k_Re_takeSign 59 σ21 (inRk 59 rfl) hσ21) (fun r33 σ34 hr33 hσ34 => ?_)
                  refine Rk.if_ne (pc := 158) (tgt := 163) dX4_parse_158 (nmI (inZ.R hr33)) rfl (fun hc35 => ?_) (fun hc35 => ?_)
                  · refine Rk.sp (G_iconst (pc := 161) dX4_parse_161) ?_
                    exact Rk.end_ (fun h => G_zreturn (pc := 162) rfl (nz inZ0) dX4_parse_162 (q_Z h inZ0 hσ34))
                  · refine Rk.sp (G_aload_n (pc := 163) 0 rfl rfl dX4_parse_163) ?_
                    refine Rk.gR (pc := 164) 142 flX4_16 cl4 rfl lb141 dX4_parse_164 ?_
                    refine Rk.sp (G_dup (pc := 167) dX4_parse_167 (fun _ h => by cases h)) ?_
                    refine Rk.gI (pc := 168) flX4_103 cl5 rfl lb142 dX4_parse_168 ?_
                    refine Rk.sp (G_iconst (pc := 171) dX4_parse_171) ?_
                    refine Rk.sp (G_iadd (pc := 172) dX4_parse_172) ?_
                    refine Rk.pI (pc := 173) hσ34 (nmW _) flX4_103 cl5 rfl rfl lb142 dX4_parse_173 (fun σ36 hσ36 => ?_)
                    refine Rk.inc (pc := 176) 4 (fun v4_37 => [some (vr 141), some (vi a1), some (vi t4), some (vi t6), some (vi v4_37), some (vi t20)]) rfl (Nat.le_of_ble_eq_true rfl) rfl dX4_parse_176 (fun _ => rfl) (fun v4_37 hv4_37 => ?_)
                    refine Rk.sp (G_goto (pc := 179) (tgt := 37) dX4_parse_179 rfl) ?_
                    refine Rk.fg [true, true, true, true, true, false] (L' := [some (vr 141), some (vi a1), some (vi t4), some (vi t6), some (vi v4_37), none]) rfl ?_
                    exact Rk.end_ (fun h => h ⟨hv4_37, hσ36⟩)
            · refine Rk.sp (G_aload_n (pc := 100) 0 rfl rfl dX4_parse_100) ?_
              refine Rk.sp (G_iconst (pc := 101) dX4_parse_101) ?_
              refine Rk.cZ (pc := 102) (Cl.v [vi 3] [] dX4_parse_102 ckX4_100 lb141 rfl rfl rfl (Nat.le_of_ble_eq_true rfl) (Nat.le_of_ble_eq_true rfl)) (k_Re_refuse 3 σ8 (inRk 3 rfl) hσ8) (fun r38 σ39 hr38 hσ39 => ?_)
              exact Rk.end_ (fun h => G_zreturn (pc := 105) rfl (nz hr38) dX4_parse_105 (q_Z h hr38 hσ39))
          · refine Rk.sp (G_aload_n (pc := 83) 0 rfl rfl dX4_parse_83) ?_
            refine Rk.sp (G_iconst (pc := 84) dX4_parse_84) ?_
            refine Rk.cZ (pc := 85) (Cl.v [vi 1] [] dX4_parse_85 ckX4_100 lb141 rfl rfl rfl (Nat.le_of_ble_eq_true rfl) (Nat.le_of_ble_eq_true rfl)) (k_Re_refuse 1 σ8 (inRk 1 rfl) hσ8) (fun r16 σ17 hr16 hσ17 => ?_)
            exact Rk.end_ (fun h => G_zreturn (pc := 88) rfl (nz hr16) dX4_parse_88 (q_Z h hr16 hσ17))
theorem k_Td_text {κ : Kx} {μ : Sg} (a1 : Int) (σ : Sg) (ha1 : inR a1) (hok : okS σ) : CtI κ mX8_text 43 [vr 0, vi a1] false μ σ (Td_text a1 σ) := by
  intro r τ h
  refine con_of (by decide) (Nat.le_of_ble_eq_true rfl) 0 ?_
  refine (?_ : Rk κ mX8_text _ 0 [some (vr 0), some (vi a1)] [] (ms false μ σ) (Td_text a1 σ) (fun a => a = (r, τ))) _ h rfl
  unfold Td_text
  refine Rk.sp (G_aload_n (pc := 0) 0 rfl rfl dX8_text_0) ?_
  refine Rk.gR (pc := 1) 141 flX8_29 cl8 rfl lb0 dX8_text_1 ?_
  refine Rk.sp (G_iload_n (pc := 4) 1 rfl rfl dX8_text_4) ?_
  refine Rk.cV (pc := 5) (Cl.v [vi a1] [] dX8_text_5 ckX8_162 lb141 rfl rfl rfl (Nat.le_of_ble_eq_true rfl) (Nat.le_of_ble_eq_true rfl)) (k_Re_cutTokens a1 σ ha1 hok) (fun σ1 hσ1 => ?_)
  refine Rk.sp (G_iload_n (pc := 8) 1 rfl rfl dX8_text_8) ?_
  refine Rk.sp (G_iconst (pc := 9) dX8_text_9) ?_
  refine Rk.sp (G_iconst (pc := 10) dX8_text_10) ?_
  refine Rk.cRZ (pc := 11) (Cl.s [vi a1, vi 0, vi 3] [] dX8_text_11 ckX8_81 rfl rfl (Nat.le_of_ble_eq_true rfl) (Nat.le_of_ble_eq_true rfl)) (k_Td_within a1 0 3 ha1 (inRk 0 rfl) (inRk 3 rfl)) (fun r2 hr2 => ?_)
  refine Rk.if_eq (pc := 14) (tgt := 28) dX8_text_14 (nmI (inZ.R hr2)) rfl (fun hc3 => ?_) (fun hc3 => ?_)
  · refine Rk.sp (G_iconst (pc := 28) dX8_text_28) ?_
    exact Rk.end_ (fun h => G_ireturn (pc := 29) rfl dX8_text_29 (q_I h (inRk (-1) rfl) hσ1))
  · refine Rk.sp (G_aload_n (pc := 17) 0 rfl rfl dX8_text_17) ?_
    refine Rk.gR (pc := 18) 141 flX8_29 cl8 rfl lb0 dX8_text_18 ?_
    refine Rk.sp (G_iload_n (pc := 21) 1 rfl rfl dX8_text_21) ?_
    refine Rk.cZ (pc := 22) (Cl.v [vi a1] [] dX8_text_22 ckX8_165 lb141 rfl rfl rfl (Nat.le_of_ble_eq_true rfl) (Nat.le_of_ble_eq_true rfl)) (k_Re_parse a1 σ1 ha1 hσ1) (fun r4 σ5 hr4 hσ5 => ?_)
    refine Rk.if_ne (pc := 25) (tgt := 30) dX8_text_25 (nmI (inZ.R hr4)) rfl (fun hc6 => ?_) (fun hc6 => ?_)
    · refine Rk.sp (G_iconst (pc := 28) dX8_text_28) ?_
      exact Rk.end_ (fun h => G_ireturn (pc := 29) rfl dX8_text_29 (q_I h (inRk (-1) rfl) hσ5))
    · refine Rk.sp (G_aload_n (pc := 30) 0 rfl rfl dX8_text_30) ?_
      refine Rk.gR (pc := 31) 1 flX8_12 cl8 rfl lb0 dX8_text_31 ?_
      refine Rk.gR (pc := 34) 16 flX8_168 cl7 rfl lb1 dX8_text_34 ?_
      refine Rk.sp (G_iload_n (pc := 37) 1 rfl rfl dX8_text_37) ?_
      refine Rk.qix (fun hi7 => ?_)
      refine Rk.sp (fun k => G_aaload2 (pc := 38) (16 + 1 + 3 * (a1).toNat) (lb16).1 hi7 rfl dX8_text_38 k) ?_
      refine Rk.sp (G_aload_n (pc := 39) 0 rfl rfl dX8_text_39) ?_
      refine Rk.gR (pc := 40) 141 flX8_29 cl8 rfl lb0 dX8_text_40 ?_
      refine Rk.gR (pc := 43) 142 flX8_172 cl4 rfl lb141 dX8_text_43 ?_
      refine Rk.cV (pc := 46) (Cl.v [vr 142] [] dX8_text_46 ckX8_176 ((LBw lb1).2.2.2.2.2 _ (by omega)) rfl rfl rfl (Nat.le_of_ble_eq_true rfl) (Nat.le_of_ble_eq_true rfl)) (k_Sh_copyFrom (16 + 1 + 3 * (a1).toNat) 142 σ5 ((LBw lb1).2.2.2.2.2 _ (by omega)) lb142 hσ5) (fun σ8 hσ8 => ?_)
      refine Rk.sp (G_iload_n (pc := 49) 1 rfl rfl dX8_text_49) ?_
      refine Rk.sp (G_iconst (pc := 50) dX8_text_50) ?_
      refine Rk.sel (A := 59) (B := 66) (st' := []) ?_ ?_ ?_
      · refine Rk.icmp_eq (pc := 51) (tgt := 59) dX8_text_51 (nmI ha1) (nmI (inRk 1 rfl)) rfl (fun hc9 => ?_) (fun hc9 => ?_)
        · exact Rk.end_ (fun h => h inZ1)
        · refine Rk.sp (G_iload_n (pc := 54) 1 rfl rfl dX8_text_54) ?_
          refine Rk.sp (G_iconst (pc := 55) dX8_text_55) ?_
          refine Rk.icmp_ne (pc := 56) (tgt := 66) dX8_text_56 (nmI ha1) (nmI (inRk 2 rfl)) rfl (fun hc10 => ?_) (fun hc10 => ?_)
          · exact Rk.end_ (fun h => h inZ1)
          · exact Rk.end_ (fun h => h inZ0)
      · refine Rk.sp (G_aload_n (pc := 66) 0 rfl rfl dX8_text_66) ?_
        refine Rk.gR (pc := 67) 1 flX8_12 cl8 rfl lb0 dX8_text_67 ?_
        refine Rk.gR (pc := 70) 16 flX8_168 cl7 rfl lb1 dX8_text_70 ?_
        refine Rk.sp (G_iload_n (pc := 73) 1 rfl rfl dX8_text_73) ?_
        refine Rk.qix (fun hi13 => ?_)
        refine Rk.sp (fun k => G_aaload2 (pc := 74) (16 + 1 + 3 * (a1).toNat) (lb16).1 hi13 rfl dX8_text_74 k) ?_
        refine Rk.gI (pc := 75) flX8_182 cl5 rfl ((LBw lb1).2.2.2.2.2 _ (by omega)) dX8_text_75 ?_
        exact Rk.end_ (fun h => G_ireturn (pc := 78) rfl dX8_text_78 (q_I h (hσ8 _ _) hσ8))
      · refine Rk.sp (G_aload_n (pc := 59) 0 rfl rfl dX8_text_59) ?_
        refine Rk.gR (pc := 60) 61 flX8_22 cl8 rfl lb0 dX8_text_60 ?_
        refine Rk.cV (pc := 63) (Cl.v [] [] dX8_text_63 ckX8_78 lb61 rfl rfl rfl (Nat.le_of_ble_eq_true rfl) (Nat.le_of_ble_eq_true rfl)) (k_Pa_forget σ8 hσ8) (fun σ11 hσ11 => ?_)
        refine Rk.sp (G_aload_n (pc := 66) 0 rfl rfl dX8_text_66) ?_
        refine Rk.gR (pc := 67) 1 flX8_12 cl8 rfl lb0 dX8_text_67 ?_
        refine Rk.gR (pc := 70) 16 flX8_168 cl7 rfl lb1 dX8_text_70 ?_
        refine Rk.sp (G_iload_n (pc := 73) 1 rfl rfl dX8_text_73) ?_
        refine Rk.qix (fun hi12 => ?_)
        refine Rk.sp (fun k => G_aaload2 (pc := 74) (16 + 1 + 3 * (a1).toNat) (lb16).1 hi12 rfl dX8_text_74 k) ?_
        refine Rk.gI (pc := 75) flX8_182 cl5 rfl ((LBw lb1).2.2.2.2.2 _ (by omega)) dX8_text_75 ?_
        exact Rk.end_ (fun h => G_ireturn (pc := 78) rfl dX8_text_78 (q_I h (hσ11 _ _) hσ11))
theorem k_Gl_dearest {κ : Kx} {μ : Sg} (a1 : Nat) (σ : Sg) (ha1 : LB false a1 (1, 6)) (hok : okS σ) : CtI κ mX1_dearest 1 [vr 166, vr a1] false μ σ (Gl_dearest a1 σ) := by
  intro r τ h
  refine con_of (by decide) (Nat.le_of_ble_eq_true rfl) 3 ?_
  refine (?_ : Rk κ mX1_dearest _ 0 [some (vr 166), some (vr a1), none, none, none] [] (ms false μ σ) (Gl_dearest a1 σ) (fun a => a = (r, τ))) _ h rfl
  unfold Gl_dearest
  refine Rk.sp (G_iconst (pc := 0) dX1_dearest_0) ?_
  refine Rk.isa_n (pc := 1) 2 (L' := [some (vr 166), some (vr a1), some (vi 0), none, none]) rfl (Nat.le_of_ble_eq_true rfl) rfl dX1_dearest_1 rfl ?_
  refine Rk.loop (pc := 2) (B := (fun p => Gl_dearest_2_b a1 p.1 p.2)) (fun p => inR p.1 ∧ okS p.2) (fun p => [some (vr 166), some (vr a1), some (vi p.1), none, none]) (fun p => (ms false μ p.2)) (fun p hp => ?_) (0, σ) ⟨(inRk 0 rfl), hok⟩
  obtain ⟨v2_1, σ2⟩ := p
  obtain ⟨hv2_1, hσ2⟩ := hp
  try dsimp only
  unfold Gl_dearest_2_b
  refine Rk.sp (G_iload_n (pc := 2) 2 rfl rfl dX1_dearest_2) ?_
  refine Rk.sp (G_aload_n (pc := 3) 1 rfl rfl dX1_dearest_3) ?_
  refine Rk.gI (pc := 4) flX1_26 cl6 rfl ha1 dX1_dearest_4 ?_
  refine Rk.icmp_ge (pc := 7) (tgt := 23) dX1_dearest_7 (nmI hv2_1) (nmI (hσ2 _ _)) rfl (fun hc3 => ?_) (fun hc3 => ?_)
  · refine Rk.sp (G_aload_n (pc := 10) 0 rfl rfl dX1_dearest_10) ?_
    refine Rk.gR (pc := 11) 167 flX1_11 cl1 rfl lb166 dX1_dearest_11 ?_
    refine Rk.sp (G_iload_n (pc := 14) 2 rfl rfl dX1_dearest_14) ?_
    refine Rk.sp (G_iconst (pc := 15) dX1_dearest_15) ?_
    refine Rk.as (pc := 16) hσ2 (nmI (inRk 0 rfl)) lb167 dX1_dearest_16 (fun hi5 σ4 hσ4 => ?_)
    refine Rk.inc (pc := 17) 2 (fun v2_6 => [some (vr 166), some (vr a1), some (vi v2_6), none, none]) rfl (Nat.le_of_ble_eq_true rfl) rfl dX1_dearest_17 (fun _ => rfl) (fun v2_6 hv2_6 => ?_)
    refine Rk.sp (G_goto (pc := 20) (tgt := 2) dX1_dearest_20 rfl) ?_
    exact Rk.end_ (fun h => h ⟨hv2_6, hσ4⟩)
  · refine Rk.sp (G_iconst (pc := 23) dX1_dearest_23) ?_
    refine Rk.isa_n (pc := 24) 2 (L' := [some (vr 166), some (vr a1), some (vi (-1)), none, none]) rfl (Nat.le_of_ble_eq_true rfl) rfl dX1_dearest_24 rfl ?_
    refine Rk.sp (G_aload_n (pc := 25) 1 rfl rfl dX1_dearest_25) ?_
    refine Rk.gI (pc := 26) flX1_26 cl6 rfl ha1 dX1_dearest_26 ?_
    refine Rk.sp (G_iconst (pc := 29) dX1_dearest_29) ?_
    refine Rk.sp (G_isub (pc := 30) dX1_dearest_30) ?_
    refine Rk.ist_n (pc := 31) 3 (fun v3_7 => [some (vr 166), some (vr a1), some (vi (-1)), some (vi v3_7), none]) rfl (Nat.le_of_ble_eq_true rfl) rfl dX1_dearest_31 (nmW _) (fun _ => rfl) (fun v3_7 hv3_7 => ?_)
    refine Rk.loop (pc := 32) (B := (fun p => Gl_dearest_32_b a1 p.1 p.2.1 p.2.2)) (fun p => inR p.1 ∧ inR p.2.1 ∧ okS p.2.2) (fun p => [some (vr 166), some (vr a1), some (vi p.1), some (vi p.2.1), none]) (fun p => (ms false μ p.2.2)) (fun p hp => ?_) ((-1), v3_7, σ2) ⟨(inRk (-1) rfl), hv3_7, hσ2⟩
    obtain ⟨v2_8, v3_9, σ10⟩ := p
    obtain ⟨hv2_8, hv3_9, hσ10⟩ := hp
    try dsimp only
    unfold Gl_dearest_32_b
    refine Rk.sp (G_iload_n (pc := 32) 3 rfl rfl dX1_dearest_32) ?_
    refine Rk.if_lt (pc := 33) (tgt := 134) dX1_dearest_33 (nmI hv3_9) rfl (fun hc11 => ?_) (fun hc11 => ?_)
    · refine Rk.sp (G_iload_n (pc := 134) 2 rfl rfl dX1_dearest_134) ?_
      exact Rk.end_ (fun h => G_ireturn (pc := 135) rfl dX1_dearest_135 (q_I h hv2_8 hσ10))
    · refine Rk.sp (G_aload_n (pc := 36) 1 rfl rfl dX1_dearest_36) ?_
      refine Rk.gR (pc := 37) (a1 + 11) flX1_57 cl6 rfl ha1 dX1_dearest_37 ?_
      refine Rk.sp (G_iload_n (pc := 40) 3 rfl rfl dX1_dearest_40) ?_
      refine Rk.al (pc := 41) (LBt ha1 11 (by decide)) dX1_dearest_41 (fun hi12 => ?_)
      refine Rk.if_ne (pc := 42) (tgt := 128) dX1_dearest_42 (nmI (hσ10 _ _)) rfl (fun hc13 => ?_) (fun hc13 => ?_)
      · refine Rk.sp (G_aload_n (pc := 45) 0 rfl rfl dX1_dearest_45) ?_
        refine Rk.gR (pc := 46) 167 flX1_11 cl1 rfl lb166 dX1_dearest_46 ?_
        refine Rk.sp (G_iload_n (pc := 49) 3 rfl rfl dX1_dearest_49) ?_
        refine Rk.sp (G_dup2 (pc := 50) dX1_dearest_50 (fun _ h => by cases h) (fun _ h => by cases h)) ?_
        refine Rk.al (pc := 51) lb167 dX1_dearest_51 (fun hi14 => ?_)
        refine Rk.sp (G_aload_n (pc := 52) 1 rfl rfl dX1_dearest_52) ?_
        refine Rk.gR (pc := 53) (a1 + 8) flX1_33 cl6 rfl ha1 dX1_dearest_53 ?_
        refine Rk.sp (G_iload_n (pc := 56) 3 rfl rfl dX1_dearest_56) ?_
        refine Rk.al (pc := 57) (LBt ha1 8 (by decide)) dX1_dearest_57 (fun hi15 => ?_)
        refine Rk.sp (G_iadd (pc := 58) dX1_dearest_58) ?_
        refine Rk.as (pc := 59) hσ10 (nmW _) lb167 dX1_dearest_59 (fun hi17 σ16 hσ16 => ?_)
        refine Rk.sp (G_aload_n (pc := 60) 1 rfl rfl dX1_dearest_60) ?_
        refine Rk.gR (pc := 61) (a1 + 10) flX1_74 cl6 rfl ha1 dX1_dearest_61 ?_
        refine Rk.sp (G_iload_n (pc := 64) 3 rfl rfl dX1_dearest_64) ?_
        refine Rk.al (pc := 65) (LBt ha1 10 (by decide)) dX1_dearest_65 (fun hi18 => ?_)
        refine Rk.ist_w (pc := 66) 4 (fun v4_19 => [some (vr 166), some (vr a1), some (vi v2_8), some (vi v3_9), some (vi v4_19)]) (Nat.le_of_ble_eq_true rfl) rfl dX1_dearest_66 (nmI (hσ16 _ _)) (fun _ => rfl) (fun v4_19 hv4_19 => ?_)
        refine Rk.sp (G_iload_w (pc := 68) 4 rfl dX1_dearest_68) ?_
        refine Rk.join (P := fun p => okS p) (pcj := 102) (fun p => [some (vr 166), some (vr a1), some (vi v2_8), some (vi v3_9), none]) (fun p => []) (fun p => (ms false μ p)) ?_ (fun p hp => ?_)
        · refine Rk.if_lt (pc := 70) (tgt := 102) dX1_dearest_70 (nmI hv4_19) rfl (fun hc20 => ?_) (fun hc20 => ?_)
          · refine Rk.fg [true, true, true, true, false] (L' := [some (vr 166), some (vr a1), some (vi v2_8), some (vi v3_9), none]) rfl ?_
            exact Rk.end_ (fun h => h hσ16)
          · refine Rk.sp (G_iload_w (pc := 73) 4 rfl dX1_dearest_73) ?_
            refine Rk.sp (G_iload_n (pc := 75) 3 rfl rfl dX1_dearest_75) ?_
            refine Rk.icmp_ge (pc := 76) (tgt := 102) dX1_dearest_76 (nmI hv4_19) (nmI hv3_9) rfl (fun hc22 => ?_) (fun hc22 => ?_)
            · refine Rk.sp (G_aload_n (pc := 79) 0 rfl rfl dX1_dearest_79) ?_
              refine Rk.gR (pc := 80) 167 flX1_11 cl1 rfl lb166 dX1_dearest_80 ?_
              refine Rk.sp (G_iload_w (pc := 83) 4 rfl dX1_dearest_83) ?_
              refine Rk.sp (G_aload_n (pc := 85) 0 rfl rfl dX1_dearest_85) ?_
              refine Rk.gR (pc := 86) 167 flX1_11 cl1 rfl lb166 dX1_dearest_86 ?_
              refine Rk.sp (G_iload_w (pc := 89) 4 rfl dX1_dearest_89) ?_
              refine Rk.al (pc := 91) lb167 dX1_dearest_91 (fun hi23 => ?_)
              refine Rk.sp (G_aload_n (pc := 92) 0 rfl rfl dX1_dearest_92) ?_
              refine Rk.gR (pc := 93) 167 flX1_11 cl1 rfl lb166 dX1_dearest_93 ?_
              refine Rk.sp (G_iload_n (pc := 96) 3 rfl rfl dX1_dearest_96) ?_
              refine Rk.al (pc := 97) lb167 dX1_dearest_97 (fun hi24 => ?_)
              refine Rk.mmax (pc := 98) cmmX1_51 (hσ16 _ _) (hσ16 _ _) (Nat.le_of_ble_eq_true rfl) (Nat.le_of_ble_eq_true rfl) dX1_dearest_98 (fun r25 hr25 => ?_)
              refine Rk.as (pc := 101) hσ16 (nmI hr25) lb167 dX1_dearest_101 (fun hi27 σ26 hσ26 => ?_)
              refine Rk.fg [true, true, true, true, false] (L' := [some (vr 166), some (vr a1), some (vi v2_8), some (vi v3_9), none]) rfl ?_
              exact Rk.end_ (fun h => h hσ26)
            · refine Rk.fg [true, true, true, true, false] (L' := [some (vr 166), some (vr a1), some (vi v2_8), some (vi v3_9), none]) rfl ?_
              exact Rk.end_ (fun h => h hσ16)
        · revert hp; revert p; intro σ21 hσ21
          try dsimp only
          refine Rk.sp (G_iload_n (pc := 102) 2 rfl rfl dX1_dearest_102) ?_
          refine Rk.sp (G_iconst (pc := 103) dX1_dearest_103) ?_
          refine Rk.icmp_eq (pc := 104) (tgt := 122) dX1_dearest_104 (nmI hv2_8) (nmI (inRk (-1) rfl)) rfl (fun hc28 => ?_) (fun hc28 => ?_)
          · refine Rk.sp (G_iload_n (pc := 122) 3 rfl rfl dX1_dearest_122) ?_
            refine Rk.sp (G_goto (pc := 123) (tgt := 127) dX1_dearest_123 rfl) ?_
            refine Rk.isa_n (pc := 127) 2 (L' := [some (vr 166), some (vr a1), some (vi v3_9), some (vi v3_9), none]) rfl (Nat.le_of_ble_eq_true rfl) rfl dX1_dearest_127 rfl ?_
            refine Rk.inc (pc := 128) 3 (fun v3_29 => [some (vr 166), some (vr a1), some (vi v3_9), some (vi v3_29), none]) rfl (Nat.le_of_ble_eq_true rfl) rfl dX1_dearest_128 (fun _ => rfl) (fun v3_29 hv3_29 => ?_)
            refine Rk.sp (G_goto (pc := 131) (tgt := 32) dX1_dearest_131 rfl) ?_
            exact Rk.end_ (fun h => h ⟨hv3_9, hv3_29, hσ21⟩)
          · refine Rk.sp (G_aload_n (pc := 107) 0 rfl rfl dX1_dearest_107) ?_
            refine Rk.gR (pc := 108) 167 flX1_11 cl1 rfl lb166 dX1_dearest_108 ?_
            refine Rk.sp (G_iload_n (pc := 111) 3 rfl rfl dX1_dearest_111) ?_
            refine Rk.al (pc := 112) lb167 dX1_dearest_112 (fun hi30 => ?_)
            refine Rk.sp (G_aload_n (pc := 113) 0 rfl rfl dX1_dearest_113) ?_
            refine Rk.gR (pc := 114) 167 flX1_11 cl1 rfl lb166 dX1_dearest_114 ?_
            refine Rk.sp (G_iload_n (pc := 117) 2 rfl rfl dX1_dearest_117) ?_
            refine Rk.al (pc := 118) lb167 dX1_dearest_118 (fun hi31 => ?_)
            refine Rk.icmp_lt (pc := 119) (tgt := 126) dX1_dearest_119 (nmI (hσ21 _ _)) (nmI (hσ21 _ _)) rfl (fun hc32 => ?_) (fun hc32 => ?_)
            · refine Rk.sp (G_iload_n (pc := 126) 2 rfl rfl dX1_dearest_126) ?_
              refine Rk.isa_n (pc := 127) 2 (L' := [some (vr 166), some (vr a1), some (vi v2_8), some (vi v3_9), none]) rfl (Nat.le_of_ble_eq_true rfl) rfl dX1_dearest_127 rfl ?_
              refine Rk.inc (pc := 128) 3 (fun v3_33 => [some (vr 166), some (vr a1), some (vi v2_8), some (vi v3_33), none]) rfl (Nat.le_of_ble_eq_true rfl) rfl dX1_dearest_128 (fun _ => rfl) (fun v3_33 hv3_33 => ?_)
              refine Rk.sp (G_goto (pc := 131) (tgt := 32) dX1_dearest_131 rfl) ?_
              exact Rk.end_ (fun h => h ⟨hv2_8, hv3_33, hσ21⟩)
            · refine Rk.sp (G_iload_n (pc := 122) 3 rfl rfl dX1_dearest_122) ?_
              refine Rk.sp (G_goto (pc := 123) (tgt := 127) dX1_dearest_123 rfl) ?_
              refine Rk.isa_n (pc := 127) 2 (L' := [some (vr 166), some (vr a1), some (vi v3_9), some (vi v3_9), none]) rfl (Nat.le_of_ble_eq_true rfl) rfl dX1_dearest_127 rfl ?_
              refine Rk.inc (pc := 128) 3 (fun v3_34 => [some (vr 166), some (vr a1), some (vi v3_9), some (vi v3_34), none]) rfl (Nat.le_of_ble_eq_true rfl) rfl dX1_dearest_128 (fun _ => rfl) (fun v3_34 hv3_34 => ?_)
              refine Rk.sp (G_goto (pc := 131) (tgt := 32) dX1_dearest_131 rfl) ?_
              exact Rk.end_ (fun h => h ⟨hv3_9, hv3_34, hσ21⟩)
      · refine Rk.inc (pc := 128) 3 (fun v3_35 => [some (vr 166), some (vr a1), some (vi v2_8), some (vi v3_35), none]) rfl (Nat.le_of_ble_eq_true rfl) rfl dX1_dearest_128 (fun _ => rfl) (fun v3_35 hv3_35 => ?_)
        refine Rk.sp (G_goto (pc := 131) (tgt := 32) dX1_dearest_131 rfl) ?_
        exact Rk.end_ (fun h => h ⟨hv2_8, hv3_35, hσ10⟩)
theorem k_Td_thread {κ : Kx} {μ : Sg} (a1 : Int) (σ : Sg) (ha1 : inR a1) (hok : okS σ) : CtI κ mX8_thread 2 [vr 0, vi a1] false μ σ (Td_thread a1 σ) := by
  intro r τ h
  refine con_of (by decide) (Nat.le_of_ble_eq_true rfl) 1 ?_
  refine (?_ : Rk κ mX8_thread _ 0 [some (vr 0), some (vi a1), none] [] (ms false μ σ) (Td_thread a1 σ) (fun a => a = (r, τ))) _ h rfl
  unfold Td_thread
  refine Rk.sp (G_iload_n (pc := 0) 1 rfl rfl dX8_thread_0) ?_
  refine Rk.sp (G_iconst (pc := 1) dX8_thread_1) ?_
  refine Rk.sp (G_iconst (pc := 2) dX8_thread_2) ?_
  refine Rk.cRZ (pc := 3) (Cl.s [vi a1, vi 0, vi 1] [] dX8_thread_3 ckX8_81 rfl rfl (Nat.le_of_ble_eq_true rfl) (Nat.le_of_ble_eq_true rfl)) (k_Td_within a1 0 1 ha1 (inRk 0 rfl) (inRk 1 rfl)) (fun r1 hr1 => ?_)
  refine Rk.if_ne (pc := 6) (tgt := 11) dX8_thread_6 (nmI (inZ.R hr1)) rfl (fun hc2 => ?_) (fun hc2 => ?_)
  · refine Rk.sp (G_iconst (pc := 9) dX8_thread_9) ?_
    exact Rk.end_ (fun h => G_ireturn (pc := 10) rfl dX8_thread_10 (q_I h (inRk (-1) rfl) hok))
  · refine Rk.sp (G_aload_n (pc := 11) 0 rfl rfl dX8_thread_11) ?_
    refine Rk.gR (pc := 12) 166 flX8_59 cl8 rfl lb0 dX8_thread_12 ?_
    refine Rk.sp (G_aload_n (pc := 15) 0 rfl rfl dX8_thread_15) ?_
    refine Rk.gR (pc := 16) 1 flX8_12 cl8 rfl lb0 dX8_thread_16 ?_
    refine Rk.gR (pc := 19) 2 flX8_71 cl7 rfl lb1 dX8_thread_19 ?_
    refine Rk.cI (pc := 22) (Cl.v [vr 2] [] dX8_thread_22 ckX8_321 lb166 rfl rfl rfl (Nat.le_of_ble_eq_true rfl) (Nat.le_of_ble_eq_true rfl)) (k_Gl_dearest 2 σ lb2 hok) (fun r3 σ4 hr3 hσ4 => ?_)
    refine Rk.isa_n (pc := 25) 2 (L' := [some (vr 0), some (vi a1), some (vi r3)]) rfl (Nat.le_of_ble_eq_true rfl) rfl dX8_thread_25 rfl ?_
    refine Rk.sp (G_iload_n (pc := 26) 1 rfl rfl dX8_thread_26) ?_
    refine Rk.sp (G_iconst (pc := 27) dX8_thread_27) ?_
    refine Rk.icmp_eq (pc := 28) (tgt := 36) dX8_thread_28 (nmI ha1) (nmI (inRk 1 rfl)) rfl (fun hc5 => ?_) (fun hc5 => ?_)
    · refine Rk.sp (G_iload_n (pc := 36) 2 rfl rfl dX8_thread_36) ?_
      refine Rk.sp (G_goto (pc := 37) (tgt := 49) dX8_thread_37 rfl) ?_
      exact Rk.end_ (fun h => G_ireturn (pc := 49) rfl dX8_thread_49 (q_I h hr3 hσ4))
    · refine Rk.sp (G_iload_n (pc := 31) 2 rfl rfl dX8_thread_31) ?_
      refine Rk.sp (G_iconst (pc := 32) dX8_thread_32) ?_
      refine Rk.icmp_ne (pc := 33) (tgt := 40) dX8_thread_33 (nmI hr3) (nmI (inRk (-1) rfl)) rfl (fun hc6 => ?_) (fun hc6 => ?_)
      · refine Rk.sp (G_iload_n (pc := 36) 2 rfl rfl dX8_thread_36) ?_
        refine Rk.sp (G_goto (pc := 37) (tgt := 49) dX8_thread_37 rfl) ?_
        exact Rk.end_ (fun h => G_ireturn (pc := 49) rfl dX8_thread_49 (q_I h hr3 hσ4))
      · refine Rk.sp (G_aload_n (pc := 40) 0 rfl rfl dX8_thread_40) ?_
        refine Rk.gR (pc := 41) 166 flX8_59 cl8 rfl lb0 dX8_thread_41 ?_
        refine Rk.gR (pc := 44) 167 flX8_324 cl1 rfl lb166 dX8_thread_44 ?_
        refine Rk.sp (G_iload_n (pc := 47) 2 rfl rfl dX8_thread_47) ?_
        refine Rk.al (pc := 48) lb167 dX8_thread_48 (fun hi7 => ?_)
        exact Rk.end_ (fun h => G_ireturn (pc := 49) rfl dX8_thread_49 (q_I h (hσ4 _ _) hσ4))
theorem k_Td_time {κ : Kx} {μ : Sg} (a1 : Int) (σ : Sg) (ha1 : inR a1) (hok : okS σ) : CtI κ mX8_time 1 [vr 0, vi a1] false μ σ (Td_time a1 σ) := by
  intro r τ h
  refine con_of (by decide) (Nat.le_of_ble_eq_true rfl) 0 ?_
  refine (?_ : Rk κ mX8_time _ 0 [some (vr 0), some (vi a1)] [] (ms false μ σ) (Td_time a1 σ) (fun a => a = (r, τ))) _ h rfl
  unfold Td_time
  refine Rk.sp (G_iload_n (pc := 0) 1 rfl rfl dX8_time_0) ?_
  refine Rk.sp (G_iconst (pc := 1) dX8_time_1) ?_
  refine Rk.icmp_ne (pc := 2) (tgt := 15) dX8_time_2 (nmI ha1) (nmI (inRk (-1) rfl)) rfl (fun hc1 => ?_) (fun hc1 => ?_)
  · refine Rk.sp (G_aload_n (pc := 5) 0 rfl rfl dX8_time_5) ?_
    refine Rk.gR (pc := 6) 1 flX8_12 cl8 rfl lb0 dX8_time_6 ?_
    refine Rk.sp (G_iconst (pc := 9) dX8_time_9) ?_
    refine Rk.pI (pc := 10) hok (nmI (inRk 0 rfl)) flX8_288 cl7 rfl rfl lb1 dX8_time_10 (fun σ2 hσ2 => ?_)
    refine Rk.sp (G_iconst (pc := 13) dX8_time_13) ?_
    exact Rk.end_ (fun h => G_ireturn (pc := 14) rfl dX8_time_14 (q_I h (inRk 0 rfl) hσ2))
  · refine Rk.sp (G_iload_n (pc := 15) 1 rfl rfl dX8_time_15) ?_
    refine Rk.sp (G_iconst (pc := 16) dX8_time_16) ?_
    refine Rk.sp (G_sipush (pc := 17) dX8_time_17 rfl) ?_
    refine Rk.cRZ (pc := 20) (Cl.s [vi a1, vi 0, vi 1439] [] dX8_time_20 ckX8_81 rfl rfl (Nat.le_of_ble_eq_true rfl) (Nat.le_of_ble_eq_true rfl)) (k_Td_within a1 0 1439 ha1 (inRk 0 rfl) (inRk 1439 rfl)) (fun r3 hr3 => ?_)
    refine Rk.if_eq (pc := 23) (tgt := 38) dX8_time_23 (nmI (inZ.R hr3)) rfl (fun hc4 => ?_) (fun hc4 => ?_)
    · refine Rk.sp (G_iconst (pc := 38) dX8_time_38) ?_
      exact Rk.end_ (fun h => G_ireturn (pc := 39) rfl dX8_time_39 (q_I h (inRk (-1) rfl) hok))
    · refine Rk.sp (G_aload_n (pc := 26) 0 rfl rfl dX8_time_26) ?_
      refine Rk.gR (pc := 27) 1 flX8_12 cl8 rfl lb0 dX8_time_27 ?_
      refine Rk.gI (pc := 30) flX8_288 cl7 rfl lb1 dX8_time_30 ?_
      refine Rk.sp (G_bipush (pc := 33) dX8_time_33 rfl) ?_
      refine Rk.icmp_lt (pc := 35) (tgt := 40) dX8_time_35 (nmI (hok _ _)) (nmI (inRk 10 rfl)) rfl (fun hc5 => ?_) (fun hc5 => ?_)
      · refine Rk.sp (G_aload_n (pc := 40) 0 rfl rfl dX8_time_40) ?_
        refine Rk.gR (pc := 41) 1 flX8_12 cl8 rfl lb0 dX8_time_41 ?_
        refine Rk.gR (pc := 44) 29 flX8_291 cl7 rfl lb1 dX8_time_44 ?_
        refine Rk.sp (G_aload_n (pc := 47) 0 rfl rfl dX8_time_47) ?_
        refine Rk.gR (pc := 48) 1 flX8_12 cl8 rfl lb0 dX8_time_48 ?_
        refine Rk.gI (pc := 51) flX8_288 cl7 rfl lb1 dX8_time_51 ?_
        refine Rk.sp (G_iload_n (pc := 54) 1 rfl rfl dX8_time_54) ?_
        refine Rk.as (pc := 55) hok (nmI ha1) lb29 dX8_time_55 (fun hi7 σ6 hσ6 => ?_)
        refine Rk.sp (G_aload_n (pc := 56) 0 rfl rfl dX8_time_56) ?_
        refine Rk.gR (pc := 57) 1 flX8_12 cl8 rfl lb0 dX8_time_57 ?_
        refine Rk.sp (G_dup (pc := 60) dX8_time_60 (fun _ h => by cases h)) ?_
        refine Rk.gI (pc := 61) flX8_288 cl7 rfl lb1 dX8_time_61 ?_
        refine Rk.sp (G_iconst (pc := 64) dX8_time_64) ?_
        refine Rk.sp (G_iadd (pc := 65) dX8_time_65) ?_
        refine Rk.pI (pc := 66) hσ6 (nmW _) flX8_288 cl7 rfl rfl lb1 dX8_time_66 (fun σ8 hσ8 => ?_)
        refine Rk.sp (G_aload_n (pc := 69) 0 rfl rfl dX8_time_69) ?_
        refine Rk.gR (pc := 70) 1 flX8_12 cl8 rfl lb0 dX8_time_70 ?_
        refine Rk.gI (pc := 73) flX8_288 cl7 rfl lb1 dX8_time_73 ?_
        exact Rk.end_ (fun h => G_ireturn (pc := 76) rfl dX8_time_76 (q_I h (hσ8 _ _) hσ8))
      · refine Rk.sp (G_iconst (pc := 38) dX8_time_38) ?_
        exact Rk.end_ (fun h => G_ireturn (pc := 39) rfl dX8_time_39 (q_I h (inRk (-1) rfl) hok))
theorem k_Pa_goBack {κ : Kx} {μ : Sg} (a1 : Nat) (σ : Sg) (ha1 : LB false a1 (1, 6)) (hok : okS σ) : CtZ κ mX3_goBack 2 [vr 61, vr a1] false μ σ (Pa_goBack a1 σ) := by
  intro r τ h
  refine con_of (by decide) (Nat.le_of_ble_eq_true rfl) 0 ?_
  refine (?_ : Rk κ mX3_goBack _ 0 [some (vr 61), some (vr a1)] [] (ms false μ σ) (Pa_goBack a1 σ) (fun a => a = (r, τ))) _ h rfl
  unfold Pa_goBack
  refine Rk.sp (G_aload_n (pc := 0) 0 rfl rfl dX3_goBack_0) ?_
  refine Rk.gI (pc := 1) flX3_20 cl3 rfl lb61 dX3_goBack_1 ?_
  refine Rk.if_ne (pc := 4) (tgt := 9) dX3_goBack_4 (nmI (hok _ _)) rfl (fun hc1 => ?_) (fun hc1 => ?_)
  · refine Rk.sp (G_iconst (pc := 7) dX3_goBack_7) ?_
    exact Rk.end_ (fun h => G_zreturn (pc := 8) rfl (nz inZ0) dX3_goBack_8 (q_Z h inZ0 hok))
  · refine Rk.sp (G_aload_n (pc := 9) 0 rfl rfl dX3_goBack_9) ?_
    refine Rk.sp (G_dup (pc := 10) dX3_goBack_10 (fun _ h => by cases h)) ?_
    refine Rk.gI (pc := 11) flX3_20 cl3 rfl lb61 dX3_goBack_11 ?_
    refine Rk.sp (G_iconst (pc := 14) dX3_goBack_14) ?_
    refine Rk.sp (G_isub (pc := 15) dX3_goBack_15) ?_
    refine Rk.pI (pc := 16) hok (nmW _) flX3_20 cl3 rfl rfl lb61 dX3_goBack_16 (fun σ2 hσ2 => ?_)
    refine Rk.sp (G_aload_n (pc := 19) 1 rfl rfl dX3_goBack_19) ?_
    refine Rk.sp (G_aload_n (pc := 20) 0 rfl rfl dX3_goBack_20) ?_
    refine Rk.gR (pc := 21) 62 flX3_11 cl3 rfl lb61 dX3_goBack_21 ?_
    refine Rk.sp (G_aload_n (pc := 24) 0 rfl rfl dX3_goBack_24) ?_
    refine Rk.gI (pc := 25) flX3_16 cl3 rfl lb61 dX3_goBack_25 ?_
    refine Rk.sp (G_aload_n (pc := 28) 0 rfl rfl dX3_goBack_28) ?_
    refine Rk.gI (pc := 29) flX3_20 cl3 rfl lb61 dX3_goBack_29 ?_
    refine Rk.sp (G_iadd (pc := 32) dX3_goBack_32) ?_
    refine Rk.sp (G_bipush (pc := 33) dX3_goBack_33 rfl) ?_
    refine Rk.sp (G_irem (pc := 35) dX3_goBack_35 (nmW _) (nmI (inRk 6 rfl)) (by decide)) ?_
    refine Rk.qix (fun hi3 => ?_)
    refine Rk.sp (fun k => G_aaload3 (pc := 36) (62 + 1 + 13 * ((Int.tmod (wr ((σ2 61 1) + (σ2 61 2))) 6)).toNat) (lb62).1 hi3 rfl dX3_goBack_36 k) ?_
    refine Rk.cV (pc := 37) (Cl.v [vr (62 + 1 + 13 * ((Int.tmod (wr ((σ2 61 1) + (σ2 61 2))) 6)).toNat)] [] dX3_goBack_37 ckX3_23 ha1 rfl rfl rfl (Nat.le_of_ble_eq_true rfl) (Nat.le_of_ble_eq_true rfl)) (k_Ta_copyFrom a1 (62 + 1 + 13 * ((Int.tmod (wr ((σ2 61 1) + (σ2 61 2))) 6)).toNat) σ2 ha1 (LBp (by omega)) hσ2) (fun σ4 hσ4 => ?_)
    refine Rk.sp (G_iconst (pc := 40) dX3_goBack_40) ?_
    exact Rk.end_ (fun h => G_zreturn (pc := 41) rfl (nz inZ1) dX3_goBack_41 (q_Z h inZ1 hσ4))
theorem k_Td_undo {κ : Kx} {μ : Sg} (σ : Sg) (hok : okS σ) : CtZ κ mX8_undo 3 [vr 0] false μ σ (Td_undo σ) := by
  intro r τ h
  refine con_of (by decide) (Nat.le_of_ble_eq_true rfl) 0 ?_
  refine (?_ : Rk κ mX8_undo _ 0 [some (vr 0)] [] (ms false μ σ) (Td_undo σ) (fun a => a = (r, τ))) _ h rfl
  unfold Td_undo
  refine Rk.sp (G_aload_n (pc := 0) 0 rfl rfl dX8_undo_0) ?_
  refine Rk.gR (pc := 1) 61 flX8_22 cl8 rfl lb0 dX8_undo_1 ?_
  refine Rk.sp (G_aload_n (pc := 4) 0 rfl rfl dX8_undo_4) ?_
  refine Rk.gR (pc := 5) 1 flX8_12 cl8 rfl lb0 dX8_undo_5 ?_
  refine Rk.gR (pc := 8) 2 flX8_71 cl7 rfl lb1 dX8_undo_8 ?_
  refine Rk.cZ (pc := 11) (Cl.v [vr 2] [] dX8_undo_11 ckX8_348 lb61 rfl rfl rfl (Nat.le_of_ble_eq_true rfl) (Nat.le_of_ble_eq_true rfl)) (k_Pa_goBack 2 σ lb2 hok) (fun r1 σ2 hr1 hσ2 => ?_)
  exact Rk.end_ (fun h => G_zreturn (pc := 14) rfl (nz hr1) dX8_undo_14 (q_Z h hr1 hσ2))
theorem k_Td_waits {κ : Kx} {μ : Sg} (a1 : Int) (σ : Sg) (ha1 : inR a1) (hok : okS σ) : CtRI κ mX8_waits 2 [vr 0, vi a1] false μ σ (Td_waits a1 σ) := by
  intro r h
  refine con_of (by decide) (Nat.le_of_ble_eq_true rfl) 4 ?_
  refine (?_ : Rk κ mX8_waits _ 0 [some (vr 0), some (vi a1), none, none, none, none] [] (ms false μ σ) (Td_waits a1 σ) (fun a => a = r)) _ h rfl
  unfold Td_waits
  refine Rk.sp (G_iload_n (pc := 0) 1 rfl rfl dX8_waits_0) ?_
  refine Rk.sp (G_iconst (pc := 1) dX8_waits_1) ?_
  refine Rk.sp (G_sipush (pc := 2) dX8_waits_2 rfl) ?_
  refine Rk.cRZ (pc := 5) (Cl.s [vi a1, vi 0, vi 1000] [] dX8_waits_5 ckX8_81 rfl rfl (Nat.le_of_ble_eq_true rfl) (Nat.le_of_ble_eq_true rfl)) (k_Td_within a1 0 1000 ha1 (inRk 0 rfl) (inRk 1000 rfl)) (fun r1 hr1 => ?_)
  refine Rk.if_ne (pc := 8) (tgt := 13) dX8_waits_8 (nmI (inZ.R hr1)) rfl (fun hc2 => ?_) (fun hc2 => ?_)
  · refine Rk.sp (G_iconst (pc := 11) dX8_waits_11) ?_
    exact Rk.end_ (fun h => G_ireturn (pc := 12) rfl dX8_waits_12 (q_RI h (inRk (-1) rfl)))
  · refine Rk.sp (G_iconst (pc := 13) dX8_waits_13) ?_
    refine Rk.isa_n (pc := 14) 2 (L' := [some (vr 0), some (vi a1), some (vi (-1)), none, none, none]) rfl (Nat.le_of_ble_eq_true rfl) rfl dX8_waits_14 rfl ?_
    refine Rk.sp (G_iconst (pc := 15) dX8_waits_15) ?_
    refine Rk.isa_n (pc := 16) 3 (L' := [some (vr 0), some (vi a1), some (vi (-1)), some (vi (-1)), none, none]) rfl (Nat.le_of_ble_eq_true rfl) rfl dX8_waits_16 rfl ?_
    refine Rk.sp (G_iconst (pc := 17) dX8_waits_17) ?_
    refine Rk.isa_w (pc := 18) 4 (L' := [some (vr 0), some (vi a1), some (vi (-1)), some (vi (-1)), some (vi 0), none]) (Nat.le_of_ble_eq_true rfl) rfl dX8_waits_18 rfl ?_
    refine Rk.loop (pc := 20) (B := (fun p => Td_waits_20_b σ a1 p.1 p.2.1 p.2.2)) (fun p => inR p.1 ∧ inR p.2.1 ∧ inR p.2.2) (fun p => [some (vr 0), some (vi a1), some (vi p.1), some (vi p.2.1), some (vi p.2.2), none]) (fun p => (ms false μ σ)) (fun p hp => ?_) ((-1), (-1), 0) ⟨(inRk (-1) rfl), (inRk (-1) rfl), (inRk 0 rfl)⟩
    obtain ⟨v2_3, v3_4, v4_5⟩ := p
    obtain ⟨hv2_3, hv3_4, hv4_5⟩ := hp
    try dsimp only
    unfold Td_waits_20_b
    refine Rk.sp (G_iload_w (pc := 20) 4 rfl dX8_waits_20) ?_
    refine Rk.sp (G_aload_n (pc := 22) 0 rfl rfl dX8_waits_22) ?_
    refine Rk.gR (pc := 23) 1 flX8_12 cl8 rfl lb0 dX8_waits_23 ?_
    refine Rk.cRI (pc := 26) (Cl.v [] [vi v4_5] dX8_waits_26 ckX8_258 lb1 rfl rfl rfl (Nat.le_of_ble_eq_true rfl) (Nat.le_of_ble_eq_true rfl)) (k_Wo_signs 1 σ lb1 hok) (fun r6 hr6 => ?_)
    refine Rk.icmp_ge (pc := 29) (tgt := 86) dX8_waits_29 (nmI hv4_5) (nmI hr6) rfl (fun hc7 => ?_) (fun hc7 => ?_)
    · refine Rk.sp (G_aload_n (pc := 32) 0 rfl rfl dX8_waits_32) ?_
      refine Rk.gR (pc := 33) 1 flX8_12 cl8 rfl lb0 dX8_waits_33 ?_
      refine Rk.sp (G_iload_n (pc := 36) 1 rfl rfl dX8_waits_36) ?_
      refine Rk.sp (G_sipush (pc := 37) dX8_waits_37 rfl) ?_
      refine Rk.sp (G_imul (pc := 40) dX8_waits_40) ?_
      refine Rk.sp (G_iload_w (pc := 41) 4 rfl dX8_waits_41) ?_
      refine Rk.sp (G_iconst (pc := 43) dX8_waits_43) ?_
      refine Rk.sp (Go.n2 (nmW _)) ?_
      refine Rk.cRI (pc := 44) (Cl.v [vi (wr (a1 * 1000)), vi v4_5, vi 1] [] dX8_waits_44 ckX8_261 lb1 rfl rfl rfl (Nat.le_of_ble_eq_true rfl) (Nat.le_of_ble_eq_true rfl)) (k_Wo_surer 1 (wr (a1 * 1000)) v4_5 1 σ lb1 (wrR _) hv4_5 (inRk 1 rfl) hok) (fun r8 hr8 => ?_)
      refine Rk.sp (G_aload_n (pc := 47) 0 rfl rfl dX8_waits_47) ?_
      refine Rk.gR (pc := 48) 1 flX8_12 cl8 rfl lb0 dX8_waits_48 ?_
      refine Rk.sp (G_iload_n (pc := 51) 1 rfl rfl dX8_waits_51) ?_
      refine Rk.sp (G_sipush (pc := 52) dX8_waits_52 rfl) ?_
      refine Rk.sp (G_imul (pc := 55) dX8_waits_55) ?_
      refine Rk.sp (G_iload_w (pc := 56) 4 rfl dX8_waits_56) ?_
      refine Rk.sp (G_iconst (pc := 58) dX8_waits_58) ?_
      refine Rk.sp (Go.n2 (nmW _)) ?_
      refine Rk.cRI (pc := 59) (Cl.v [vi (wr (a1 * 1000)), vi v4_5, vi 0] [vi r8] dX8_waits_59 ckX8_261 lb1 rfl rfl rfl (Nat.le_of_ble_eq_true rfl) (Nat.le_of_ble_eq_true rfl)) (k_Wo_surer 1 (wr (a1 * 1000)) v4_5 0 σ lb1 (wrR _) hv4_5 (inRk 0 rfl) hok) (fun r9 hr9 => ?_)
      refine Rk.sp (G_isub (pc := 62) dX8_waits_62) ?_
      refine Rk.sp (Go.n0 (nmW _)) ?_
      refine Rk.mabs (pc := 63) cmmX8_266 (wrR _) (Nat.le_of_ble_eq_true rfl) (Nat.le_of_ble_eq_true rfl) dX8_waits_63 (fun r10 hr10 => ?_)
      refine Rk.isa_w (pc := 66) 5 (L' := [some (vr 0), some (vi a1), some (vi v2_3), some (vi v3_4), some (vi v4_5), some (vi r10)]) (Nat.le_of_ble_eq_true rfl) rfl dX8_waits_66 rfl ?_
      refine Rk.sp (G_iload_w (pc := 68) 5 rfl dX8_waits_68) ?_
      refine Rk.sp (G_iload_n (pc := 70) 3 rfl rfl dX8_waits_70) ?_
      refine Rk.icmp_le (pc := 71) (tgt := 80) dX8_waits_71 (nmI hr10) (nmI hv3_4) rfl (fun hc11 => ?_) (fun hc11 => ?_)
      · refine Rk.sp (G_iload_w (pc := 74) 5 rfl dX8_waits_74) ?_
        refine Rk.isa_n (pc := 76) 3 (L' := [some (vr 0), some (vi a1), some (vi v2_3), some (vi r10), some (vi v4_5), some (vi r10)]) rfl (Nat.le_of_ble_eq_true rfl) rfl dX8_waits_76 rfl ?_
        refine Rk.sp (G_iload_w (pc := 77) 4 rfl dX8_waits_77) ?_
        refine Rk.isa_n (pc := 79) 2 (L' := [some (vr 0), some (vi a1), some (vi v4_5), some (vi r10), some (vi v4_5), some (vi r10)]) rfl (Nat.le_of_ble_eq_true rfl) rfl dX8_waits_79 rfl ?_
        refine Rk.inc (pc := 80) 4 (fun v4_12 => [some (vr 0), some (vi a1), some (vi v4_5), some (vi r10), some (vi v4_12), some (vi r10)]) rfl (Nat.le_of_ble_eq_true rfl) rfl dX8_waits_80 (fun _ => rfl) (fun v4_12 hv4_12 => ?_)
        refine Rk.sp (G_goto (pc := 83) (tgt := 20) dX8_waits_83 rfl) ?_
        refine Rk.fg [true, true, true, true, true, false] (L' := [some (vr 0), some (vi a1), some (vi v4_5), some (vi r10), some (vi v4_12), none]) rfl ?_
        exact Rk.end_ (fun h => h ⟨hv4_5, hr10, hv4_12⟩)
      · refine Rk.inc (pc := 80) 4 (fun v4_13 => [some (vr 0), some (vi a1), some (vi v2_3), some (vi v3_4), some (vi v4_13), some (vi r10)]) rfl (Nat.le_of_ble_eq_true rfl) rfl dX8_waits_80 (fun _ => rfl) (fun v4_13 hv4_13 => ?_)
        refine Rk.sp (G_goto (pc := 83) (tgt := 20) dX8_waits_83 rfl) ?_
        refine Rk.fg [true, true, true, true, true, false] (L' := [some (vr 0), some (vi a1), some (vi v2_3), some (vi v3_4), some (vi v4_13), none]) rfl ?_
        exact Rk.end_ (fun h => h ⟨hv2_3, hv3_4, hv4_13⟩)
    · refine Rk.sp (G_iload_n (pc := 86) 2 rfl rfl dX8_waits_86) ?_
      exact Rk.end_ (fun h => G_ireturn (pc := 87) rfl dX8_waits_87 (q_RI h hv2_3))
theorem k_Gl_worthiest {κ : Kx} {μ : Sg} (a1 : Nat) (a2 : Int) (σ : Sg) (ha1 : LB false a1 (1, 6)) (ha2 : inR a2) (hok : okS σ) : CtRI κ mX1_worthiest 1 [vr 166, vr a1, vi a2] false μ σ (Gl_worthiest a1 a2 σ) := by
  intro r h
  refine con_of (by decide) (Nat.le_of_ble_eq_true rfl) 4 ?_
  refine (?_ : Rk κ mX1_worthiest _ 0 [some (vr 166), some (vr a1), some (vi a2), none, none, none, none] [] (ms false μ σ) (Gl_worthiest a1 a2 σ) (fun a => a = r)) _ h rfl
  unfold Gl_worthiest
  refine Rk.sp (G_iconst (pc := 0) dX1_worthiest_0) ?_
  refine Rk.isa_n (pc := 1) 3 (L' := [some (vr 166), some (vr a1), some (vi a2), some (vi (-1)), none, none, none]) rfl (Nat.le_of_ble_eq_true rfl) rfl dX1_worthiest_1 rfl ?_
  refine Rk.sp (G_iconst (pc := 2) dX1_worthiest_2) ?_
  refine Rk.isa_w (pc := 3) 4 (L' := [some (vr 166), some (vr a1), some (vi a2), some (vi (-1)), some (vi (-1)), none, none]) (Nat.le_of_ble_eq_true rfl) rfl dX1_worthiest_3 rfl ?_
  refine Rk.sp (G_iconst (pc := 5) dX1_worthiest_5) ?_
  refine Rk.isa_w (pc := 6) 5 (L' := [some (vr 166), some (vr a1), some (vi a2), some (vi (-1)), some (vi (-1)), some (vi 0), none]) (Nat.le_of_ble_eq_true rfl) rfl dX1_worthiest_6 rfl ?_
  refine Rk.fg [false, true, true, true, true, true, false] (L' := [none, some (vr a1), some (vi a2), some (vi (-1)), some (vi (-1)), some (vi 0), none]) rfl ?_
  refine Rk.loop (pc := 8) (B := (fun p => Gl_worthiest_8_b σ a1 a2 p.1 p.2.1 p.2.2)) (fun p => inR p.1 ∧ inR p.2.1 ∧ inR p.2.2) (fun p => [none, some (vr a1), some (vi a2), some (vi p.1), some (vi p.2.1), some (vi p.2.2), none]) (fun p => (ms false μ σ)) (fun p hp => ?_) ((-1), (-1), 0) ⟨(inRk (-1) rfl), (inRk (-1) rfl), (inRk 0 rfl)⟩
  obtain ⟨v3_1, v4_2, v5_3⟩ := p
  obtain ⟨hv3_1, hv4_2, hv5_3⟩ := hp
  try dsimp only
  unfold Gl_worthiest_8_b
  refine Rk.sp (G_iload_w (pc := 8) 5 rfl dX1_worthiest_8) ?_
  refine Rk.sp (G_aload_n (pc := 10) 1 rfl rfl dX1_worthiest_10) ?_
  refine Rk.gI (pc := 11) flX1_26 cl6 rfl ha1 dX1_worthiest_11 ?_
  refine Rk.icmp_ge (pc := 14) (tgt := 67) dX1_worthiest_14 (nmI hv5_3) (nmI (hok _ _)) rfl (fun hc4 => ?_) (fun hc4 => ?_)
  · refine Rk.sp (G_aload_n (pc := 17) 1 rfl rfl dX1_worthiest_17) ?_
    refine Rk.gR (pc := 18) (a1 + 7) flX1_30 cl6 rfl ha1 dX1_worthiest_18 ?_
    refine Rk.sp (G_iload_w (pc := 21) 5 rfl dX1_worthiest_21) ?_
    refine Rk.al (pc := 23) (LBt ha1 7 (by decide)) dX1_worthiest_23 (fun hi5 => ?_)
    refine Rk.sp (G_bipush (pc := 24) dX1_worthiest_24 rfl) ?_
    refine Rk.sp (G_aload_n (pc := 26) 1 rfl rfl dX1_worthiest_26) ?_
    refine Rk.gR (pc := 27) (a1 + 8) flX1_33 cl6 rfl ha1 dX1_worthiest_27 ?_
    refine Rk.sp (G_iload_w (pc := 30) 5 rfl dX1_worthiest_30) ?_
    refine Rk.al (pc := 32) (LBt ha1 8 (by decide)) dX1_worthiest_32 (fun hi6 => ?_)
    refine Rk.sp (G_imul (pc := 33) dX1_worthiest_33) ?_
    refine Rk.sp (G_iadd (pc := 34) dX1_worthiest_34) ?_
    refine Rk.ist_w (pc := 35) 6 (fun v6_7 => [none, some (vr a1), some (vi a2), some (vi v3_1), some (vi v4_2), some (vi v5_3), some (vi v6_7)]) (Nat.le_of_ble_eq_true rfl) rfl dX1_worthiest_35 (nmW _) (fun _ => rfl) (fun v6_7 hv6_7 => ?_)
    refine Rk.sp (G_iload_w (pc := 37) 6 rfl dX1_worthiest_37) ?_
    refine Rk.sp (G_iload_w (pc := 39) 4 rfl dX1_worthiest_39) ?_
    refine Rk.icmp_lt (pc := 41) (tgt := 61) dX1_worthiest_41 (nmI hv6_7) (nmI hv4_2) rfl (fun hc8 => ?_) (fun hc8 => ?_)
    · refine Rk.inc (pc := 61) 5 (fun v5_9 => [none, some (vr a1), some (vi a2), some (vi v3_1), some (vi v4_2), some (vi v5_9), some (vi v6_7)]) rfl (Nat.le_of_ble_eq_true rfl) rfl dX1_worthiest_61 (fun _ => rfl) (fun v5_9 hv5_9 => ?_)
      refine Rk.sp (G_goto (pc := 64) (tgt := 8) dX1_worthiest_64 rfl) ?_
      refine Rk.fg [false, true, true, true, true, true, false] (L' := [none, some (vr a1), some (vi a2), some (vi v3_1), some (vi v4_2), some (vi v5_9), none]) rfl ?_
      exact Rk.end_ (fun h => h ⟨hv3_1, hv4_2, hv5_9⟩)
    · refine Rk.sp (G_aload_n (pc := 44) 1 rfl rfl dX1_worthiest_44) ?_
      refine Rk.sp (G_iload_n (pc := 45) 2 rfl rfl dX1_worthiest_45) ?_
      refine Rk.sp (G_iload_w (pc := 46) 5 rfl dX1_worthiest_46) ?_
      refine Rk.cRZ (pc := 48) (Cl.v [vi a2, vi v5_3] [] dX1_worthiest_48 ckX1_36 ha1 rfl rfl rfl (Nat.le_of_ble_eq_true rfl) (Nat.le_of_ble_eq_true rfl)) (k_Ta_waitsFor a1 a2 v5_3 σ ha1 ha2 hv5_3 hok) (fun r10 hr10 => ?_)
      refine Rk.if_eq (pc := 51) (tgt := 61) dX1_worthiest_51 (nmI (inZ.R hr10)) rfl (fun hc11 => ?_) (fun hc11 => ?_)
      · refine Rk.inc (pc := 61) 5 (fun v5_12 => [none, some (vr a1), some (vi a2), some (vi v3_1), some (vi v4_2), some (vi v5_12), some (vi v6_7)]) rfl (Nat.le_of_ble_eq_true rfl) rfl dX1_worthiest_61 (fun _ => rfl) (fun v5_12 hv5_12 => ?_)
        refine Rk.sp (G_goto (pc := 64) (tgt := 8) dX1_worthiest_64 rfl) ?_
        refine Rk.fg [false, true, true, true, true, true, false] (L' := [none, some (vr a1), some (vi a2), some (vi v3_1), some (vi v4_2), some (vi v5_12), none]) rfl ?_
        exact Rk.end_ (fun h => h ⟨hv3_1, hv4_2, hv5_12⟩)
      · refine Rk.sp (G_iload_w (pc := 54) 6 rfl dX1_worthiest_54) ?_
        refine Rk.isa_w (pc := 56) 4 (L' := [none, some (vr a1), some (vi a2), some (vi v3_1), some (vi v6_7), some (vi v5_3), some (vi v6_7)]) (Nat.le_of_ble_eq_true rfl) rfl dX1_worthiest_56 rfl ?_
        refine Rk.sp (G_iload_w (pc := 58) 5 rfl dX1_worthiest_58) ?_
        refine Rk.isa_n (pc := 60) 3 (L' := [none, some (vr a1), some (vi a2), some (vi v5_3), some (vi v6_7), some (vi v5_3), some (vi v6_7)]) rfl (Nat.le_of_ble_eq_true rfl) rfl dX1_worthiest_60 rfl ?_
        refine Rk.inc (pc := 61) 5 (fun v5_13 => [none, some (vr a1), some (vi a2), some (vi v5_3), some (vi v6_7), some (vi v5_13), some (vi v6_7)]) rfl (Nat.le_of_ble_eq_true rfl) rfl dX1_worthiest_61 (fun _ => rfl) (fun v5_13 hv5_13 => ?_)
        refine Rk.sp (G_goto (pc := 64) (tgt := 8) dX1_worthiest_64 rfl) ?_
        refine Rk.fg [false, true, true, true, true, true, false] (L' := [none, some (vr a1), some (vi a2), some (vi v5_3), some (vi v6_7), some (vi v5_13), none]) rfl ?_
        exact Rk.end_ (fun h => h ⟨hv5_3, hv6_7, hv5_13⟩)
  · refine Rk.sp (G_iload_n (pc := 67) 3 rfl rfl dX1_worthiest_67) ?_
    exact Rk.end_ (fun h => G_ireturn (pc := 68) rfl dX1_worthiest_68 (q_RI h hv3_1))
theorem k_Td_which {κ : Kx} {μ : Sg} (a1 : Int) (σ : Sg) (ha1 : inR a1) (hok : okS σ) : CtRI κ mX8_which 2 [vr 0, vi a1] false μ σ (Td_which a1 σ) := by
  intro r h
  refine con_of (by decide) (Nat.le_of_ble_eq_true rfl) 0 ?_
  refine (?_ : Rk κ mX8_which _ 0 [some (vr 0), some (vi a1)] [] (ms false μ σ) (Td_which a1 σ) (fun a => a = r)) _ h rfl
  unfold Td_which
  refine Rk.sp (G_iload_n (pc := 0) 1 rfl rfl dX8_which_0) ?_
  refine Rk.cRZ (pc := 1) (Cl.s [vi a1] [] dX8_which_1 ckX8_85 rfl rfl (Nat.le_of_ble_eq_true rfl) (Nat.le_of_ble_eq_true rfl)) (k_Td_isOne a1 ha1) (fun r1 hr1 => ?_)
  refine Rk.if_eq (pc := 4) (tgt := 25) dX8_which_4 (nmI (inZ.R hr1)) rfl (fun hc2 => ?_) (fun hc2 => ?_)
  · refine Rk.sp (G_iconst (pc := 25) dX8_which_25) ?_
    exact Rk.end_ (fun h => G_ireturn (pc := 26) rfl dX8_which_26 (q_RI h (inRk (-1) rfl)))
  · refine Rk.sp (G_aload_n (pc := 7) 0 rfl rfl dX8_which_7) ?_
    refine Rk.gR (pc := 8) 166 flX8_59 cl8 rfl lb0 dX8_which_8 ?_
    refine Rk.sp (G_aload_n (pc := 11) 0 rfl rfl dX8_which_11) ?_
    refine Rk.gR (pc := 12) 1 flX8_12 cl8 rfl lb0 dX8_which_12 ?_
    refine Rk.gR (pc := 15) 2 flX8_71 cl7 rfl lb1 dX8_which_15 ?_
    refine Rk.sp (G_iload_n (pc := 18) 1 rfl rfl dX8_which_18) ?_
    refine Rk.cRI (pc := 19) (Cl.v [vr 2, vi a1] [] dX8_which_19 ckX8_269 lb166 rfl rfl rfl (Nat.le_of_ble_eq_true rfl) (Nat.le_of_ble_eq_true rfl)) (k_Gl_worthiest 2 a1 σ lb2 ha1 hok) (fun r3 hr3 => ?_)
    refine Rk.sp (G_goto (pc := 22) (tgt := 26) dX8_which_22 rfl) ?_
    exact Rk.end_ (fun h => G_ireturn (pc := 26) rfl dX8_which_26 (q_RI h hr3))
theorem k_Mo_number {κ : Kx} {μ : Sg} (a1 : Int) (a2 : Int) (a3 : Int) (σ : Sg) (ha1 : inR a1) (ha2 : inR a2) (ha3 : inR a3) (hok : okS σ) : CtZ κ mX9_number 9 [vr 172, vi a1, vi a2, vi a3] true μ σ (Mo_number a1 a2 a3 σ) := by
  intro r τ h
  refine con_of (by decide) (Nat.le_of_ble_eq_true rfl) 0 ?_
  refine (?_ : Rk κ mX9_number _ 0 [some (vr 172), some (vi a1), some (vi a2), some (vi a3)] [] (ms true μ σ) (Mo_number a1 a2 a3 σ) (fun a => a = (r, τ))) _ h rfl
  unfold Mo_number
  refine Rk.sp (G_aload_n (pc := 0) 0 rfl rfl dX9_number_0) ?_
  refine Rk.gI (pc := 1) flX9_193 cl9 rfl lb172 dX9_number_1 ?_
  refine Rk.sp (G_iconst (pc := 4) dX9_number_4) ?_
  refine Rk.icmp_eq (pc := 5) (tgt := 14) dX9_number_5 (nmI (hok _ _)) (nmI (inRk 2 rfl)) rfl (fun hc1 => ?_) (fun hc1 => ?_)
  · refine Rk.sp (G_aload_n (pc := 14) 0 rfl rfl dX9_number_14) ?_
    refine Rk.gI (pc := 15) flX9_205 cl9 rfl lb172 dX9_number_15 ?_
    refine Rk.sp (G_iload_n (pc := 18) 2 rfl rfl dX9_number_18) ?_
    refine Rk.sp (G_iload_n (pc := 19) 3 rfl rfl dX9_number_19) ?_
    refine Rk.cRZ (pc := 20) (Cl.s [vi (σ 172 20), vi a2, vi a3] [] dX9_number_20 ckX9_72 rfl rfl (Nat.le_of_ble_eq_true rfl) (Nat.le_of_ble_eq_true rfl)) (k_Mo_isIn (σ 172 20) a2 a3 (hok _ _) ha2 ha3) (fun r2 hr2 => ?_)
    refine Rk.if_ne (pc := 23) (tgt := 32) dX9_number_23 (nmI (inZ.R hr2)) rfl (fun hc3 => ?_) (fun hc3 => ?_)
    · refine Rk.sp (G_aload_n (pc := 26) 0 rfl rfl dX9_number_26) ?_
      refine Rk.sp (G_iconst (pc := 27) dX9_number_27) ?_
      refine Rk.cZ (pc := 28) (Cl.v [vi 2] [] dX9_number_28 ckX9_214 lb172 rfl rfl rfl (Nat.le_of_ble_eq_true rfl) (Nat.le_of_ble_eq_true rfl)) (k_Mo_bad 2 σ (inRk 2 rfl) hok) (fun r4 σ5 hr4 hσ5 => ?_)
      exact Rk.end_ (fun h => G_zreturn (pc := 31) rfl (nz hr4) dX9_number_31 (q_Z h hr4 hσ5))
    · refine Rk.sp (G_aload_n (pc := 32) 0 rfl rfl dX9_number_32) ?_
      refine Rk.gR (pc := 33) 179 flX9_28 cl9 rfl lb172 dX9_number_33 ?_
      refine Rk.sp (G_iload_n (pc := 36) 1 rfl rfl dX9_number_36) ?_
      refine Rk.sp (G_aload_n (pc := 37) 0 rfl rfl dX9_number_37) ?_
      refine Rk.gI (pc := 38) flX9_205 cl9 rfl lb172 dX9_number_38 ?_
      refine Rk.as (pc := 41) hok (nmI (hok _ _)) lb179 dX9_number_41 (fun hi7 σ6 hσ6 => ?_)
      refine Rk.sp (G_aload_n (pc := 42) 0 rfl rfl dX9_number_42) ?_
      refine Rk.cV (pc := 43) (Cl.v [] [] dX9_number_43 ckX9_217 lb172 rfl rfl rfl (Nat.le_of_ble_eq_true rfl) (Nat.le_of_ble_eq_true rfl)) (k_Mo_next0 σ6 hσ6) (fun σ8 hσ8 => ?_)
      refine Rk.sp (G_iconst (pc := 46) dX9_number_46) ?_
      exact Rk.end_ (fun h => G_zreturn (pc := 47) rfl (nz inZ1) dX9_number_47 (q_Z h inZ1 hσ8))
  · refine Rk.sp (G_aload_n (pc := 8) 0 rfl rfl dX9_number_8) ?_
    refine Rk.sp (G_iconst (pc := 9) dX9_number_9) ?_
    refine Rk.cZ (pc := 10) (Cl.v [vi 1] [] dX9_number_10 ckX9_214 lb172 rfl rfl rfl (Nat.le_of_ble_eq_true rfl) (Nat.le_of_ble_eq_true rfl)) (k_Mo_bad 1 σ (inRk 1 rfl) hok) (fun r9 σ10 hr9 hσ10 => ?_)
    exact Rk.end_ (fun h => G_zreturn (pc := 13) rfl (nz hr9) dX9_number_13 (q_Z h hr9 hσ10))
theorem k_Mo_told {κ : Kx} {μ : Sg} (a1 : Int) (a2 : Int) (a3 : Int) (a4 : Int) (σ : Sg) (ha1 : inR a1) (ha2 : inR a2) (ha3 : inR a3) (ha4 : inR a4) (hok : okS σ) : CtZ κ mX9_told 10 [vr 172, vi a1, vi a2, vi a3, vi a4] true μ σ (Mo_told a1 a2 a3 a4 σ) := by
  intro r τ h
  refine con_of (by decide) (Nat.le_of_ble_eq_true rfl) 0 ?_
  refine (?_ : Rk κ mX9_told _ 0 [some (vr 172), some (vi a1), some (vi a2), some (vi a3), some (vi a4)] [] (ms true μ σ) (Mo_told a1 a2 a3 a4 σ) (fun a => a = (r, τ))) _ h rfl
  unfold Mo_told
  refine Rk.sp (G_aload_n (pc := 0) 0 rfl rfl dX9_told_0) ?_
  refine Rk.sp (G_iload_n (pc := 1) 2 rfl rfl dX9_told_1) ?_
  refine Rk.cZ (pc := 2) (Cl.v [vi a2] [] dX9_told_2 ckX9_249 lb172 rfl rfl rfl (Nat.le_of_ble_eq_true rfl) (Nat.le_of_ble_eq_true rfl)) (k_Mo_need a2 σ ha2 hok) (fun r1 σ2 hr1 hσ2 => ?_)
  refine Rk.if_eq (pc := 5) (tgt := 23) dX9_told_5 (nmI (inZ.R hr1)) rfl (fun hc3 => ?_) (fun hc3 => ?_)
  · refine Rk.sp (G_iconst (pc := 23) dX9_told_23) ?_
    exact Rk.end_ (fun h => G_zreturn (pc := 24) rfl (nz inZ0) dX9_told_24 (q_Z h inZ0 hσ2))
  · refine Rk.sp (G_aload_n (pc := 8) 0 rfl rfl dX9_told_8) ?_
    refine Rk.sp (G_iload_n (pc := 9) 1 rfl rfl dX9_told_9) ?_
    refine Rk.sp (G_iload_n (pc := 10) 3 rfl rfl dX9_told_10) ?_
    refine Rk.sp (G_iload_w (pc := 11) 4 rfl dX9_told_11) ?_
    refine Rk.cZ (pc := 13) (Cl.v [vi a1, vi a3, vi a4] [] dX9_told_13 ckX9_261 lb172 rfl rfl rfl (Nat.le_of_ble_eq_true rfl) (Nat.le_of_ble_eq_true rfl)) (k_Mo_number a1 a3 a4 σ2 ha1 ha3 ha4 hσ2) (fun r4 σ5 hr4 hσ5 => ?_)
    refine Rk.if_eq (pc := 16) (tgt := 23) dX9_told_16 (nmI (inZ.R hr4)) rfl (fun hc6 => ?_) (fun hc6 => ?_)
    · refine Rk.sp (G_iconst (pc := 23) dX9_told_23) ?_
      exact Rk.end_ (fun h => G_zreturn (pc := 24) rfl (nz inZ0) dX9_told_24 (q_Z h inZ0 hσ5))
    · refine Rk.sp (G_iconst (pc := 19) dX9_told_19) ?_
      refine Rk.sp (G_goto (pc := 20) (tgt := 24) dX9_told_20 rfl) ?_
      exact Rk.end_ (fun h => G_zreturn (pc := 24) rfl (nz inZ1) dX9_told_24 (q_Z h inZ1 hσ5))
theorem k_Mo_aHabit {κ : Kx} {μ : Sg} (σ : Sg) (hok : okS σ) : CtZ κ mX9_aHabit 11 [vr 172] true μ σ (Mo_aHabit σ) := by
  intro r τ h
  refine con_of (by decide) (Nat.le_of_ble_eq_true rfl) 0 ?_
  refine (?_ : Rk κ mX9_aHabit _ 0 [some (vr 172)] [] (ms true μ σ) (Mo_aHabit σ) (fun a => a = (r, τ))) _ h rfl
  unfold Mo_aHabit
  refine Rk.sp (G_aload_n (pc := 0) 0 rfl rfl dX9_aHabit_0) ?_
  refine Rk.sp (G_bipush (pc := 1) dX9_aHabit_1 rfl) ?_
  refine Rk.cZ (pc := 3) (Cl.v [vi 15] [] dX9_aHabit_3 ckX9_249 lb172 rfl rfl rfl (Nat.le_of_ble_eq_true rfl) (Nat.le_of_ble_eq_true rfl)) (k_Mo_need 15 σ (inRk 15 rfl) hok) (fun r1 σ2 hr1 hσ2 => ?_)
  refine Rk.if_eq (pc := 6) (tgt := 53) dX9_aHabit_6 (nmI (inZ.R hr1)) rfl (fun hc3 => ?_) (fun hc3 => ?_)
  · refine Rk.sp (G_iconst (pc := 53) dX9_aHabit_53) ?_
    exact Rk.end_ (fun h => G_zreturn (pc := 54) rfl (nz inZ0) dX9_aHabit_54 (q_Z h inZ0 hσ2))
  · refine Rk.sp (G_aload_n (pc := 9) 0 rfl rfl dX9_aHabit_9) ?_
    refine Rk.sp (G_iconst (pc := 10) dX9_aHabit_10) ?_
    refine Rk.sp (G_aload_n (pc := 11) 0 rfl rfl dX9_aHabit_11) ?_
    refine Rk.gI (pc := 12) flX9_264 cl9 rfl lb172 dX9_aHabit_12 ?_
    refine Rk.sp (G_imul (pc := 15) dX9_aHabit_15) ?_
    refine Rk.sp (G_bipush (pc := 16) dX9_aHabit_16 rfl) ?_
    refine Rk.sp (G_iconst (pc := 18) dX9_aHabit_18) ?_
    refine Rk.sp (G_sipush (pc := 19) dX9_aHabit_19 rfl) ?_
    refine Rk.sp (Go.n3 (nmW _)) ?_
    refine Rk.cZ (pc := 22) (Cl.v [vi (wr (2 * (σ2 172 15))), vi 16, vi 1, vi 999] [] dX9_aHabit_22 ckX9_267 lb172 rfl rfl rfl (Nat.le_of_ble_eq_true rfl) (Nat.le_of_ble_eq_true rfl)) (k_Mo_told (wr (2 * (σ2 172 15))) 16 1 999 σ2 (wrR _) (inRk 16 rfl) (inRk 1 rfl) (inRk 999 rfl) hσ2) (fun r4 σ5 hr4 hσ5 => ?_)
    refine Rk.if_eq (pc := 25) (tgt := 53) dX9_aHabit_25 (nmI (inZ.R hr4)) rfl (fun hc6 => ?_) (fun hc6 => ?_)
    · refine Rk.sp (G_iconst (pc := 53) dX9_aHabit_53) ?_
      exact Rk.end_ (fun h => G_zreturn (pc := 54) rfl (nz inZ0) dX9_aHabit_54 (q_Z h inZ0 hσ5))
    · refine Rk.sp (G_aload_n (pc := 28) 0 rfl rfl dX9_aHabit_28) ?_
      refine Rk.sp (G_iconst (pc := 29) dX9_aHabit_29) ?_
      refine Rk.sp (G_aload_n (pc := 30) 0 rfl rfl dX9_aHabit_30) ?_
      refine Rk.gI (pc := 31) flX9_264 cl9 rfl lb172 dX9_aHabit_31 ?_
      refine Rk.sp (G_imul (pc := 34) dX9_aHabit_34) ?_
      refine Rk.sp (G_iconst (pc := 35) dX9_aHabit_35) ?_
      refine Rk.sp (G_iadd (pc := 36) dX9_aHabit_36) ?_
      refine Rk.sp (G_bipush (pc := 37) dX9_aHabit_37 rfl) ?_
      refine Rk.sp (G_iconst (pc := 39) dX9_aHabit_39) ?_
      refine Rk.sp (G_sipush (pc := 40) dX9_aHabit_40 rfl) ?_
      refine Rk.sp (Go.n3 (nmW _)) ?_
      refine Rk.cZ (pc := 43) (Cl.v [vi (wr ((2 * (σ5 172 15)) + 1)), vi 17, vi 1, vi 999] [] dX9_aHabit_43 ckX9_267 lb172 rfl rfl rfl (Nat.le_of_ble_eq_true rfl) (Nat.le_of_ble_eq_true rfl)) (k_Mo_told (wr ((2 * (σ5 172 15)) + 1)) 17 1 999 σ5 (wrR _) (inRk 17 rfl) (inRk 1 rfl) (inRk 999 rfl) hσ5) (fun r7 σ8 hr7 hσ8 => ?_)
      refine Rk.if_eq (pc := 46) (tgt := 53) dX9_aHabit_46 (nmI (inZ.R hr7)) rfl (fun hc9 => ?_) (fun hc9 => ?_)
      · refine Rk.sp (G_iconst (pc := 53) dX9_aHabit_53) ?_
        exact Rk.end_ (fun h => G_zreturn (pc := 54) rfl (nz inZ0) dX9_aHabit_54 (q_Z h inZ0 hσ8))
      · refine Rk.sp (G_iconst (pc := 49) dX9_aHabit_49) ?_
        refine Rk.sp (G_goto (pc := 50) (tgt := 54) dX9_aHabit_50 rfl) ?_
        exact Rk.end_ (fun h => G_zreturn (pc := 54) rfl (nz inZ1) dX9_aHabit_54 (q_Z h inZ1 hσ8))
theorem k_Mo_aLine {κ : Kx} {μ : Sg} (σ : Sg) (hok : okS σ) : CtZ κ mX9_aLine 45 [vr 172] true μ σ (Mo_aLine σ) := by
  intro r τ h
  refine con_of (by decide) (Nat.le_of_ble_eq_true rfl) 0 ?_
  refine (?_ : Rk κ mX9_aLine _ 0 [some (vr 172)] [] (ms true μ σ) (Mo_aLine σ) (fun a => a = (r, τ))) _ h rfl
  unfold Mo_aLine
  refine Rk.sp (G_aload_n (pc := 0) 0 rfl rfl dX9_aLine_0) ?_
  refine Rk.gI (pc := 1) flX9_193 cl9 rfl lb172 dX9_aLine_1 ?_
  refine Rk.sp (G_bipush (pc := 4) dX9_aLine_4 rfl) ?_
  refine Rk.sp (G_bipush (pc := 6) dX9_aLine_6 rfl) ?_
  refine Rk.cRZ (pc := 8) (Cl.s [vi (σ 172 18), vi 20, vi 24] [] dX9_aLine_8 ckX9_72 rfl rfl (Nat.le_of_ble_eq_true rfl) (Nat.le_of_ble_eq_true rfl)) (k_Mo_isIn (σ 172 18) 20 24 (hok _ _) (inRk 20 rfl) (inRk 24 rfl)) (fun r1 hr1 => ?_)
  refine Rk.if_ne (pc := 11) (tgt := 20) dX9_aLine_11 (nmI (inZ.R hr1)) rfl (fun hc2 => ?_) (fun hc2 => ?_)
  · refine Rk.sp (G_aload_n (pc := 14) 0 rfl rfl dX9_aLine_14) ?_
    refine Rk.sp (G_iconst (pc := 15) dX9_aLine_15) ?_
    refine Rk.cZ (pc := 16) (Cl.v [vi 1] [] dX9_aLine_16 ckX9_214 lb172 rfl rfl rfl (Nat.le_of_ble_eq_true rfl) (Nat.le_of_ble_eq_true rfl)) (k_Mo_bad 1 σ (inRk 1 rfl) hok) (fun r3 σ4 hr3 hσ4 => ?_)
    exact Rk.end_ (fun h => G_zreturn (pc := 19) rfl (nz hr3) dX9_aLine_19 (q_Z h hr3 hσ4))
  · refine Rk.sp (G_aload_n (pc := 20) 0 rfl rfl dX9_aLine_20) ?_
    refine Rk.gI (pc := 21) flX9_255 cl9 rfl lb172 dX9_aLine_21 ?_
    refine Rk.sp (G_bipush (pc := 24) dX9_aLine_24 rfl) ?_
    refine Rk.icmp_ne (pc := 26) (tgt := 35) dX9_aLine_26 (nmI (hok _ _)) (nmI (inRk 16 rfl)) rfl (fun hc5 => ?_) (fun hc5 => ?_)
    · refine Rk.sp (G_aload_n (pc := 29) 0 rfl rfl dX9_aLine_29) ?_
      refine Rk.sp (G_iconst (pc := 30) dX9_aLine_30) ?_
      refine Rk.cZ (pc := 31) (Cl.v [vi 3] [] dX9_aLine_31 ckX9_214 lb172 rfl rfl rfl (Nat.le_of_ble_eq_true rfl) (Nat.le_of_ble_eq_true rfl)) (k_Mo_bad 3 σ (inRk 3 rfl) hok) (fun r6 σ7 hr6 hσ7 => ?_)
      exact Rk.end_ (fun h => G_zreturn (pc := 34) rfl (nz hr6) dX9_aLine_34 (q_Z h hr6 hσ7))
    · refine Rk.sp (G_aload_n (pc := 35) 0 rfl rfl dX9_aLine_35) ?_
      refine Rk.sp (G_iconst (pc := 36) dX9_aLine_36) ?_
      refine Rk.pI (pc := 37) hok (nmI (inRk 0 rfl)) flX9_223 cl9 rfl rfl lb172 dX9_aLine_37 (fun σ8 hσ8 => ?_)
      refine Rk.sp (G_aload_n (pc := 40) 0 rfl rfl dX9_aLine_40) ?_
      refine Rk.gR (pc := 41) 177 flX9_22 cl9 rfl lb172 dX9_aLine_41 ?_
      refine Rk.sp (G_iconst (pc := 44) dX9_aLine_44) ?_
      refine Rk.sp (G_aload_n (pc := 45) 0 rfl rfl dX9_aLine_45) ?_
      refine Rk.gI (pc := 46) flX9_255 cl9 rfl lb172 dX9_aLine_46 ?_
      refine Rk.sp (G_imul (pc := 49) dX9_aLine_49) ?_
      refine Rk.sp (G_iconst (pc := 50) dX9_aLine_50) ?_
      refine Rk.sp (G_iadd (pc := 51) dX9_aLine_51) ?_
      refine Rk.sp (G_aload_n (pc := 52) 0 rfl rfl dX9_aLine_52) ?_
      refine Rk.gI (pc := 53) flX9_193 cl9 rfl lb172 dX9_aLine_53 ?_
      refine Rk.as (pc := 56) hσ8 (nmI (hσ8 _ _)) lb177 dX9_aLine_56 (fun hi10 σ9 hσ9 => ?_)
      refine Rk.sp (G_aload_n (pc := 57) 0 rfl rfl dX9_aLine_57) ?_
      refine Rk.cV (pc := 58) (Cl.v [] [] dX9_aLine_58 ckX9_217 lb172 rfl rfl rfl (Nat.le_of_ble_eq_true rfl) (Nat.le_of_ble_eq_true rfl)) (k_Mo_next0 σ9 hσ9) (fun σ11 hσ11 => ?_)
      refine Rk.sp (G_aload_n (pc := 61) 0 rfl rfl dX9_aLine_61) ?_
      refine Rk.gR (pc := 62) 177 flX9_22 cl9 rfl lb172 dX9_aLine_62 ?_
      refine Rk.sp (G_iconst (pc := 65) dX9_aLine_65) ?_
      refine Rk.sp (G_aload_n (pc := 66) 0 rfl rfl dX9_aLine_66) ?_
      refine Rk.gI (pc := 67) flX9_255 cl9 rfl lb172 dX9_aLine_67 ?_
      refine Rk.sp (G_imul (pc := 70) dX9_aLine_70) ?_
      refine Rk.sp (G_aload_n (pc := 71) 0 rfl rfl dX9_aLine_71) ?_
      refine Rk.gI (pc := 72) flX9_220 cl9 rfl lb172 dX9_aLine_72 ?_
      refine Rk.as (pc := 75) hσ11 (nmI (hσ11 _ _)) lb177 dX9_aLine_75 (fun hi13 σ12 hσ12 => ?_)
      refine Rk.sp (G_aload_n (pc := 76) 0 rfl rfl dX9_aLine_76) ?_
      refine Rk.cZ (pc := 77) (Cl.v [] [] dX9_aLine_77 ckX9_252 lb172 rfl rfl rfl (Nat.le_of_ble_eq_true rfl) (Nat.le_of_ble_eq_true rfl)) (k_Mo_sumUp σ12 hσ12) (fun r14 σ15 hr14 hσ15 => ?_)
      refine Rk.if_ne (pc := 80) (tgt := 85) dX9_aLine_80 (nmI (inZ.R hr14)) rfl (fun hc16 => ?_) (fun hc16 => ?_)
      · refine Rk.sp (G_iconst (pc := 83) dX9_aLine_83) ?_
        exact Rk.end_ (fun h => G_zreturn (pc := 84) rfl (nz inZ0) dX9_aLine_84 (q_Z h inZ0 hσ15))
      · refine Rk.sp (G_aload_n (pc := 85) 0 rfl rfl dX9_aLine_85) ?_
        refine Rk.gR (pc := 86) 177 flX9_22 cl9 rfl lb172 dX9_aLine_86 ?_
        refine Rk.sp (G_iconst (pc := 89) dX9_aLine_89) ?_
        refine Rk.sp (G_aload_n (pc := 90) 0 rfl rfl dX9_aLine_90) ?_
        refine Rk.gI (pc := 91) flX9_255 cl9 rfl lb172 dX9_aLine_91 ?_
        refine Rk.sp (G_imul (pc := 94) dX9_aLine_94) ?_
        refine Rk.sp (G_iconst (pc := 95) dX9_aLine_95) ?_
        refine Rk.sp (G_iadd (pc := 96) dX9_aLine_96) ?_
        refine Rk.sp (G_aload_n (pc := 97) 0 rfl rfl dX9_aLine_97) ?_
        refine Rk.gI (pc := 98) flX9_220 cl9 rfl lb172 dX9_aLine_98 ?_
        refine Rk.as (pc := 101) hσ15 (nmI (hσ15 _ _)) lb177 dX9_aLine_101 (fun hi18 σ17 hσ17 => ?_)
        refine Rk.sp (G_aload_n (pc := 102) 0 rfl rfl dX9_aLine_102) ?_
        refine Rk.gI (pc := 103) flX9_193 cl9 rfl lb172 dX9_aLine_103 ?_
        refine Rk.sp (G_iconst (pc := 106) dX9_aLine_106) ?_
        refine Rk.icmp_ne (pc := 107) (tgt := 123) dX9_aLine_107 (nmI (hσ17 _ _)) (nmI (inRk 3 rfl)) rfl (fun hc19 => ?_) (fun hc19 => ?_)
        · refine Rk.sp (G_aload_n (pc := 110) 0 rfl rfl dX9_aLine_110) ?_
          refine Rk.cV (pc := 111) (Cl.v [] [] dX9_aLine_111 ckX9_217 lb172 rfl rfl rfl (Nat.le_of_ble_eq_true rfl) (Nat.le_of_ble_eq_true rfl)) (k_Mo_next0 σ17 hσ17) (fun σ20 hσ20 => ?_)
          refine Rk.sp (G_aload_n (pc := 114) 0 rfl rfl dX9_aLine_114) ?_
          refine Rk.cZ (pc := 115) (Cl.v [] [] dX9_aLine_115 ckX9_246 lb172 rfl rfl rfl (Nat.le_of_ble_eq_true rfl) (Nat.le_of_ble_eq_true rfl)) (k_Mo_any (Mo_oneTest 10) 42 (fun σ hσ => k_Mo_oneTest 10 σ hσ) (by decide) σ20 hσ20) (fun r21 σ22 hr21 hσ22 => ?_)
          refine Rk.if_ne (pc := 118) (tgt := 123) dX9_aLine_118 (nmI (inZ.R hr21)) rfl (fun hc23 => ?_) (fun hc23 => ?_)
          · refine Rk.sp (G_iconst (pc := 121) dX9_aLine_121) ?_
            exact Rk.end_ (fun h => G_zreturn (pc := 122) rfl (nz inZ0) dX9_aLine_122 (q_Z h inZ0 hσ22))
          · refine Rk.sp (G_aload_n (pc := 123) 0 rfl rfl dX9_aLine_123) ?_
            refine Rk.gR (pc := 124) 177 flX9_22 cl9 rfl lb172 dX9_aLine_124 ?_
            refine Rk.sp (G_iconst (pc := 127) dX9_aLine_127) ?_
            refine Rk.sp (G_aload_n (pc := 128) 0 rfl rfl dX9_aLine_128) ?_
            refine Rk.gI (pc := 129) flX9_255 cl9 rfl lb172 dX9_aLine_129 ?_
            refine Rk.sp (G_imul (pc := 132) dX9_aLine_132) ?_
            refine Rk.sp (G_iconst (pc := 133) dX9_aLine_133) ?_
            refine Rk.sp (G_iadd (pc := 134) dX9_aLine_134) ?_
            refine Rk.sp (G_aload_n (pc := 135) 0 rfl rfl dX9_aLine_135) ?_
            refine Rk.gI (pc := 136) flX9_220 cl9 rfl lb172 dX9_aLine_136 ?_
            refine Rk.as (pc := 139) hσ22 (nmI (hσ22 _ _)) lb177 dX9_aLine_139 (fun hi25 σ24 hσ24 => ?_)
            refine Rk.sp (G_aload_n (pc := 140) 0 rfl rfl dX9_aLine_140) ?_
            refine Rk.sp (G_sipush (pc := 141) dX9_aLine_141 rfl) ?_
            refine Rk.cZ (pc := 144) (Cl.v [vi 159] [] dX9_aLine_144 ckX9_249 lb172 rfl rfl rfl (Nat.le_of_ble_eq_true rfl) (Nat.le_of_ble_eq_true rfl)) (k_Mo_need 159 σ24 (inRk 159 rfl) hσ24) (fun r26 σ27 hr26 hσ27 => ?_)
            exact Rk.end_ (fun h => G_zreturn (pc := 147) rfl (nz hr26) dX9_aLine_147 (q_Z h hr26 hσ27))
        · refine Rk.sp (G_aload_n (pc := 123) 0 rfl rfl dX9_aLine_123) ?_
          refine Rk.gR (pc := 124) 177 flX9_22 cl9 rfl lb172 dX9_aLine_124 ?_
          refine Rk.sp (G_iconst (pc := 127) dX9_aLine_127) ?_
          refine Rk.sp (G_aload_n (pc := 128) 0 rfl rfl dX9_aLine_128) ?_
          refine Rk.gI (pc := 129) flX9_255 cl9 rfl lb172 dX9_aLine_129 ?_
          refine Rk.sp (G_imul (pc := 132) dX9_aLine_132) ?_
          refine Rk.sp (G_iconst (pc := 133) dX9_aLine_133) ?_
          refine Rk.sp (G_iadd (pc := 134) dX9_aLine_134) ?_
          refine Rk.sp (G_aload_n (pc := 135) 0 rfl rfl dX9_aLine_135) ?_
          refine Rk.gI (pc := 136) flX9_220 cl9 rfl lb172 dX9_aLine_136 ?_
          refine Rk.as (pc := 139) hσ17 (nmI (hσ17 _ _)) lb177 dX9_aLine_139 (fun hi29 σ28 hσ28 => ?_)
          refine Rk.sp (G_aload_n (pc := 140) 0 rfl rfl dX9_aLine_140) ?_
          refine Rk.sp (G_sipush (pc := 141) dX9_aLine_141 rfl) ?_
          refine Rk.cZ (pc := 144) (Cl.v [vi 159] [] dX9_aLine_144 ckX9_249 lb172 rfl rfl rfl (Nat.le_of_ble_eq_true rfl) (Nat.le_of_ble_eq_true rfl)) (k_Mo_need 159 σ28 (inRk 159 rfl) hσ28) (fun r30 σ31 hr30 hσ31 => ?_)
          exact Rk.end_ (fun h => G_zreturn (pc := 147) rfl (nz hr30) dX9_aLine_147 (q_Z h hr30 hσ31))
theorem k_Mo_of0 {κ : Kx} {μ : Sg} (a1 : Int) (a2 : Int) (σ : Sg) (ha1 : inR a1) (ha2 : inR a2) (hok : okS σ) : CtRI κ mX9_of0 0 [vr 172, vi a1, vi a2] true μ σ (Mo_of0 a1 a2 σ) := by
  intro r h
  refine con_of (by decide) (Nat.le_of_ble_eq_true rfl) 0 ?_
  refine (?_ : Rk κ mX9_of0 _ 0 [some (vr 172), some (vi a1), some (vi a2)] [] (ms true μ σ) (Mo_of0 a1 a2 σ) (fun a => a = r)) _ h rfl
  unfold Mo_of0
  refine Rk.sp (G_aload_n (pc := 0) 0 rfl rfl dX9_of0_0) ?_
  refine Rk.gR (pc := 1) 173 flX9_7 cl9 rfl lb172 dX9_of0_1 ?_
  refine Rk.sp (G_bipush (pc := 4) dX9_of0_4 rfl) ?_
  refine Rk.sp (G_bipush (pc := 6) dX9_of0_6 rfl) ?_
  refine Rk.sp (G_iload_n (pc := 8) 1 rfl rfl dX9_of0_8) ?_
  refine Rk.sp (G_imul (pc := 9) dX9_of0_9) ?_
  refine Rk.sp (G_iadd (pc := 10) dX9_of0_10) ?_
  refine Rk.sp (G_iload_n (pc := 11) 2 rfl rfl dX9_of0_11) ?_
  refine Rk.sp (G_iadd (pc := 12) dX9_of0_12) ?_
  refine Rk.al (pc := 13) lb173 dX9_of0_13 (fun hi1 => ?_)
  exact Rk.end_ (fun h => G_ireturn (pc := 14) rfl dX9_of0_14 (q_RI h (hok _ _)))
theorem k_Mo_isBack {κ : Kx} {μ : Sg} (a1 : Int) (σ : Sg) (ha1 : inR a1) (hok : okS σ) : CtRZ κ mX9_isBack 1 [vr 172, vi a1] true μ σ (Mo_isBack a1 σ) := by
  intro r h
  refine con_of (by decide) (Nat.le_of_ble_eq_true rfl) 0 ?_
  refine (?_ : Rk κ mX9_isBack _ 0 [some (vr 172), some (vi a1)] [] (ms true μ σ) (Mo_isBack a1 σ) (fun a => a = r)) _ h rfl
  unfold Mo_isBack
  refine Rk.sp (G_aload_n (pc := 0) 0 rfl rfl dX9_isBack_0) ?_
  refine Rk.sp (G_iload_n (pc := 1) 1 rfl rfl dX9_isBack_1) ?_
  refine Rk.sp (G_bipush (pc := 2) dX9_isBack_2 rfl) ?_
  refine Rk.cRI (pc := 4) (Cl.v [vi a1, vi 7] [] dX9_isBack_4 ckX9_76 lb172 rfl rfl rfl (Nat.le_of_ble_eq_true rfl) (Nat.le_of_ble_eq_true rfl)) (k_Mo_of0 a1 7 σ ha1 (inRk 7 rfl) hok) (fun r1 hr1 => ?_)
  refine Rk.sp (G_iconst (pc := 7) dX9_isBack_7) ?_
  refine Rk.icmp_ne (pc := 8) (tgt := 15) dX9_isBack_8 (nmI hr1) (nmI (inRk 1 rfl)) rfl (fun hc2 => ?_) (fun hc2 => ?_)
  · refine Rk.sp (G_iconst (pc := 11) dX9_isBack_11) ?_
    refine Rk.sp (G_goto (pc := 12) (tgt := 16) dX9_isBack_12 rfl) ?_
    exact Rk.end_ (fun h => G_zreturn (pc := 16) rfl (nz inZ1) dX9_isBack_16 (q_RZ h inZ1))
  · refine Rk.sp (G_iconst (pc := 15) dX9_isBack_15) ?_
    exact Rk.end_ (fun h => G_zreturn (pc := 16) rfl (nz inZ0) dX9_isBack_16 (q_RZ h inZ0))
theorem k_Mo_isUnread {κ : Kx} {μ : Sg} (a1 : Int) (σ : Sg) (ha1 : inR a1) (hok : okS σ) : CtRZ κ mX9_isUnread 2 [vr 172, vi a1] true μ σ (Mo_isUnread a1 σ) := by
  intro r h
  refine con_of (by decide) (Nat.le_of_ble_eq_true rfl) 0 ?_
  refine (?_ : Rk κ mX9_isUnread _ 0 [some (vr 172), some (vi a1)] [] (ms true μ σ) (Mo_isUnread a1 σ) (fun a => a = r)) _ h rfl
  unfold Mo_isUnread
  refine Rk.sp (G_aload_n (pc := 0) 0 rfl rfl dX9_isUnread_0) ?_
  refine Rk.sp (G_iload_n (pc := 1) 1 rfl rfl dX9_isUnread_1) ?_
  refine Rk.sp (G_iconst (pc := 2) dX9_isUnread_2) ?_
  refine Rk.cRI (pc := 3) (Cl.v [vi a1, vi 2] [] dX9_isUnread_3 ckX9_76 lb172 rfl rfl rfl (Nat.le_of_ble_eq_true rfl) (Nat.le_of_ble_eq_true rfl)) (k_Mo_of0 a1 2 σ ha1 (inRk 2 rfl) hok) (fun r1 hr1 => ?_)
  refine Rk.sp (G_iconst (pc := 6) dX9_isUnread_6) ?_
  refine Rk.icmp_ne (pc := 7) (tgt := 22) dX9_isUnread_7 (nmI hr1) (nmI (inRk (-1) rfl)) rfl (fun hc2 => ?_) (fun hc2 => ?_)
  · refine Rk.sp (G_aload_n (pc := 10) 0 rfl rfl dX9_isUnread_10) ?_
    refine Rk.sp (G_iload_n (pc := 11) 1 rfl rfl dX9_isUnread_11) ?_
    refine Rk.cRZ (pc := 12) (Cl.v [vi a1] [] dX9_isUnread_12 ckX9_79 lb172 rfl rfl rfl (Nat.le_of_ble_eq_true rfl) (Nat.le_of_ble_eq_true rfl)) (k_Mo_isBack a1 σ ha1 hok) (fun r3 hr3 => ?_)
    refine Rk.if_ne (pc := 15) (tgt := 22) dX9_isUnread_15 (nmI (inZ.R hr3)) rfl (fun hc4 => ?_) (fun hc4 => ?_)
    · refine Rk.sp (G_iconst (pc := 18) dX9_isUnread_18) ?_
      refine Rk.sp (G_goto (pc := 19) (tgt := 23) dX9_isUnread_19 rfl) ?_
      exact Rk.end_ (fun h => G_zreturn (pc := 23) rfl (nz inZ1) dX9_isUnread_23 (q_RZ h inZ1))
    · refine Rk.sp (G_iconst (pc := 22) dX9_isUnread_22) ?_
      exact Rk.end_ (fun h => G_zreturn (pc := 23) rfl (nz inZ0) dX9_isUnread_23 (q_RZ h inZ0))
  · refine Rk.sp (G_iconst (pc := 22) dX9_isUnread_22) ?_
    exact Rk.end_ (fun h => G_zreturn (pc := 23) rfl (nz inZ0) dX9_isUnread_23 (q_RZ h inZ0))
theorem k_Mo_puts0 {κ : Kx} {μ : Sg} (a1 : Int) (a2 : Int) (a3 : Int) (σ : Sg) (ha1 : inR a1) (ha2 : inR a2) (ha3 : inR a3) (hok : okS σ) : CtV κ mX9_puts0 0 [vr 172, vi a1, vi a2, vi a3] true μ σ (Mo_puts0 a1 a2 a3 σ) := by
  intro τ h
  refine con_of (by decide) (Nat.le_of_ble_eq_true rfl) 0 ?_
  refine (?_ : Rk κ mX9_puts0 _ 0 [some (vr 172), some (vi a1), some (vi a2), some (vi a3)] [] (ms true μ σ) (Mo_puts0 a1 a2 a3 σ) (fun a => a = τ)) _ h rfl
  unfold Mo_puts0
  refine Rk.sp (G_aload_n (pc := 0) 0 rfl rfl dX9_puts0_0) ?_
  refine Rk.gR (pc := 1) 173 flX9_7 cl9 rfl lb172 dX9_puts0_1 ?_
  refine Rk.sp (G_bipush (pc := 4) dX9_puts0_4 rfl) ?_
  refine Rk.sp (G_bipush (pc := 6) dX9_puts0_6 rfl) ?_
  refine Rk.sp (G_iload_n (pc := 8) 1 rfl rfl dX9_puts0_8) ?_
  refine Rk.sp (G_imul (pc := 9) dX9_puts0_9) ?_
  refine Rk.sp (G_iadd (pc := 10) dX9_puts0_10) ?_
  refine Rk.sp (G_iload_n (pc := 11) 2 rfl rfl dX9_puts0_11) ?_
  refine Rk.sp (G_iadd (pc := 12) dX9_puts0_12) ?_
  refine Rk.sp (G_iload_n (pc := 13) 3 rfl rfl dX9_puts0_13) ?_
  refine Rk.as (pc := 14) hok (nmI ha3) lb173 dX9_puts0_14 (fun hi2 σ1 hσ1 => ?_)
  exact Rk.end_ (fun h => G_return (pc := 15) rfl dX9_puts0_15 (q_V h hσ1))
theorem k_Mo_notes {κ : Kx} {μ : Sg} (a1 : Int) (a2 : Int) (a3 : Int) (σ : Sg) (ha1 : inR a1) (ha2 : inR a2) (ha3 : inR a3) (hok : okS σ) : CtV κ mX9_notes 0 [vr 172, vi a1, vi a2, vi a3] true μ σ (Mo_notes a1 a2 a3 σ) := by
  intro τ h
  refine con_of (by decide) (Nat.le_of_ble_eq_true rfl) 1 ?_
  refine (?_ : Rk κ mX9_notes _ 0 [some (vr 172), some (vi a1), some (vi a2), some (vi a3), none] [] (ms true μ σ) (Mo_notes a1 a2 a3 σ) (fun a => a = τ)) _ h rfl
  unfold Mo_notes
  refine Rk.sp (G_aload_n (pc := 0) 0 rfl rfl dX9_notes_0) ?_
  refine Rk.gI (pc := 1) flX9_330 cl9 rfl lb172 dX9_notes_1 ?_
  refine Rk.if_eq (pc := 4) (tgt := 19) dX9_notes_4 (nmI (hok _ _)) rfl (fun hc1 => ?_) (fun hc1 => ?_)
  · exact Rk.end_ (fun h => G_return (pc := 19) rfl dX9_notes_19 (q_V h hok))
  · refine Rk.sp (G_aload_n (pc := 7) 0 rfl rfl dX9_notes_7) ?_
    refine Rk.gR (pc := 8) 173 flX9_7 cl9 rfl lb172 dX9_notes_8 ?_
    refine Rk.sp (G_iconst (pc := 11) dX9_notes_11) ?_
    refine Rk.alc (pc := 12) 2 rfl (Nat.le_of_ble_eq_true rfl) lb173 dX9_notes_12 ?_
    refine Rk.sp (G_sipush (pc := 13) dX9_notes_13 rfl) ?_
    refine Rk.icmp_ne (pc := 16) (tgt := 20) dX9_notes_16 (nmI (hok _ _)) (nmI (inRk 150 rfl)) rfl (fun hc2 => ?_) (fun hc2 => ?_)
    · exact Rk.end_ (fun h => G_return (pc := 19) rfl dX9_notes_19 (q_V h hok))
    · refine Rk.sp (G_sipush (pc := 20) dX9_notes_20 rfl) ?_
      refine Rk.sp (G_iconst (pc := 23) dX9_notes_23) ?_
      refine Rk.sp (G_aload_n (pc := 24) 0 rfl rfl dX9_notes_24) ?_
      refine Rk.gR (pc := 25) 173 flX9_7 cl9 rfl lb172 dX9_notes_25 ?_
      refine Rk.sp (G_iconst (pc := 28) dX9_notes_28) ?_
      refine Rk.alc (pc := 29) 2 rfl (Nat.le_of_ble_eq_true rfl) lb173 dX9_notes_29 ?_
      refine Rk.sp (G_imul (pc := 30) dX9_notes_30) ?_
      refine Rk.sp (G_iadd (pc := 31) dX9_notes_31) ?_
      refine Rk.ist_w (pc := 32) 4 (fun v4_3 => [some (vr 172), some (vi a1), some (vi a2), some (vi a3), some (vi v4_3)]) (Nat.le_of_ble_eq_true rfl) rfl dX9_notes_32 (nmW _) (fun _ => rfl) (fun v4_3 hv4_3 => ?_)
      refine Rk.sp (G_aload_n (pc := 34) 0 rfl rfl dX9_notes_34) ?_
      refine Rk.gR (pc := 35) 173 flX9_7 cl9 rfl lb172 dX9_notes_35 ?_
      refine Rk.sp (G_iload_w (pc := 38) 4 rfl dX9_notes_38) ?_
      refine Rk.sp (G_aload_n (pc := 40) 0 rfl rfl dX9_notes_40) ?_
      refine Rk.gR (pc := 41) 173 flX9_7 cl9 rfl lb172 dX9_notes_41 ?_
      refine Rk.sp (G_iconst (pc := 44) dX9_notes_44) ?_
      refine Rk.alc (pc := 45) 0 rfl (Nat.le_of_ble_eq_true rfl) lb173 dX9_notes_45 ?_
      refine Rk.as (pc := 46) hok (nmI (hok _ _)) lb173 dX9_notes_46 (fun hi5 σ4 hσ4 => ?_)
      refine Rk.sp (G_aload_n (pc := 47) 0 rfl rfl dX9_notes_47) ?_
      refine Rk.gR (pc := 48) 173 flX9_7 cl9 rfl lb172 dX9_notes_48 ?_
      refine Rk.sp (G_iload_w (pc := 51) 4 rfl dX9_notes_51) ?_
      refine Rk.sp (G_iconst (pc := 53) dX9_notes_53) ?_
      refine Rk.sp (G_iadd (pc := 54) dX9_notes_54) ?_
      refine Rk.sp (G_iload_n (pc := 55) 1 rfl rfl dX9_notes_55) ?_
      refine Rk.as (pc := 56) hσ4 (nmI ha1) lb173 dX9_notes_56 (fun hi7 σ6 hσ6 => ?_)
      refine Rk.sp (G_aload_n (pc := 57) 0 rfl rfl dX9_notes_57) ?_
      refine Rk.gR (pc := 58) 173 flX9_7 cl9 rfl lb172 dX9_notes_58 ?_
      refine Rk.sp (G_iload_w (pc := 61) 4 rfl dX9_notes_61) ?_
      refine Rk.sp (G_iconst (pc := 63) dX9_notes_63) ?_
      refine Rk.sp (G_iadd (pc := 64) dX9_notes_64) ?_
      refine Rk.sp (G_iload_n (pc := 65) 2 rfl rfl dX9_notes_65) ?_
      refine Rk.as (pc := 66) hσ6 (nmI ha2) lb173 dX9_notes_66 (fun hi9 σ8 hσ8 => ?_)
      refine Rk.sp (G_aload_n (pc := 67) 0 rfl rfl dX9_notes_67) ?_
      refine Rk.gR (pc := 68) 173 flX9_7 cl9 rfl lb172 dX9_notes_68 ?_
      refine Rk.sp (G_iload_w (pc := 71) 4 rfl dX9_notes_71) ?_
      refine Rk.sp (G_iconst (pc := 73) dX9_notes_73) ?_
      refine Rk.sp (G_iadd (pc := 74) dX9_notes_74) ?_
      refine Rk.sp (G_iload_n (pc := 75) 3 rfl rfl dX9_notes_75) ?_
      refine Rk.as (pc := 76) hσ8 (nmI ha3) lb173 dX9_notes_76 (fun hi11 σ10 hσ10 => ?_)
      refine Rk.sp (G_aload_n (pc := 77) 0 rfl rfl dX9_notes_77) ?_
      refine Rk.gR (pc := 78) 173 flX9_7 cl9 rfl lb172 dX9_notes_78 ?_
      refine Rk.sp (G_iconst (pc := 81) dX9_notes_81) ?_
      refine Rk.sp (G_dup2 (pc := 82) dX9_notes_82 (fun _ h => by cases h) (fun _ h => by cases h)) ?_
      refine Rk.alc (pc := 83) 2 rfl (Nat.le_of_ble_eq_true rfl) lb173 dX9_notes_83 ?_
      refine Rk.sp (G_iconst (pc := 84) dX9_notes_84) ?_
      refine Rk.sp (G_iadd (pc := 85) dX9_notes_85) ?_
      refine Rk.asc (pc := 86) hσ10 (nmW _) 2 rfl (Nat.le_of_ble_eq_true rfl) lb173 dX9_notes_86 (fun σ12 hσ12 => ?_)
      exact Rk.end_ (fun h => G_return (pc := 87) rfl dX9_notes_87 (q_V h hσ12))
theorem k_Mo_takesBack {κ : Kx} {μ : Sg} (a1 : Int) (σ : Sg) (ha1 : inR a1) (hok : okS σ) : CtV κ mX9_takesBack 1 [vr 172, vi a1] true μ σ (Mo_takesBack a1 σ) := by
  intro τ h
  refine con_of (by decide) (Nat.le_of_ble_eq_true rfl) 0 ?_
  refine (?_ : Rk κ mX9_takesBack _ 0 [some (vr 172), some (vi a1)] [] (ms true μ σ) (Mo_takesBack a1 σ) (fun a => a = τ)) _ h rfl
  unfold Mo_takesBack
  refine Rk.sp (G_aload_n (pc := 0) 0 rfl rfl dX9_takesBack_0) ?_
  refine Rk.sp (G_iload_n (pc := 1) 1 rfl rfl dX9_takesBack_1) ?_
  refine Rk.sp (G_bipush (pc := 2) dX9_takesBack_2 rfl) ?_
  refine Rk.sp (G_iconst (pc := 4) dX9_takesBack_4) ?_
  refine Rk.cV (pc := 5) (Cl.v [vi a1, vi 7, vi 1] [] dX9_takesBack_5 ckX9_334 lb172 rfl rfl rfl (Nat.le_of_ble_eq_true rfl) (Nat.le_of_ble_eq_true rfl)) (k_Mo_puts0 a1 7 1 σ ha1 (inRk 7 rfl) (inRk 1 rfl) hok) (fun σ1 hσ1 => ?_)
  refine Rk.sp (G_aload_n (pc := 8) 0 rfl rfl dX9_takesBack_8) ?_
  refine Rk.sp (G_iconst (pc := 9) dX9_takesBack_9) ?_
  refine Rk.sp (G_aload_n (pc := 10) 0 rfl rfl dX9_takesBack_10) ?_
  refine Rk.sp (G_iload_n (pc := 11) 1 rfl rfl dX9_takesBack_11) ?_
  refine Rk.sp (G_iconst (pc := 12) dX9_takesBack_12) ?_
  refine Rk.cRI (pc := 13) (Cl.v [vi a1, vi 0] [vi 3, vr 172] dX9_takesBack_13 ckX9_76 lb172 rfl rfl rfl (Nat.le_of_ble_eq_true rfl) (Nat.le_of_ble_eq_true rfl)) (k_Mo_of0 a1 0 σ1 ha1 (inRk 0 rfl) hσ1) (fun r2 hr2 => ?_)
  refine Rk.sp (G_iload_n (pc := 16) 1 rfl rfl dX9_takesBack_16) ?_
  refine Rk.cV (pc := 17) (Cl.v [vi 3, vi r2, vi a1] [] dX9_takesBack_17 ckX9_342 lb172 rfl rfl rfl (Nat.le_of_ble_eq_true rfl) (Nat.le_of_ble_eq_true rfl)) (k_Mo_notes 3 r2 a1 σ1 (inRk 3 rfl) hr2 ha1 hσ1) (fun σ3 hσ3 => ?_)
  exact Rk.end_ (fun h => G_return (pc := 20) rfl dX9_takesBack_20 (q_V h hσ3))
theorem k_Mo_deletesLatest {κ : Kx} {μ : Sg} (a1 : Int) (σ : Sg) (ha1 : inR a1) (hok : okS σ) : CtV κ mX9_deletesLatest 3 [vr 172, vi a1] true μ σ (Mo_deletesLatest a1 σ) := by
  intro τ h
  refine con_of (by decide) (Nat.le_of_ble_eq_true rfl) 2 ?_
  refine (?_ : Rk κ mX9_deletesLatest _ 0 [some (vr 172), some (vi a1), none, none] [] (ms true μ σ) (Mo_deletesLatest a1 σ) (fun a => a = τ)) _ h rfl
  unfold Mo_deletesLatest
  refine Rk.sp (G_iconst (pc := 0) dX9_deletesLatest_0) ?_
  refine Rk.isa_n (pc := 1) 2 (L' := [some (vr 172), some (vi a1), some (vi (-1)), none]) rfl (Nat.le_of_ble_eq_true rfl) rfl dX9_deletesLatest_1 rfl ?_
  refine Rk.sp (G_iconst (pc := 2) dX9_deletesLatest_2) ?_
  refine Rk.isa_n (pc := 3) 3 (L' := [some (vr 172), some (vi a1), some (vi (-1)), some (vi 0)]) rfl (Nat.le_of_ble_eq_true rfl) rfl dX9_deletesLatest_3 rfl ?_
  refine Rk.loop (pc := 4) (B := (fun p => Mo_deletesLatest_4_b σ a1 p.1 p.2)) (fun p => inR p.1 ∧ inR p.2) (fun p => [some (vr 172), some (vi a1), some (vi p.1), some (vi p.2)]) (fun p => (ms true μ σ)) (fun p hp => ?_) ((-1), 0) ⟨(inRk (-1) rfl), (inRk 0 rfl)⟩
  obtain ⟨v2_1, v3_2⟩ := p
  obtain ⟨hv2_1, hv3_2⟩ := hp
  try dsimp only
  unfold Mo_deletesLatest_4_b
  refine Rk.sp (G_iload_n (pc := 4) 3 rfl rfl dX9_deletesLatest_4) ?_
  refine Rk.sp (G_aload_n (pc := 5) 0 rfl rfl dX9_deletesLatest_5) ?_
  refine Rk.gR (pc := 6) 173 flX9_7 cl9 rfl lb172 dX9_deletesLatest_6 ?_
  refine Rk.sp (G_iconst (pc := 9) dX9_deletesLatest_9) ?_
  refine Rk.alc (pc := 10) 3 rfl (Nat.le_of_ble_eq_true rfl) lb173 dX9_deletesLatest_10 ?_
  refine Rk.icmp_ge (pc := 11) (tgt := 40) dX9_deletesLatest_11 (nmI hv3_2) (nmI (hok _ _)) rfl (fun hc3 => ?_) (fun hc3 => ?_)
  · refine Rk.sp (G_aload_n (pc := 14) 0 rfl rfl dX9_deletesLatest_14) ?_
    refine Rk.sp (G_iload_n (pc := 15) 3 rfl rfl dX9_deletesLatest_15) ?_
    refine Rk.sp (G_iconst (pc := 16) dX9_deletesLatest_16) ?_
    refine Rk.cRI (pc := 17) (Cl.v [vi v3_2, vi 0] [] dX9_deletesLatest_17 ckX9_76 lb172 rfl rfl rfl (Nat.le_of_ble_eq_true rfl) (Nat.le_of_ble_eq_true rfl)) (k_Mo_of0 v3_2 0 σ hv3_2 (inRk 0 rfl) hok) (fun r4 hr4 => ?_)
    refine Rk.sp (G_iload_n (pc := 20) 1 rfl rfl dX9_deletesLatest_20) ?_
    refine Rk.icmp_ne (pc := 21) (tgt := 34) dX9_deletesLatest_21 (nmI hr4) (nmI ha1) rfl (fun hc5 => ?_) (fun hc5 => ?_)
    · refine Rk.sp (G_aload_n (pc := 24) 0 rfl rfl dX9_deletesLatest_24) ?_
      refine Rk.sp (G_iload_n (pc := 25) 3 rfl rfl dX9_deletesLatest_25) ?_
      refine Rk.cRZ (pc := 26) (Cl.v [vi v3_2] [] dX9_deletesLatest_26 ckX9_354 lb172 rfl rfl rfl (Nat.le_of_ble_eq_true rfl) (Nat.le_of_ble_eq_true rfl)) (k_Mo_isUnread v3_2 σ hv3_2 hok) (fun r6 hr6 => ?_)
      refine Rk.if_eq (pc := 29) (tgt := 34) dX9_deletesLatest_29 (nmI (inZ.R hr6)) rfl (fun hc7 => ?_) (fun hc7 => ?_)
      · refine Rk.inc (pc := 34) 3 (fun v3_8 => [some (vr 172), some (vi a1), some (vi v2_1), some (vi v3_8)]) rfl (Nat.le_of_ble_eq_true rfl) rfl dX9_deletesLatest_34 (fun _ => rfl) (fun v3_8 hv3_8 => ?_)
        refine Rk.sp (G_goto (pc := 37) (tgt := 4) dX9_deletesLatest_37 rfl) ?_
        exact Rk.end_ (fun h => h ⟨hv2_1, hv3_8⟩)
      · refine Rk.sp (G_iload_n (pc := 32) 3 rfl rfl dX9_deletesLatest_32) ?_
        refine Rk.isa_n (pc := 33) 2 (L' := [some (vr 172), some (vi a1), some (vi v3_2), some (vi v3_2)]) rfl (Nat.le_of_ble_eq_true rfl) rfl dX9_deletesLatest_33 rfl ?_
        refine Rk.inc (pc := 34) 3 (fun v3_9 => [some (vr 172), some (vi a1), some (vi v3_2), some (vi v3_9)]) rfl (Nat.le_of_ble_eq_true rfl) rfl dX9_deletesLatest_34 (fun _ => rfl) (fun v3_9 hv3_9 => ?_)
        refine Rk.sp (G_goto (pc := 37) (tgt := 4) dX9_deletesLatest_37 rfl) ?_
        exact Rk.end_ (fun h => h ⟨hv3_2, hv3_9⟩)
    · refine Rk.inc (pc := 34) 3 (fun v3_10 => [some (vr 172), some (vi a1), some (vi v2_1), some (vi v3_10)]) rfl (Nat.le_of_ble_eq_true rfl) rfl dX9_deletesLatest_34 (fun _ => rfl) (fun v3_10 hv3_10 => ?_)
      refine Rk.sp (G_goto (pc := 37) (tgt := 4) dX9_deletesLatest_37 rfl) ?_
      exact Rk.end_ (fun h => h ⟨hv2_1, hv3_10⟩)
  · refine Rk.sp (G_iload_n (pc := 40) 2 rfl rfl dX9_deletesLatest_40) ?_
    refine Rk.sp (G_iconst (pc := 41) dX9_deletesLatest_41) ?_
    refine Rk.icmp_eq (pc := 42) (tgt := 50) dX9_deletesLatest_42 (nmI hv2_1) (nmI (inRk (-1) rfl)) rfl (fun hc11 => ?_) (fun hc11 => ?_)
    · exact Rk.end_ (fun h => G_return (pc := 50) rfl dX9_deletesLatest_50 (q_V h hok))
    · refine Rk.sp (G_aload_n (pc := 45) 0 rfl rfl dX9_deletesLatest_45) ?_
      refine Rk.sp (G_iload_n (pc := 46) 2 rfl rfl dX9_deletesLatest_46) ?_
      refine Rk.cV (pc := 47) (Cl.v [vi v2_1] [] dX9_deletesLatest_47 ckX9_357 lb172 rfl rfl rfl (Nat.le_of_ble_eq_true rfl) (Nat.le_of_ble_eq_true rfl)) (k_Mo_takesBack v2_1 σ hv2_1 hok) (fun σ12 hσ12 => ?_)
      exact Rk.end_ (fun h => G_return (pc := 50) rfl dX9_deletesLatest_50 (q_V h hσ12))
