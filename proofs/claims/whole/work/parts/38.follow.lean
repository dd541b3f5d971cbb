theorem k_Mo_game {κ : Kx} {μ : Sg} (a1 : Int) (σ : Sg) (ha1 : inR a1) (hok : okS σ) : CtRI κ mX9_game 4 [vr 172, vi a1] true μ σ (Mo_game a1 σ) := by
  intro r h
  refine con_of (by decide) (Nat.le_of_ble_eq_true rfl) 4 ?_
  refine (?_ : Rk κ mX9_game _ 0 [some (vr 172), some (vi a1), none, none, none, none] [] (ms true μ σ) (Mo_game a1 σ) (fun a => a = r)) _ h rfl
  unfold Mo_game
  refine Rk.sp (G_iload_n (pc := 0) 1 rfl rfl dX9_game_0) ?_
  refine Rk.sp (G_iconst (pc := 1) dX9_game_1) ?_
  refine Rk.sp (G_iconst (pc := 2) dX9_game_2) ?_
  refine Rk.cRZ (pc := 3) (Cl.s [vi a1, vi 0, vi 1] [] dX9_game_3 ckX9_72 rfl rfl (Nat.le_of_ble_eq_true rfl) (Nat.le_of_ble_eq_true rfl)) (k_Mo_isIn a1 0 1 ha1 (inRk 0 rfl) (inRk 1 rfl)) (fun r1 hr1 => ?_)
  refine Rk.if_ne (pc := 6) (tgt := 11) dX9_game_6 (nmI (inZ.R hr1)) rfl (fun hc2 => ?_) (fun hc2 => ?_)
  · refine Rk.sp (G_iconst (pc := 9) dX9_game_9) ?_
    exact Rk.end_ (fun h => G_ireturn (pc := 10) rfl dX9_game_10 (q_RI h (inRk (-1) rfl)))
  · refine Rk.sp (G_iconst (pc := 11) dX9_game_11) ?_
    refine Rk.isa_n (pc := 12) 2 (L' := [some (vr 172), some (vi a1), some (vi 0), none, none, none]) rfl (Nat.le_of_ble_eq_true rfl) rfl dX9_game_12 rfl ?_
    refine Rk.sp (G_iconst (pc := 13) dX9_game_13) ?_
    refine Rk.isa_n (pc := 14) 3 (L' := [some (vr 172), some (vi a1), some (vi 0), some (vi 0), none, none]) rfl (Nat.le_of_ble_eq_true rfl) rfl dX9_game_14 rfl ?_
    refine Rk.loop (pc := 15) (B := (fun p => Mo_game_15_b σ a1 p.1 p.2)) (fun p => inR p.1 ∧ inR p.2) (fun p => [some (vr 172), some (vi a1), some (vi p.1), some (vi p.2), none, none]) (fun p => (ms true μ σ)) (fun p hp => ?_) (0, 0) ⟨(inRk 0 rfl), (inRk 0 rfl)⟩
    obtain ⟨v2_3, v3_4⟩ := p
    obtain ⟨hv2_3, hv3_4⟩ := hp
    try dsimp only
    unfold Mo_game_15_b
    refine Rk.sp (G_iload_n (pc := 15) 3 rfl rfl dX9_game_15) ?_
    refine Rk.sp (G_aload_n (pc := 16) 0 rfl rfl dX9_game_16) ?_
    refine Rk.gR (pc := 17) 173 flX9_7 cl9 rfl lb172 dX9_game_17 ?_
    refine Rk.sp (G_iconst (pc := 20) dX9_game_20) ?_
    refine Rk.alc (pc := 21) 3 rfl (Nat.le_of_ble_eq_true rfl) lb173 dX9_game_21 ?_
    refine Rk.icmp_ge (pc := 22) (tgt := 39) dX9_game_22 (nmI hv3_4) (nmI (hok _ _)) rfl (fun hc5 => ?_) (fun hc5 => ?_)
    · refine Rk.sp (G_iload_n (pc := 25) 2 rfl rfl dX9_game_25) ?_
      refine Rk.sp (G_aload_n (pc := 26) 0 rfl rfl dX9_game_26) ?_
      refine Rk.sp (G_iload_n (pc := 27) 3 rfl rfl dX9_game_27) ?_
      refine Rk.cRI (pc := 28) (Cl.v [vi v3_4] [vi v2_3] dX9_game_28 ckX9_457 lb172 rfl rfl rfl (Nat.le_of_ble_eq_true rfl) (Nat.le_of_ble_eq_true rfl)) (k_Mo_heapOf v3_4 σ hv3_4 hok) (fun r6 hr6 => ?_)
      refine Rk.sp (G_ixor (pc := 31) dX9_game_31) ?_
      refine Rk.ist_n (pc := 32) 2 (fun v2_7 => [some (vr 172), some (vi a1), some (vi v2_7), some (vi v3_4), none, none]) rfl (Nat.le_of_ble_eq_true rfl) rfl dX9_game_32 (nmI (bXor_R _ _)) (fun _ => rfl) (fun v2_7 hv2_7 => ?_)
      refine Rk.inc (pc := 33) 3 (fun v3_8 => [some (vr 172), some (vi a1), some (vi v2_7), some (vi v3_8), none, none]) rfl (Nat.le_of_ble_eq_true rfl) rfl dX9_game_33 (fun _ => rfl) (fun v3_8 hv3_8 => ?_)
      refine Rk.sp (G_goto (pc := 36) (tgt := 15) dX9_game_36 rfl) ?_
      exact Rk.end_ (fun h => h ⟨hv2_7, hv3_8⟩)
    · refine Rk.sp (G_iconst (pc := 39) dX9_game_39) ?_
      refine Rk.isa_n (pc := 40) 3 (L' := [some (vr 172), some (vi a1), some (vi v2_3), some (vi 0), none, none]) rfl (Nat.le_of_ble_eq_true rfl) rfl dX9_game_40 rfl ?_
      refine Rk.loop (pc := 41) (B := (fun p => Mo_game_41_b σ v2_3 a1 p)) (fun p => inR p) (fun p => [some (vr 172), some (vi a1), some (vi v2_3), some (vi p), none, none]) (fun p => (ms true μ σ)) (fun p hp => ?_) 0 (inRk 0 rfl)
      revert hp; revert p; intro v3_9 hv3_9
      try dsimp only
      unfold Mo_game_41_b
      refine Rk.sp (G_iload_n (pc := 41) 3 rfl rfl dX9_game_41) ?_
      refine Rk.sp (G_aload_n (pc := 42) 0 rfl rfl dX9_game_42) ?_
      refine Rk.gR (pc := 43) 173 flX9_7 cl9 rfl lb172 dX9_game_43 ?_
      refine Rk.sp (G_iconst (pc := 46) dX9_game_46) ?_
      refine Rk.alc (pc := 47) 3 rfl (Nat.le_of_ble_eq_true rfl) lb173 dX9_game_47 ?_
      refine Rk.icmp_ge (pc := 48) (tgt := 142) dX9_game_48 (nmI hv3_9) (nmI (hok _ _)) rfl (fun hc10 => ?_) (fun hc10 => ?_)
      · refine Rk.sp (G_iconst (pc := 51) dX9_game_51) ?_
        refine Rk.isa_w (pc := 52) 4 (L' := [some (vr 172), some (vi a1), some (vi v2_3), some (vi v3_9), some (vi 1), none]) (Nat.le_of_ble_eq_true rfl) rfl dX9_game_52 rfl ?_
        refine Rk.loop (pc := 54) (B := (fun p => Mo_game_54_b v3_9 σ v2_3 a1 p)) (fun p => inR p) (fun p => [some (vr 172), some (vi a1), some (vi v2_3), some (vi v3_9), some (vi p), none]) (fun p => (ms true μ σ)) (fun p hp => ?_) 1 (inRk 1 rfl)
        revert hp; revert p; intro v4_11 hv4_11
        try dsimp only
        unfold Mo_game_54_b
        refine Rk.sp (G_aload_n (pc := 54) 0 rfl rfl dX9_game_54) ?_
        refine Rk.sp (G_iload_n (pc := 55) 3 rfl rfl dX9_game_55) ?_
        refine Rk.cRZ (pc := 56) (Cl.v [vi v3_9] [] dX9_game_56 ckX9_354 lb172 rfl rfl rfl (Nat.le_of_ble_eq_true rfl) (Nat.le_of_ble_eq_true rfl)) (k_Mo_isUnread v3_9 σ hv3_9 hok) (fun r12 hr12 => ?_)
        refine Rk.if_eq (pc := 59) (tgt := 136) dX9_game_59 (nmI (inZ.R hr12)) rfl (fun hc13 => ?_) (fun hc13 => ?_)
        · refine Rk.inc (pc := 136) 3 (fun v3_14 => [some (vr 172), some (vi a1), some (vi v2_3), some (vi v3_14), some (vi v4_11), none]) rfl (Nat.le_of_ble_eq_true rfl) rfl dX9_game_136 (fun _ => rfl) (fun v3_14 hv3_14 => ?_)
          refine Rk.sp (G_goto (pc := 139) (tgt := 41) dX9_game_139 rfl) ?_
          refine Rk.fg [true, true, true, true, false, false] (L' := [some (vr 172), some (vi a1), some (vi v2_3), some (vi v3_14), none, none]) rfl ?_
          exact Rk.end_ (fun h => h hv3_14)
        · refine Rk.sp (G_iload_w (pc := 62) 4 rfl dX9_game_62) ?_
          refine Rk.sp (G_aload_n (pc := 64) 0 rfl rfl dX9_game_64) ?_
          refine Rk.sp (G_iload_n (pc := 65) 3 rfl rfl dX9_game_65) ?_
          refine Rk.sp (G_iconst (pc := 66) dX9_game_66) ?_
          refine Rk.cRI (pc := 67) (Cl.v [vi v3_9, vi 4] [vi v4_11] dX9_game_67 ckX9_76 lb172 rfl rfl rfl (Nat.le_of_ble_eq_true rfl) (Nat.le_of_ble_eq_true rfl)) (k_Mo_of0 v3_9 4 σ hv3_9 (inRk 4 rfl) hok) (fun r15 hr15 => ?_)
          refine Rk.sp (G_iconst (pc := 70) dX9_game_70) ?_
          refine Rk.sp (G_iadd (pc := 71) dX9_game_71) ?_
          refine Rk.icmp_gt (pc := 72) (tgt := 136) dX9_game_72 (nmI hv4_11) (nmW _) rfl (fun hc16 => ?_) (fun hc16 => ?_)
          · refine Rk.inc (pc := 136) 3 (fun v3_17 => [some (vr 172), some (vi a1), some (vi v2_3), some (vi v3_17), some (vi v4_11), none]) rfl (Nat.le_of_ble_eq_true rfl) rfl dX9_game_136 (fun _ => rfl) (fun v3_17 hv3_17 => ?_)
            refine Rk.sp (G_goto (pc := 139) (tgt := 41) dX9_game_139 rfl) ?_
            refine Rk.fg [true, true, true, true, false, false] (L' := [some (vr 172), some (vi a1), some (vi v2_3), some (vi v3_17), none, none]) rfl ?_
            exact Rk.end_ (fun h => h hv3_17)
          · refine Rk.sp (G_iload_w (pc := 75) 4 rfl dX9_game_75) ?_
            refine Rk.sp (G_aload_n (pc := 77) 0 rfl rfl dX9_game_77) ?_
            refine Rk.sp (G_iload_n (pc := 78) 3 rfl rfl dX9_game_78) ?_
            refine Rk.sp (G_iconst (pc := 79) dX9_game_79) ?_
            refine Rk.cRI (pc := 80) (Cl.v [vi v3_9, vi 3] [vi v4_11] dX9_game_80 ckX9_76 lb172 rfl rfl rfl (Nat.le_of_ble_eq_true rfl) (Nat.le_of_ble_eq_true rfl)) (k_Mo_of0 v3_9 3 σ hv3_9 (inRk 3 rfl) hok) (fun r18 hr18 => ?_)
            refine Rk.icmp_gt (pc := 83) (tgt := 136) dX9_game_83 (nmI hv4_11) (nmI hr18) rfl (fun hc19 => ?_) (fun hc19 => ?_)
            · refine Rk.inc (pc := 136) 3 (fun v3_20 => [some (vr 172), some (vi a1), some (vi v2_3), some (vi v3_20), some (vi v4_11), none]) rfl (Nat.le_of_ble_eq_true rfl) rfl dX9_game_136 (fun _ => rfl) (fun v3_20 hv3_20 => ?_)
              refine Rk.sp (G_goto (pc := 139) (tgt := 41) dX9_game_139 rfl) ?_
              refine Rk.fg [true, true, true, true, false, false] (L' := [some (vr 172), some (vi a1), some (vi v2_3), some (vi v3_20), none, none]) rfl ?_
              exact Rk.end_ (fun h => h hv3_20)
            · refine Rk.sp (G_aload_n (pc := 86) 0 rfl rfl dX9_game_86) ?_
              refine Rk.sp (G_iload_n (pc := 87) 3 rfl rfl dX9_game_87) ?_
              refine Rk.sp (G_iconst (pc := 88) dX9_game_88) ?_
              refine Rk.cRI (pc := 89) (Cl.v [vi v3_9, vi 3] [] dX9_game_89 ckX9_76 lb172 rfl rfl rfl (Nat.le_of_ble_eq_true rfl) (Nat.le_of_ble_eq_true rfl)) (k_Mo_of0 v3_9 3 σ hv3_9 (inRk 3 rfl) hok) (fun r21 hr21 => ?_)
              refine Rk.sp (G_iload_w (pc := 92) 4 rfl dX9_game_92) ?_
              refine Rk.sp (G_isub (pc := 94) dX9_game_94) ?_
              refine Rk.sp (G_aload_n (pc := 95) 0 rfl rfl dX9_game_95) ?_
              refine Rk.sp (G_iload_n (pc := 96) 3 rfl rfl dX9_game_96) ?_
              refine Rk.sp (G_iconst (pc := 97) dX9_game_97) ?_
              refine Rk.cRI (pc := 98) (Cl.v [vi v3_9, vi 4] [vi (r21 - v4_11)] dX9_game_98 ckX9_76 lb172 rfl rfl rfl (Nat.le_of_ble_eq_true rfl) (Nat.le_of_ble_eq_true rfl)) (k_Mo_of0 v3_9 4 σ hv3_9 (inRk 4 rfl) hok) (fun r22 hr22 => ?_)
              refine Rk.sp (G_iconst (pc := 101) dX9_game_101) ?_
              refine Rk.sp (G_iadd (pc := 102) dX9_game_102) ?_
              refine Rk.qnz (fun hz23 => ?_)
              refine Rk.sp (G_irem (pc := 103) dX9_game_103 (nmW _) (nmW _) hz23) ?_
              refine Rk.ist_w (pc := 104) 5 (fun v5_24 => [some (vr 172), some (vi a1), some (vi v2_3), some (vi v3_9), some (vi v4_11), some (vi v5_24)]) (Nat.le_of_ble_eq_true rfl) rfl dX9_game_104 (nmI (tmodR (wrR _))) (fun _ => rfl) (fun v5_24 hv5_24 => ?_)
              refine Rk.sp (G_iload_n (pc := 106) 2 rfl rfl dX9_game_106) ?_
              refine Rk.sp (G_aload_n (pc := 107) 0 rfl rfl dX9_game_107) ?_
              refine Rk.sp (G_iload_n (pc := 108) 3 rfl rfl dX9_game_108) ?_
              refine Rk.cRI (pc := 109) (Cl.v [vi v3_9] [vi v2_3] dX9_game_109 ckX9_457 lb172 rfl rfl rfl (Nat.le_of_ble_eq_true rfl) (Nat.le_of_ble_eq_true rfl)) (k_Mo_heapOf v3_9 σ hv3_9 hok) (fun r25 hr25 => ?_)
              refine Rk.sp (G_ixor (pc := 112) dX9_game_112) ?_
              refine Rk.sp (G_iload_w (pc := 113) 5 rfl dX9_game_113) ?_
              refine Rk.sp (G_ixor (pc := 115) dX9_game_115) ?_
              refine Rk.if_ne (pc := 116) (tgt := 130) dX9_game_116 (nmI (bXor_R _ _)) rfl (fun hc26 => ?_) (fun hc26 => ?_)
              · refine Rk.sp (G_iload_n (pc := 119) 1 rfl rfl dX9_game_119) ?_
                refine Rk.if_ne (pc := 120) (tgt := 127) dX9_game_120 (nmI ha1) rfl (fun hc27 => ?_) (fun hc27 => ?_)
                · refine Rk.sp (G_iload_n (pc := 123) 3 rfl rfl dX9_game_123) ?_
                  refine Rk.sp (G_goto (pc := 124) (tgt := 129) dX9_game_124 rfl) ?_
                  exact Rk.end_ (fun h => G_ireturn (pc := 129) rfl dX9_game_129 (q_RI h hv3_9))
                · refine Rk.sp (G_iload_w (pc := 127) 4 rfl dX9_game_127) ?_
                  exact Rk.end_ (fun h => G_ireturn (pc := 129) rfl dX9_game_129 (q_RI h hv4_11))
              · refine Rk.inc (pc := 130) 4 (fun v4_28 => [some (vr 172), some (vi a1), some (vi v2_3), some (vi v3_9), some (vi v4_28), some (vi v5_24)]) rfl (Nat.le_of_ble_eq_true rfl) rfl dX9_game_130 (fun _ => rfl) (fun v4_28 hv4_28 => ?_)
                refine Rk.sp (G_goto (pc := 133) (tgt := 54) dX9_game_133 rfl) ?_
                refine Rk.fg [true, true, true, true, true, false] (L' := [some (vr 172), some (vi a1), some (vi v2_3), some (vi v3_9), some (vi v4_28), none]) rfl ?_
                exact Rk.end_ (fun h => h hv4_28)
      · refine Rk.sp (G_iconst (pc := 142) dX9_game_142) ?_
        exact Rk.end_ (fun h => G_ireturn (pc := 143) rfl dX9_game_143 (q_RI h (inRk (-1) rfl)))
theorem k_Mo_lastFrom {κ : Kx} {μ : Sg} (σ : Sg) (hok : okS σ) : CtRI κ mX9_lastFrom 2 [vr 172] true μ σ (Mo_lastFrom σ) := by
  intro r h
  refine con_of (by decide) (Nat.le_of_ble_eq_true rfl) 2 ?_
  refine (?_ : Rk κ mX9_lastFrom _ 0 [some (vr 172), none, none] [] (ms true μ σ) (Mo_lastFrom σ) (fun a => a = r)) _ h rfl
  unfold Mo_lastFrom
  refine Rk.sp (G_iconst (pc := 0) dX9_lastFrom_0) ?_
  refine Rk.isa_n (pc := 1) 1 (L' := [some (vr 172), some (vi (-1)), none]) rfl (Nat.le_of_ble_eq_true rfl) rfl dX9_lastFrom_1 rfl ?_
  refine Rk.sp (G_iconst (pc := 2) dX9_lastFrom_2) ?_
  refine Rk.isa_n (pc := 3) 2 (L' := [some (vr 172), some (vi (-1)), some (vi 0)]) rfl (Nat.le_of_ble_eq_true rfl) rfl dX9_lastFrom_3 rfl ?_
  refine Rk.loop (pc := 4) (B := (fun p => Mo_lastFrom_4_b σ p.1 p.2)) (fun p => inR p.1 ∧ inR p.2) (fun p => [some (vr 172), some (vi p.1), some (vi p.2)]) (fun p => (ms true μ σ)) (fun p hp => ?_) ((-1), 0) ⟨(inRk (-1) rfl), (inRk 0 rfl)⟩
  obtain ⟨v1_1, v2_2⟩ := p
  obtain ⟨hv1_1, hv2_2⟩ := hp
  try dsimp only
  unfold Mo_lastFrom_4_b
  refine Rk.sp (G_iload_n (pc := 4) 2 rfl rfl dX9_lastFrom_4) ?_
  refine Rk.sp (G_aload_n (pc := 5) 0 rfl rfl dX9_lastFrom_5) ?_
  refine Rk.gR (pc := 6) 173 flX9_7 cl9 rfl lb172 dX9_lastFrom_6 ?_
  refine Rk.sp (G_iconst (pc := 9) dX9_lastFrom_9) ?_
  refine Rk.alc (pc := 10) 3 rfl (Nat.le_of_ble_eq_true rfl) lb173 dX9_lastFrom_10 ?_
  refine Rk.icmp_ge (pc := 11) (tgt := 39) dX9_lastFrom_11 (nmI hv2_2) (nmI (hok _ _)) rfl (fun hc3 => ?_) (fun hc3 => ?_)
  · refine Rk.sp (G_aload_n (pc := 14) 0 rfl rfl dX9_lastFrom_14) ?_
    refine Rk.sp (G_iload_n (pc := 15) 2 rfl rfl dX9_lastFrom_15) ?_
    refine Rk.cRZ (pc := 16) (Cl.v [vi v2_2] [] dX9_lastFrom_16 ckX9_79 lb172 rfl rfl rfl (Nat.le_of_ble_eq_true rfl) (Nat.le_of_ble_eq_true rfl)) (k_Mo_isBack v2_2 σ hv2_2 hok) (fun r4 hr4 => ?_)
    refine Rk.if_eq (pc := 19) (tgt := 26) dX9_lastFrom_19 (nmI (inZ.R hr4)) rfl (fun hc5 => ?_) (fun hc5 => ?_)
    · refine Rk.sp (G_aload_n (pc := 26) 0 rfl rfl dX9_lastFrom_26) ?_
      refine Rk.sp (G_iload_n (pc := 27) 2 rfl rfl dX9_lastFrom_27) ?_
      refine Rk.sp (G_iconst (pc := 28) dX9_lastFrom_28) ?_
      refine Rk.cRI (pc := 29) (Cl.v [vi v2_2, vi 0] [] dX9_lastFrom_29 ckX9_76 lb172 rfl rfl rfl (Nat.le_of_ble_eq_true rfl) (Nat.le_of_ble_eq_true rfl)) (k_Mo_of0 v2_2 0 σ hv2_2 (inRk 0 rfl) hok) (fun r6 hr6 => ?_)
      refine Rk.isa_n (pc := 32) 1 (L' := [some (vr 172), some (vi r6), some (vi v2_2)]) rfl (Nat.le_of_ble_eq_true rfl) rfl dX9_lastFrom_32 rfl ?_
      refine Rk.inc (pc := 33) 2 (fun v2_7 => [some (vr 172), some (vi r6), some (vi v2_7)]) rfl (Nat.le_of_ble_eq_true rfl) rfl dX9_lastFrom_33 (fun _ => rfl) (fun v2_7 hv2_7 => ?_)
      refine Rk.sp (G_goto (pc := 36) (tgt := 4) dX9_lastFrom_36 rfl) ?_
      exact Rk.end_ (fun h => h ⟨hr6, hv2_7⟩)
    · refine Rk.sp (G_iload_n (pc := 22) 1 rfl rfl dX9_lastFrom_22) ?_
      refine Rk.sp (G_goto (pc := 23) (tgt := 32) dX9_lastFrom_23 rfl) ?_
      refine Rk.isa_n (pc := 32) 1 (L' := [some (vr 172), some (vi v1_1), some (vi v2_2)]) rfl (Nat.le_of_ble_eq_true rfl) rfl dX9_lastFrom_32 rfl ?_
      refine Rk.inc (pc := 33) 2 (fun v2_8 => [some (vr 172), some (vi v1_1), some (vi v2_8)]) rfl (Nat.le_of_ble_eq_true rfl) rfl dX9_lastFrom_33 (fun _ => rfl) (fun v2_8 hv2_8 => ?_)
      refine Rk.sp (G_goto (pc := 36) (tgt := 4) dX9_lastFrom_36 rfl) ?_
      exact Rk.end_ (fun h => h ⟨hv1_1, hv2_8⟩)
  · refine Rk.sp (G_iload_n (pc := 39) 1 rfl rfl dX9_lastFrom_39) ?_
    exact Rk.end_ (fun h => G_ireturn (pc := 40) rfl dX9_lastFrom_40 (q_RI h hv1_1))
theorem k_Mo_goes {κ : Kx} {μ : Sg} (a1 : Int) (a2 : Int) (σ : Sg) (ha1 : inR a1) (ha2 : inR a2) (hok : okS σ) : CtI κ mX9_goes 7 [vr 172, vi a1, vi a2] true μ σ (Mo_goes a1 a2 σ) := by
  intro r τ h
  refine con_of (by decide) (Nat.le_of_ble_eq_true rfl) 1 ?_
  refine (?_ : Rk κ mX9_goes _ 0 [some (vr 172), some (vi a1), some (vi a2), none] [] (ms true μ σ) (Mo_goes a1 a2 σ) (fun a => a = (r, τ))) _ h rfl
  unfold Mo_goes
  refine Rk.sp (G_iload_n (pc := 0) 1 rfl rfl dX9_goes_0) ?_
  refine Rk.sp (G_iconst (pc := 1) dX9_goes_1) ?_
  refine Rk.sp (G_sipush (pc := 2) dX9_goes_2 rfl) ?_
  refine Rk.cRZ (pc := 5) (Cl.s [vi a1, vi 1, vi 999] [] dX9_goes_5 ckX9_72 rfl rfl (Nat.le_of_ble_eq_true rfl) (Nat.le_of_ble_eq_true rfl)) (k_Mo_isIn a1 1 999 ha1 (inRk 1 rfl) (inRk 999 rfl)) (fun r1 hr1 => ?_)
  refine Rk.if_eq (pc := 8) (tgt := 20) dX9_goes_8 (nmI (inZ.R hr1)) rfl (fun hc2 => ?_) (fun hc2 => ?_)
  · refine Rk.sp (G_bipush (pc := 20) dX9_goes_20 rfl) ?_
    exact Rk.end_ (fun h => G_ireturn (pc := 22) rfl dX9_goes_22 (q_I h (inRk (-2) rfl) hok))
  · refine Rk.sp (G_iload_n (pc := 11) 2 rfl rfl dX9_goes_11) ?_
    refine Rk.sp (G_iconst (pc := 12) dX9_goes_12) ?_
    refine Rk.sp (G_iconst (pc := 13) dX9_goes_13) ?_
    refine Rk.cRZ (pc := 14) (Cl.s [vi a2, vi 0, vi 3] [] dX9_goes_14 ckX9_72 rfl rfl (Nat.le_of_ble_eq_true rfl) (Nat.le_of_ble_eq_true rfl)) (k_Mo_isIn a2 0 3 ha2 (inRk 0 rfl) (inRk 3 rfl)) (fun r3 hr3 => ?_)
    refine Rk.if_ne (pc := 17) (tgt := 23) dX9_goes_17 (nmI (inZ.R hr3)) rfl (fun hc4 => ?_) (fun hc4 => ?_)
    · refine Rk.sp (G_bipush (pc := 20) dX9_goes_20 rfl) ?_
      exact Rk.end_ (fun h => G_ireturn (pc := 22) rfl dX9_goes_22 (q_I h (inRk (-2) rfl) hok))
    · refine Rk.sp (G_aload_n (pc := 23) 0 rfl rfl dX9_goes_23) ?_
      refine Rk.cV (pc := 24) (Cl.v [] [] dX9_goes_24 ckX9_405 lb172 rfl rfl rfl (Nat.le_of_ble_eq_true rfl) (Nat.le_of_ble_eq_true rfl)) (k_Mo_laysAside σ hok) (fun σ5 hσ5 => ?_)
      refine Rk.sp (G_iconst (pc := 27) dX9_goes_27) ?_
      refine Rk.isa_n (pc := 28) 3 (L' := [some (vr 172), some (vi a1), some (vi a2), some (vi 0)]) rfl (Nat.le_of_ble_eq_true rfl) rfl dX9_goes_28 rfl ?_
      refine Rk.loop (pc := 29) (B := (fun p => Mo_goes_29_b a1 a2 p.1 p.2)) (fun p => inR p.1 ∧ okS p.2) (fun p => [some (vr 172), some (vi a1), some (vi a2), some (vi p.1)]) (fun p => (ms true μ p.2)) (fun p hp => ?_) (0, σ5) ⟨(inRk 0 rfl), hσ5⟩
      obtain ⟨v3_6, σ7⟩ := p
      obtain ⟨hv3_6, hσ7⟩ := hp
      try dsimp only
      unfold Mo_goes_29_b
      refine Rk.sp (G_iload_n (pc := 29) 3 rfl rfl dX9_goes_29) ?_
      refine Rk.sp (G_iload_n (pc := 30) 1 rfl rfl dX9_goes_30) ?_
      refine Rk.icmp_ge (pc := 31) (tgt := 45) dX9_goes_31 (nmI hv3_6) (nmI ha1) rfl (fun hc8 => ?_) (fun hc8 => ?_)
      · refine Rk.sp (G_aload_n (pc := 34) 0 rfl rfl dX9_goes_34) ?_
        refine Rk.cI (pc := 35) (Cl.v [] [] dX9_goes_35 ckX9_402 lb172 rfl rfl rfl (Nat.le_of_ble_eq_true rfl) (Nat.le_of_ble_eq_true rfl)) (k_Mo_aMinute σ7 hσ7) (fun r9 σ10 hr9 hσ10 => ?_)
        refine Rk.sp (G_pop (pc := 38) dX9_goes_38 (fun _ h => by cases h)) ?_
        refine Rk.inc (pc := 39) 3 (fun v3_11 => [some (vr 172), some (vi a1), some (vi a2), some (vi v3_11)]) rfl (Nat.le_of_ble_eq_true rfl) rfl dX9_goes_39 (fun _ => rfl) (fun v3_11 hv3_11 => ?_)
        refine Rk.sp (G_goto (pc := 42) (tgt := 29) dX9_goes_42 rfl) ?_
        exact Rk.end_ (fun h => h ⟨hv3_11, hσ10⟩)
      · refine Rk.sp (G_iload_n (pc := 45) 2 rfl rfl dX9_goes_45) ?_
        refine Rk.if_ne (pc := 46) (tgt := 58) dX9_goes_46 (nmI ha2) rfl (fun hc12 => ?_) (fun hc12 => ?_)
        · refine Rk.sp (G_aload_n (pc := 49) 0 rfl rfl dX9_goes_49) ?_
          refine Rk.gR (pc := 50) 173 flX9_7 cl9 rfl lb172 dX9_goes_50 ?_
          refine Rk.sp (G_iconst (pc := 53) dX9_goes_53) ?_
          refine Rk.alc (pc := 54) 3 rfl (Nat.le_of_ble_eq_true rfl) lb173 dX9_goes_54 ?_
          refine Rk.sp (G_goto (pc := 55) (tgt := 80) dX9_goes_55 rfl) ?_
          refine Rk.ist_n (pc := 80) 3 (fun v3_13 => [some (vr 172), some (vi a1), some (vi a2), some (vi v3_13)]) rfl (Nat.le_of_ble_eq_true rfl) rfl dX9_goes_80 (nmI (hσ7 _ _)) (fun _ => rfl) (fun v3_13 hv3_13 => ?_)
          refine Rk.sp (G_aload_n (pc := 81) 0 rfl rfl dX9_goes_81) ?_
          refine Rk.cV (pc := 82) (Cl.v [] [] dX9_goes_82 ckX9_411 lb172 rfl rfl rfl (Nat.le_of_ble_eq_true rfl) (Nat.le_of_ble_eq_true rfl)) (k_Mo_putsBack σ7 hσ7) (fun σ14 hσ14 => ?_)
          refine Rk.sp (G_iload_n (pc := 85) 3 rfl rfl dX9_goes_85) ?_
          exact Rk.end_ (fun h => G_ireturn (pc := 86) rfl dX9_goes_86 (q_I h hv3_13 hσ14))
        · refine Rk.sp (G_iload_n (pc := 58) 2 rfl rfl dX9_goes_58) ?_
          refine Rk.sp (G_iconst (pc := 59) dX9_goes_59) ?_
          refine Rk.icmp_ne (pc := 60) (tgt := 70) dX9_goes_60 (nmI ha2) (nmI (inRk 1 rfl)) rfl (fun hc15 => ?_) (fun hc15 => ?_)
          · refine Rk.sp (G_aload_n (pc := 63) 0 rfl rfl dX9_goes_63) ?_
            refine Rk.cRI (pc := 64) (Cl.v [] [] dX9_goes_64 ckX9_408 lb172 rfl rfl rfl (Nat.le_of_ble_eq_true rfl) (Nat.le_of_ble_eq_true rfl)) (k_Mo_lastFrom σ7 hσ7) (fun r16 hr16 => ?_)
            refine Rk.sp (G_goto (pc := 67) (tgt := 80) dX9_goes_67 rfl) ?_
            refine Rk.isa_n (pc := 80) 3 (L' := [some (vr 172), some (vi a1), some (vi a2), some (vi r16)]) rfl (Nat.le_of_ble_eq_true rfl) rfl dX9_goes_80 rfl ?_
            refine Rk.sp (G_aload_n (pc := 81) 0 rfl rfl dX9_goes_81) ?_
            refine Rk.cV (pc := 82) (Cl.v [] [] dX9_goes_82 ckX9_411 lb172 rfl rfl rfl (Nat.le_of_ble_eq_true rfl) (Nat.le_of_ble_eq_true rfl)) (k_Mo_putsBack σ7 hσ7) (fun σ17 hσ17 => ?_)
            refine Rk.sp (G_iload_n (pc := 85) 3 rfl rfl dX9_goes_85) ?_
            exact Rk.end_ (fun h => G_ireturn (pc := 86) rfl dX9_goes_86 (q_I h hr16 hσ17))
          · refine Rk.sp (G_aload_n (pc := 70) 0 rfl rfl dX9_goes_70) ?_
            refine Rk.gR (pc := 71) 173 flX9_7 cl9 rfl lb172 dX9_goes_71 ?_
            refine Rk.sp (G_iconst (pc := 74) dX9_goes_74) ?_
            refine Rk.sp (G_iload_n (pc := 75) 2 rfl rfl dX9_goes_75) ?_
            refine Rk.sp (G_iadd (pc := 76) dX9_goes_76) ?_
            refine Rk.sp (G_iconst (pc := 77) dX9_goes_77) ?_
            refine Rk.sp (G_isub (pc := 78) dX9_goes_78) ?_
            refine Rk.al (pc := 79) lb173 dX9_goes_79 (fun hi18 => ?_)
            refine Rk.ist_n (pc := 80) 3 (fun v3_19 => [some (vr 172), some (vi a1), some (vi a2), some (vi v3_19)]) rfl (Nat.le_of_ble_eq_true rfl) rfl dX9_goes_80 (nmI (hσ7 _ _)) (fun _ => rfl) (fun v3_19 hv3_19 => ?_)
            refine Rk.sp (G_aload_n (pc := 81) 0 rfl rfl dX9_goes_81) ?_
            refine Rk.cV (pc := 82) (Cl.v [] [] dX9_goes_82 ckX9_411 lb172 rfl rfl rfl (Nat.le_of_ble_eq_true rfl) (Nat.le_of_ble_eq_true rfl)) (k_Mo_putsBack σ7 hσ7) (fun σ20 hσ20 => ?_)
            refine Rk.sp (G_iload_n (pc := 85) 3 rfl rfl dX9_goes_85) ?_
            exact Rk.end_ (fun h => G_ireturn (pc := 86) rfl dX9_goes_86 (q_I h hv3_19 hσ20))
theorem k_Mo_image {κ : Kx} {μ : Sg} (a1 : Int) (σ : Sg) (ha1 : inR a1) (hok : okS σ) : CtZ κ mX9_image 1 [vr 172, vi a1] true μ σ (Mo_image a1 σ) := by
  intro r τ h
  refine con_of (by decide) (Nat.le_of_ble_eq_true rfl) 1 ?_
  refine (?_ : Rk κ mX9_image _ 0 [some (vr 172), some (vi a1), none] [] (ms true μ σ) (Mo_image a1 σ) (fun a => a = (r, τ))) _ h rfl
  unfold Mo_image
  refine Rk.sp (G_iload_n (pc := 0) 1 rfl rfl dX9_image_0) ?_
  refine Rk.sel (A := 13) (B := 11) (st' := []) ?_ ?_ ?_
  · refine Rk.if_ne (pc := 1) (tgt := 13) dX9_image_1 (nmI ha1) rfl (fun hc1 => ?_) (fun hc1 => ?_)
    · refine Rk.sp (G_aload_n (pc := 4) 0 rfl rfl dX9_image_4) ?_
      refine Rk.gI (pc := 5) flX9_463 cl9 rfl lb172 dX9_image_5 ?_
      refine Rk.if_ne (pc := 8) (tgt := 13) dX9_image_8 (nmI (hok _ _)) rfl (fun hc2 => ?_) (fun hc2 => ?_)
      · exact Rk.end_ (fun h => h inZ0)
      · exact Rk.end_ (fun h => h inZ1)
    · exact Rk.end_ (fun h => h inZ1)
  · refine Rk.sp (G_iconst (pc := 11) dX9_image_11) ?_
    exact Rk.end_ (fun h => G_zreturn (pc := 12) rfl (nz inZ0) dX9_image_12 (q_Z h inZ0 hok))
  · refine Rk.sp (G_iconst (pc := 13) dX9_image_13) ?_
    refine Rk.isa_n (pc := 14) 2 (L' := [some (vr 172), some (vi a1), some (vi 0)]) rfl (Nat.le_of_ble_eq_true rfl) rfl dX9_image_14 rfl ?_
    refine Rk.loop (pc := 15) (B := (fun p => Mo_image_15_b a1 p.1 p.2)) (fun p => inR p.1 ∧ okS p.2) (fun p => [some (vr 172), some (vi a1), some (vi p.1)]) (fun p => (ms true μ p.2)) (fun p hp => ?_) (0, σ) ⟨(inRk 0 rfl), hok⟩
    obtain ⟨v2_3, σ4⟩ := p
    obtain ⟨hv2_3, hσ4⟩ := hp
    try dsimp only
    unfold Mo_image_15_b
    refine Rk.sp (G_iload_n (pc := 15) 2 rfl rfl dX9_image_15) ?_
    refine Rk.sp (G_sipush (pc := 16) dX9_image_16 rfl) ?_
    refine Rk.icmp_ge (pc := 19) (tgt := 59) dX9_image_19 (nmI hv2_3) (nmI (inRk 2217 rfl)) rfl (fun hc5 => ?_) (fun hc5 => ?_)
    · refine Rk.sp (G_iload_n (pc := 22) 1 rfl rfl dX9_image_22) ?_
      refine Rk.if_eq (pc := 23) (tgt := 41) dX9_image_23 (nmI ha1) rfl (fun hc6 => ?_) (fun hc6 => ?_)
      · refine Rk.sp (G_aload_n (pc := 41) 0 rfl rfl dX9_image_41) ?_
        refine Rk.gR (pc := 42) 173 flX9_7 cl9 rfl lb172 dX9_image_42 ?_
        refine Rk.sp (G_iload_n (pc := 45) 2 rfl rfl dX9_image_45) ?_
        refine Rk.sp (G_aload_n (pc := 46) 0 rfl rfl dX9_image_46) ?_
        refine Rk.gR (pc := 47) 174 flX9_13 cl9 rfl lb172 dX9_image_47 ?_
        refine Rk.sp (G_iload_n (pc := 50) 2 rfl rfl dX9_image_50) ?_
        refine Rk.al (pc := 51) lb174 dX9_image_51 (fun hi7 => ?_)
        refine Rk.as (pc := 52) hσ4 (nmI (hσ4 _ _)) lb173 dX9_image_52 (fun hi9 σ8 hσ8 => ?_)
        refine Rk.inc (pc := 53) 2 (fun v2_10 => [some (vr 172), some (vi a1), some (vi v2_10)]) rfl (Nat.le_of_ble_eq_true rfl) rfl dX9_image_53 (fun _ => rfl) (fun v2_10 hv2_10 => ?_)
        refine Rk.sp (G_goto (pc := 56) (tgt := 15) dX9_image_56 rfl) ?_
        exact Rk.end_ (fun h => h ⟨hv2_10, hσ8⟩)
      · refine Rk.sp (G_aload_n (pc := 26) 0 rfl rfl dX9_image_26) ?_
        refine Rk.gR (pc := 27) 174 flX9_13 cl9 rfl lb172 dX9_image_27 ?_
        refine Rk.sp (G_iload_n (pc := 30) 2 rfl rfl dX9_image_30) ?_
        refine Rk.sp (G_aload_n (pc := 31) 0 rfl rfl dX9_image_31) ?_
        refine Rk.gR (pc := 32) 173 flX9_7 cl9 rfl lb172 dX9_image_32 ?_
        refine Rk.sp (G_iload_n (pc := 35) 2 rfl rfl dX9_image_35) ?_
        refine Rk.al (pc := 36) lb173 dX9_image_36 (fun hi11 => ?_)
        refine Rk.as (pc := 37) hσ4 (nmI (hσ4 _ _)) lb174 dX9_image_37 (fun hi13 σ12 hσ12 => ?_)
        refine Rk.sp (G_goto (pc := 38) (tgt := 53) dX9_image_38 rfl) ?_
        refine Rk.inc (pc := 53) 2 (fun v2_14 => [some (vr 172), some (vi a1), some (vi v2_14)]) rfl (Nat.le_of_ble_eq_true rfl) rfl dX9_image_53 (fun _ => rfl) (fun v2_14 hv2_14 => ?_)
        refine Rk.sp (G_goto (pc := 56) (tgt := 15) dX9_image_56 rfl) ?_
        exact Rk.end_ (fun h => h ⟨hv2_14, hσ12⟩)
    · refine Rk.sp (G_iload_n (pc := 59) 1 rfl rfl dX9_image_59) ?_
      refine Rk.if_ne (pc := 60) (tgt := 67) dX9_image_60 (nmI ha1) rfl (fun hc15 => ?_) (fun hc15 => ?_)
      · refine Rk.sp (G_aload_n (pc := 63) 0 rfl rfl dX9_image_63) ?_
        refine Rk.cV (pc := 64) (Cl.v [] [] dX9_image_64 ckX9_86 lb172 rfl rfl rfl (Nat.le_of_ble_eq_true rfl) (Nat.le_of_ble_eq_true rfl)) (k_Mo_forgets σ4 hσ4) (fun σ16 hσ16 => ?_)
        refine Rk.sp (G_aload_n (pc := 67) 0 rfl rfl dX9_image_67) ?_
        refine Rk.sp (G_iconst (pc := 68) dX9_image_68) ?_
        refine Rk.pZ (pc := 69) hσ16 inZ1 flX9_463 cl9 rfl rfl lb172 dX9_image_69 (fun σ17 hσ17 => ?_)
        refine Rk.sp (G_iconst (pc := 72) dX9_image_72) ?_
        exact Rk.end_ (fun h => G_zreturn (pc := 73) rfl (nz inZ1) dX9_image_73 (q_Z h inZ1 hσ17))
      · refine Rk.sp (G_aload_n (pc := 67) 0 rfl rfl dX9_image_67) ?_
        refine Rk.sp (G_iconst (pc := 68) dX9_image_68) ?_
        refine Rk.pZ (pc := 69) hσ4 inZ1 flX9_463 cl9 rfl rfl lb172 dX9_image_69 (fun σ18 hσ18 => ?_)
        refine Rk.sp (G_iconst (pc := 72) dX9_image_72) ?_
        exact Rk.end_ (fun h => G_zreturn (pc := 73) rfl (nz inZ1) dX9_image_73 (q_Z h inZ1 hσ18))
theorem k_Mo_isAnswer {κ : Kx} {μ : Sg} (a1 : Int) (σ : Sg) (ha1 : inR a1) (hok : okS σ) : CtRZ κ mX9_isAnswer 2 [vr 172, vi a1] true μ σ (Mo_isAnswer a1 σ) := by
  intro r h
  refine con_of (by decide) (Nat.le_of_ble_eq_true rfl) 0 ?_
  refine (?_ : Rk κ mX9_isAnswer _ 0 [some (vr 172), some (vi a1)] [] (ms true μ σ) (Mo_isAnswer a1 σ) (fun a => a = r)) _ h rfl
  unfold Mo_isAnswer
  refine Rk.sp (G_aload_n (pc := 0) 0 rfl rfl dX9_isAnswer_0) ?_
  refine Rk.sp (G_iload_n (pc := 1) 1 rfl rfl dX9_isAnswer_1) ?_
  refine Rk.sp (G_bipush (pc := 2) dX9_isAnswer_2 rfl) ?_
  refine Rk.cRI (pc := 4) (Cl.v [vi a1, vi 6] [] dX9_isAnswer_4 ckX9_76 lb172 rfl rfl rfl (Nat.le_of_ble_eq_true rfl) (Nat.le_of_ble_eq_true rfl)) (k_Mo_of0 a1 6 σ ha1 (inRk 6 rfl) hok) (fun r1 hr1 => ?_)
  refine Rk.sp (G_iconst (pc := 7) dX9_isAnswer_7) ?_
  refine Rk.icmp_eq (pc := 8) (tgt := 23) dX9_isAnswer_8 (nmI hr1) (nmI (inRk (-1) rfl)) rfl (fun hc2 => ?_) (fun hc2 => ?_)
  · refine Rk.sp (G_iconst (pc := 23) dX9_isAnswer_23) ?_
    exact Rk.end_ (fun h => G_zreturn (pc := 24) rfl (nz inZ0) dX9_isAnswer_24 (q_RZ h inZ0))
  · refine Rk.sp (G_aload_n (pc := 11) 0 rfl rfl dX9_isAnswer_11) ?_
    refine Rk.sp (G_iload_n (pc := 12) 1 rfl rfl dX9_isAnswer_12) ?_
    refine Rk.cRZ (pc := 13) (Cl.v [vi a1] [] dX9_isAnswer_13 ckX9_79 lb172 rfl rfl rfl (Nat.le_of_ble_eq_true rfl) (Nat.le_of_ble_eq_true rfl)) (k_Mo_isBack a1 σ ha1 hok) (fun r3 hr3 => ?_)
    refine Rk.if_ne (pc := 16) (tgt := 23) dX9_isAnswer_16 (nmI (inZ.R hr3)) rfl (fun hc4 => ?_) (fun hc4 => ?_)
    · refine Rk.sp (G_iconst (pc := 19) dX9_isAnswer_19) ?_
      refine Rk.sp (G_goto (pc := 20) (tgt := 24) dX9_isAnswer_20 rfl) ?_
      exact Rk.end_ (fun h => G_zreturn (pc := 24) rfl (nz inZ1) dX9_isAnswer_24 (q_RZ h inZ1))
    · refine Rk.sp (G_iconst (pc := 23) dX9_isAnswer_23) ?_
      exact Rk.end_ (fun h => G_zreturn (pc := 24) rfl (nz inZ0) dX9_isAnswer_24 (q_RZ h inZ0))
theorem k_Mo_isAnswered {κ : Kx} {μ : Sg} (a1 : Int) (σ : Sg) (ha1 : inR a1) (hok : okS σ) : CtRZ κ mX9_isAnswered 2 [vr 172, vi a1] true μ σ (Mo_isAnswered a1 σ) := by
  intro r h
  refine con_of (by decide) (Nat.le_of_ble_eq_true rfl) 1 ?_
  refine (?_ : Rk κ mX9_isAnswered _ 0 [some (vr 172), some (vi a1), none] [] (ms true μ σ) (Mo_isAnswered a1 σ) (fun a => a = r)) _ h rfl
  unfold Mo_isAnswered
  refine Rk.sp (G_iload_n (pc := 0) 1 rfl rfl dX9_isAnswered_0) ?_
  refine Rk.sp (G_iconst (pc := 1) dX9_isAnswered_1) ?_
  refine Rk.sp (G_iadd (pc := 2) dX9_isAnswered_2) ?_
  refine Rk.ist_n (pc := 3) 2 (fun v2_1 => [some (vr 172), some (vi a1), some (vi v2_1)]) rfl (Nat.le_of_ble_eq_true rfl) rfl dX9_isAnswered_3 (nmW _) (fun _ => rfl) (fun v2_1 hv2_1 => ?_)
  refine Rk.loop (pc := 4) (B := (fun p => Mo_isAnswered_4_b σ a1 p)) (fun p => inR p) (fun p => [some (vr 172), some (vi a1), some (vi p)]) (fun p => (ms true μ σ)) (fun p hp => ?_) v2_1 hv2_1
  revert hp; revert p; intro v2_2 hv2_2
  try dsimp only
  unfold Mo_isAnswered_4_b
  refine Rk.sp (G_iload_n (pc := 4) 2 rfl rfl dX9_isAnswered_4) ?_
  refine Rk.sp (G_aload_n (pc := 5) 0 rfl rfl dX9_isAnswered_5) ?_
  refine Rk.gR (pc := 6) 173 flX9_7 cl9 rfl lb172 dX9_isAnswered_6 ?_
  refine Rk.sp (G_iconst (pc := 9) dX9_isAnswered_9) ?_
  refine Rk.alc (pc := 10) 3 rfl (Nat.le_of_ble_eq_true rfl) lb173 dX9_isAnswered_10 ?_
  refine Rk.icmp_ge (pc := 11) (tgt := 41) dX9_isAnswered_11 (nmI hv2_2) (nmI (hok _ _)) rfl (fun hc3 => ?_) (fun hc3 => ?_)
  · refine Rk.sp (G_aload_n (pc := 14) 0 rfl rfl dX9_isAnswered_14) ?_
    refine Rk.sp (G_iload_n (pc := 15) 2 rfl rfl dX9_isAnswered_15) ?_
    refine Rk.sp (G_bipush (pc := 16) dX9_isAnswered_16 rfl) ?_
    refine Rk.cRI (pc := 18) (Cl.v [vi v2_2, vi 6] [] dX9_isAnswered_18 ckX9_76 lb172 rfl rfl rfl (Nat.le_of_ble_eq_true rfl) (Nat.le_of_ble_eq_true rfl)) (k_Mo_of0 v2_2 6 σ hv2_2 (inRk 6 rfl) hok) (fun r4 hr4 => ?_)
    refine Rk.sp (G_iload_n (pc := 21) 1 rfl rfl dX9_isAnswered_21) ?_
    refine Rk.icmp_ne (pc := 22) (tgt := 35) dX9_isAnswered_22 (nmI hr4) (nmI ha1) rfl (fun hc5 => ?_) (fun hc5 => ?_)
    · refine Rk.sp (G_aload_n (pc := 25) 0 rfl rfl dX9_isAnswered_25) ?_
      refine Rk.sp (G_iload_n (pc := 26) 2 rfl rfl dX9_isAnswered_26) ?_
      refine Rk.cRZ (pc := 27) (Cl.v [vi v2_2] [] dX9_isAnswered_27 ckX9_79 lb172 rfl rfl rfl (Nat.le_of_ble_eq_true rfl) (Nat.le_of_ble_eq_true rfl)) (k_Mo_isBack v2_2 σ hv2_2 hok) (fun r6 hr6 => ?_)
      refine Rk.if_ne (pc := 30) (tgt := 35) dX9_isAnswered_30 (nmI (inZ.R hr6)) rfl (fun hc7 => ?_) (fun hc7 => ?_)
      · refine Rk.sp (G_iconst (pc := 33) dX9_isAnswered_33) ?_
        exact Rk.end_ (fun h => G_zreturn (pc := 34) rfl (nz inZ1) dX9_isAnswered_34 (q_RZ h inZ1))
      · refine Rk.inc (pc := 35) 2 (fun v2_8 => [some (vr 172), some (vi a1), some (vi v2_8)]) rfl (Nat.le_of_ble_eq_true rfl) rfl dX9_isAnswered_35 (fun _ => rfl) (fun v2_8 hv2_8 => ?_)
        refine Rk.sp (G_goto (pc := 38) (tgt := 4) dX9_isAnswered_38 rfl) ?_
        exact Rk.end_ (fun h => h hv2_8)
    · refine Rk.inc (pc := 35) 2 (fun v2_9 => [some (vr 172), some (vi a1), some (vi v2_9)]) rfl (Nat.le_of_ble_eq_true rfl) rfl dX9_isAnswered_35 (fun _ => rfl) (fun v2_9 hv2_9 => ?_)
      refine Rk.sp (G_goto (pc := 38) (tgt := 4) dX9_isAnswered_38 rfl) ?_
      exact Rk.end_ (fun h => h hv2_9)
  · refine Rk.sp (G_iconst (pc := 41) dX9_isAnswered_41) ?_
    exact Rk.end_ (fun h => G_zreturn (pc := 42) rfl (nz inZ0) dX9_isAnswered_42 (q_RZ h inZ0))
theorem k_Mo_isWaiting {κ : Kx} {μ : Sg} (a1 : Int) (a2 : Int) (σ : Sg) (ha1 : inR a1) (ha2 : inR a2) (hok : okS σ) : CtRZ κ mX9_isWaiting 3 [vr 172, vi a1, vi a2] true μ σ (Mo_isWaiting a1 a2 σ) := by
  intro r h
  refine con_of (by decide) (Nat.le_of_ble_eq_true rfl) 0 ?_
  refine (?_ : Rk κ mX9_isWaiting _ 0 [some (vr 172), some (vi a1), some (vi a2)] [] (ms true μ σ) (Mo_isWaiting a1 a2 σ) (fun a => a = r)) _ h rfl
  unfold Mo_isWaiting
  refine Rk.sp (G_aload_n (pc := 0) 0 rfl rfl dX9_isWaiting_0) ?_
  refine Rk.sp (G_iload_n (pc := 1) 1 rfl rfl dX9_isWaiting_1) ?_
  refine Rk.cRI (pc := 2) (Cl.v [vi a1] [] dX9_isWaiting_2 ckX9_320 lb172 rfl rfl rfl (Nat.le_of_ble_eq_true rfl) (Nat.le_of_ble_eq_true rfl)) (k_Mo_goesTo a1 σ ha1 hok) (fun r1 hr1 => ?_)
  refine Rk.sp (G_iload_n (pc := 5) 2 rfl rfl dX9_isWaiting_5) ?_
  refine Rk.icmp_ne (pc := 6) (tgt := 29) dX9_isWaiting_6 (nmI hr1) (nmI ha2) rfl (fun hc2 => ?_) (fun hc2 => ?_)
  · refine Rk.sp (G_aload_n (pc := 9) 0 rfl rfl dX9_isWaiting_9) ?_
    refine Rk.sp (G_iload_n (pc := 10) 1 rfl rfl dX9_isWaiting_10) ?_
    refine Rk.cRZ (pc := 11) (Cl.v [vi a1] [] dX9_isWaiting_11 ckX9_79 lb172 rfl rfl rfl (Nat.le_of_ble_eq_true rfl) (Nat.le_of_ble_eq_true rfl)) (k_Mo_isBack a1 σ ha1 hok) (fun r3 hr3 => ?_)
    refine Rk.if_ne (pc := 14) (tgt := 29) dX9_isWaiting_14 (nmI (inZ.R hr3)) rfl (fun hc4 => ?_) (fun hc4 => ?_)
    · refine Rk.sp (G_aload_n (pc := 17) 0 rfl rfl dX9_isWaiting_17) ?_
      refine Rk.sp (G_iload_n (pc := 18) 1 rfl rfl dX9_isWaiting_18) ?_
      refine Rk.cRZ (pc := 19) (Cl.v [vi a1] [] dX9_isWaiting_19 ckX9_433 lb172 rfl rfl rfl (Nat.le_of_ble_eq_true rfl) (Nat.le_of_ble_eq_true rfl)) (k_Mo_isAnswered a1 σ ha1 hok) (fun r5 hr5 => ?_)
      refine Rk.if_ne (pc := 22) (tgt := 29) dX9_isWaiting_22 (nmI (inZ.R hr5)) rfl (fun hc6 => ?_) (fun hc6 => ?_)
      · refine Rk.sp (G_iconst (pc := 25) dX9_isWaiting_25) ?_
        refine Rk.sp (G_goto (pc := 26) (tgt := 30) dX9_isWaiting_26 rfl) ?_
        exact Rk.end_ (fun h => G_zreturn (pc := 30) rfl (nz inZ1) dX9_isWaiting_30 (q_RZ h inZ1))
      · refine Rk.sp (G_iconst (pc := 29) dX9_isWaiting_29) ?_
        exact Rk.end_ (fun h => G_zreturn (pc := 30) rfl (nz inZ0) dX9_isWaiting_30 (q_RZ h inZ0))
    · refine Rk.sp (G_iconst (pc := 29) dX9_isWaiting_29) ?_
      exact Rk.end_ (fun h => G_zreturn (pc := 30) rfl (nz inZ0) dX9_isWaiting_30 (q_RZ h inZ0))
  · refine Rk.sp (G_iconst (pc := 29) dX9_isWaiting_29) ?_
    exact Rk.end_ (fun h => G_zreturn (pc := 30) rfl (nz inZ0) dX9_isWaiting_30 (q_RZ h inZ0))
theorem k_Mo_keeps {κ : Kx} {μ : Sg} (σ : Sg) (hok : okS σ) : CtV κ mX9_keeps 0 [vr 172] true μ σ (Mo_keeps σ) := by
  intro τ h
  refine con_of (by decide) (Nat.le_of_ble_eq_true rfl) 1 ?_
  refine (?_ : Rk κ mX9_keeps _ 0 [some (vr 172), none] [] (ms true μ σ) (Mo_keeps σ) (fun a => a = τ)) _ h rfl
  unfold Mo_keeps
  refine Rk.sp (G_aload_n (pc := 0) 0 rfl rfl dX9_keeps_0) ?_
  refine Rk.gI (pc := 1) flX9_83 cl9 rfl lb172 dX9_keeps_1 ?_
  refine Rk.sp (G_bipush (pc := 4) dX9_keeps_4 rfl) ?_
  refine Rk.join (P := fun p => okS p) (pcj := 50) (fun p => [some (vr 172), none]) (fun p => []) (fun p => (ms true μ p)) ?_ (fun p hp => ?_)
  · refine Rk.icmp_ne (pc := 6) (tgt := 50) dX9_keeps_6 (nmI (hok _ _)) (nmI (inRk 6 rfl)) rfl (fun hc1 => ?_) (fun hc1 => ?_)
    · refine Rk.sp (G_iconst (pc := 9) dX9_keeps_9) ?_
      refine Rk.isa_n (pc := 10) 1 (L' := [some (vr 172), some (vi 0)]) rfl (Nat.le_of_ble_eq_true rfl) rfl dX9_keeps_10 rfl ?_
      refine Rk.loop (pc := 11) (B := (fun p => Mo_keeps_11_b p.1 p.2)) (fun p => inR p.1 ∧ okS p.2) (fun p => [some (vr 172), some (vi p.1)]) (fun p => (ms true μ p.2)) (fun p hp => ?_) (0, σ) ⟨(inRk 0 rfl), hok⟩
      obtain ⟨v1_3, σ4⟩ := p
      obtain ⟨hv1_3, hσ4⟩ := hp
      try dsimp only
      unfold Mo_keeps_11_b
      refine Rk.sp (G_iload_n (pc := 11) 1 rfl rfl dX9_keeps_11) ?_
      refine Rk.sp (G_sipush (pc := 12) dX9_keeps_12 rfl) ?_
      refine Rk.icmp_ge (pc := 15) (tgt := 40) dX9_keeps_15 (nmI hv1_3) (nmI (inRk 2740 rfl)) rfl (fun hc5 => ?_) (fun hc5 => ?_)
      · refine Rk.sp (G_aload_n (pc := 18) 0 rfl rfl dX9_keeps_18) ?_
        refine Rk.gR (pc := 19) 175 flX9_16 cl9 rfl lb172 dX9_keeps_19 ?_
        refine Rk.sp (G_iload_n (pc := 22) 1 rfl rfl dX9_keeps_22) ?_
        refine Rk.sp (G_aload_n (pc := 23) 0 rfl rfl dX9_keeps_23) ?_
        refine Rk.gR (pc := 24) 175 flX9_16 cl9 rfl lb172 dX9_keeps_24 ?_
        refine Rk.sp (G_iload_n (pc := 27) 1 rfl rfl dX9_keeps_27) ?_
        refine Rk.sp (G_sipush (pc := 28) dX9_keeps_28 rfl) ?_
        refine Rk.sp (G_iadd (pc := 31) dX9_keeps_31) ?_
        refine Rk.al (pc := 32) lb175 dX9_keeps_32 (fun hi6 => ?_)
        refine Rk.as (pc := 33) hσ4 (nmI (hσ4 _ _)) lb175 dX9_keeps_33 (fun hi8 σ7 hσ7 => ?_)
        refine Rk.inc (pc := 34) 1 (fun v1_9 => [some (vr 172), some (vi v1_9)]) rfl (Nat.le_of_ble_eq_true rfl) rfl dX9_keeps_34 (fun _ => rfl) (fun v1_9 hv1_9 => ?_)
        refine Rk.sp (G_goto (pc := 37) (tgt := 11) dX9_keeps_37 rfl) ?_
        exact Rk.end_ (fun h => h ⟨hv1_9, hσ7⟩)
      · refine Rk.sp (G_aload_n (pc := 40) 0 rfl rfl dX9_keeps_40) ?_
        refine Rk.sp (G_dup (pc := 41) dX9_keeps_41 (fun _ h => by cases h)) ?_
        refine Rk.gI (pc := 42) flX9_83 cl9 rfl lb172 dX9_keeps_42 ?_
        refine Rk.sp (G_iconst (pc := 45) dX9_keeps_45) ?_
        refine Rk.sp (G_isub (pc := 46) dX9_keeps_46) ?_
        refine Rk.pI (pc := 47) hσ4 (nmW _) flX9_83 cl9 rfl rfl lb172 dX9_keeps_47 (fun σ10 hσ10 => ?_)
        refine Rk.fg [true, false] (L' := [some (vr 172), none]) rfl ?_
        exact Rk.end_ (fun h => h hσ10)
    · exact Rk.end_ (fun h => h hok)
  · revert hp; revert p; intro σ2 hσ2
    try dsimp only
    refine Rk.sp (G_iconst (pc := 50) dX9_keeps_50) ?_
    refine Rk.isa_n (pc := 51) 1 (L' := [some (vr 172), some (vi 0)]) rfl (Nat.le_of_ble_eq_true rfl) rfl dX9_keeps_51 rfl ?_
    refine Rk.loop (pc := 52) (B := (fun p => Mo_keeps_52_b p.1 p.2)) (fun p => inR p.1 ∧ okS p.2) (fun p => [some (vr 172), some (vi p.1)]) (fun p => (ms true μ p.2)) (fun p hp => ?_) (0, σ2) ⟨(inRk 0 rfl), hσ2⟩
    obtain ⟨v1_11, σ12⟩ := p
    obtain ⟨hv1_11, hσ12⟩ := hp
    try dsimp only
    unfold Mo_keeps_52_b
    refine Rk.sp (G_iload_n (pc := 52) 1 rfl rfl dX9_keeps_52) ?_
    refine Rk.sp (G_sipush (pc := 53) dX9_keeps_53 rfl) ?_
    refine Rk.icmp_ge (pc := 56) (tgt := 86) dX9_keeps_56 (nmI hv1_11) (nmI (inRk 548 rfl)) rfl (fun hc13 => ?_) (fun hc13 => ?_)
    · refine Rk.sp (G_aload_n (pc := 59) 0 rfl rfl dX9_keeps_59) ?_
      refine Rk.gR (pc := 60) 175 flX9_16 cl9 rfl lb172 dX9_keeps_60 ?_
      refine Rk.sp (G_sipush (pc := 63) dX9_keeps_63 rfl) ?_
      refine Rk.sp (G_aload_n (pc := 66) 0 rfl rfl dX9_keeps_66) ?_
      refine Rk.gI (pc := 67) flX9_83 cl9 rfl lb172 dX9_keeps_67 ?_
      refine Rk.sp (G_imul (pc := 70) dX9_keeps_70) ?_
      refine Rk.sp (G_iload_n (pc := 71) 1 rfl rfl dX9_keeps_71) ?_
      refine Rk.sp (G_iadd (pc := 72) dX9_keeps_72) ?_
      refine Rk.sp (G_aload_n (pc := 73) 0 rfl rfl dX9_keeps_73) ?_
      refine Rk.gR (pc := 74) 173 flX9_7 cl9 rfl lb172 dX9_keeps_74 ?_
      refine Rk.sp (G_iload_n (pc := 77) 1 rfl rfl dX9_keeps_77) ?_
      refine Rk.al (pc := 78) lb173 dX9_keeps_78 (fun hi14 => ?_)
      refine Rk.as (pc := 79) hσ12 (nmI (hσ12 _ _)) lb175 dX9_keeps_79 (fun hi16 σ15 hσ15 => ?_)
      refine Rk.inc (pc := 80) 1 (fun v1_17 => [some (vr 172), some (vi v1_17)]) rfl (Nat.le_of_ble_eq_true rfl) rfl dX9_keeps_80 (fun _ => rfl) (fun v1_17 hv1_17 => ?_)
      refine Rk.sp (G_goto (pc := 83) (tgt := 52) dX9_keeps_83 rfl) ?_
      exact Rk.end_ (fun h => h ⟨hv1_17, hσ15⟩)
    · refine Rk.sp (G_aload_n (pc := 86) 0 rfl rfl dX9_keeps_86) ?_
      refine Rk.sp (G_dup (pc := 87) dX9_keeps_87 (fun _ h => by cases h)) ?_
      refine Rk.gI (pc := 88) flX9_83 cl9 rfl lb172 dX9_keeps_88 ?_
      refine Rk.sp (G_iconst (pc := 91) dX9_keeps_91) ?_
      refine Rk.sp (G_iadd (pc := 92) dX9_keeps_92) ?_
      refine Rk.pI (pc := 93) hσ12 (nmW _) flX9_83 cl9 rfl rfl lb172 dX9_keeps_93 (fun σ18 hσ18 => ?_)
      refine Rk.sp (G_aload_n (pc := 96) 0 rfl rfl dX9_keeps_96) ?_
      refine Rk.sp (G_iconst (pc := 97) dX9_keeps_97) ?_
      refine Rk.pZ (pc := 98) hσ18 inZ1 flX9_330 cl9 rfl rfl lb172 dX9_keeps_98 (fun σ19 hσ19 => ?_)
      refine Rk.sp (G_aload_n (pc := 101) 0 rfl rfl dX9_keeps_101) ?_
      refine Rk.sp (G_iconst (pc := 102) dX9_keeps_102) ?_
      refine Rk.pI (pc := 103) hσ19 (nmI (inRk (-1) rfl)) flX9_44 cl9 rfl rfl lb172 dX9_keeps_103 (fun σ20 hσ20 => ?_)
      exact Rk.end_ (fun h => G_return (pc := 106) rfl dX9_keeps_106 (q_V h hσ20))
theorem k_Mo_pauseOf {κ : Kx} {μ : Sg} (a1 : Int) (σ : Sg) (ha1 : inR a1) (hok : okS σ) : CtRI κ mX9_pauseOf 1 [vr 172, vi a1] true μ σ (Mo_pauseOf a1 σ) := by
  intro r h
  refine con_of (by decide) (Nat.le_of_ble_eq_true rfl) 0 ?_
  refine (?_ : Rk κ mX9_pauseOf _ 0 [some (vr 172), some (vi a1)] [] (ms true μ σ) (Mo_pauseOf a1 σ) (fun a => a = r)) _ h rfl
  unfold Mo_pauseOf
  refine Rk.sp (G_aload_n (pc := 0) 0 rfl rfl dX9_pauseOf_0) ?_
  refine Rk.sp (G_iload_n (pc := 1) 1 rfl rfl dX9_pauseOf_1) ?_
  refine Rk.sp (G_iconst (pc := 2) dX9_pauseOf_2) ?_
  refine Rk.cRI (pc := 3) (Cl.v [vi a1, vi 1] [] dX9_pauseOf_3 ckX9_76 lb172 rfl rfl rfl (Nat.le_of_ble_eq_true rfl) (Nat.le_of_ble_eq_true rfl)) (k_Mo_of0 a1 1 σ ha1 (inRk 1 rfl) hok) (fun r1 hr1 => ?_)
  refine Rk.sp (G_aload_n (pc := 6) 0 rfl rfl dX9_pauseOf_6) ?_
  refine Rk.sp (G_aload_n (pc := 7) 0 rfl rfl dX9_pauseOf_7) ?_
  refine Rk.sp (G_iload_n (pc := 8) 1 rfl rfl dX9_pauseOf_8) ?_
  refine Rk.sp (G_bipush (pc := 9) dX9_pauseOf_9 rfl) ?_
  refine Rk.cRI (pc := 11) (Cl.v [vi a1, vi 6] [vr 172, vi r1] dX9_pauseOf_11 ckX9_76 lb172 rfl rfl rfl (Nat.le_of_ble_eq_true rfl) (Nat.le_of_ble_eq_true rfl)) (k_Mo_of0 a1 6 σ ha1 (inRk 6 rfl) hok) (fun r2 hr2 => ?_)
  refine Rk.sp (G_iconst (pc := 14) dX9_pauseOf_14) ?_
  refine Rk.cRI (pc := 15) (Cl.v [vi r2, vi 1] [vi r1] dX9_pauseOf_15 ckX9_76 lb172 rfl rfl rfl (Nat.le_of_ble_eq_true rfl) (Nat.le_of_ble_eq_true rfl)) (k_Mo_of0 r2 1 σ hr2 (inRk 1 rfl) hok) (fun r3 hr3 => ?_)
  refine Rk.sp (G_isub (pc := 18) dX9_pauseOf_18) ?_
  refine Rk.sp (Go.n0 (nmW _)) ?_
  exact Rk.end_ (fun h => G_ireturn (pc := 19) rfl dX9_pauseOf_19 (q_RI h (wrR _)))
theorem k_Mo_laysPauses {κ : Kx} {μ : Sg} (σ : Sg) (hok : okS σ) : CtI κ mX9_laysPauses 3 [vr 172] true μ σ (Mo_laysPauses σ) := by
  intro r τ h
  refine con_of (by decide) (Nat.le_of_ble_eq_true rfl) 3 ?_
  refine (?_ : Rk κ mX9_laysPauses _ 0 [some (vr 172), none, none, none] [] (ms true μ σ) (Mo_laysPauses σ) (fun a => a = (r, τ))) _ h rfl
  unfold Mo_laysPauses
  refine Rk.sp (G_iconst (pc := 0) dX9_laysPauses_0) ?_
  refine Rk.isa_n (pc := 1) 1 (L' := [some (vr 172), some (vi 0), none, none]) rfl (Nat.le_of_ble_eq_true rfl) rfl dX9_laysPauses_1 rfl ?_
  refine Rk.sp (G_iconst (pc := 2) dX9_laysPauses_2) ?_
  refine Rk.isa_n (pc := 3) 2 (L' := [some (vr 172), some (vi 0), some (vi 0), none]) rfl (Nat.le_of_ble_eq_true rfl) rfl dX9_laysPauses_3 rfl ?_
  refine Rk.loop (pc := 4) (B := (fun p => Mo_laysPauses_4_b p.1 p.2.1 p.2.2)) (fun p => inR p.1 ∧ inR p.2.1 ∧ okS p.2.2) (fun p => [some (vr 172), some (vi p.1), some (vi p.2.1), none]) (fun p => (ms true μ p.2.2)) (fun p hp => ?_) (0, 0, σ) ⟨(inRk 0 rfl), (inRk 0 rfl), hok⟩
  obtain ⟨v1_1, v2_2, σ3⟩ := p
  obtain ⟨hv1_1, hv2_2, hσ3⟩ := hp
  try dsimp only
  unfold Mo_laysPauses_4_b
  refine Rk.sp (G_iload_n (pc := 4) 2 rfl rfl dX9_laysPauses_4) ?_
  refine Rk.sp (G_aload_n (pc := 5) 0 rfl rfl dX9_laysPauses_5) ?_
  refine Rk.gR (pc := 6) 173 flX9_7 cl9 rfl lb172 dX9_laysPauses_6 ?_
  refine Rk.sp (G_iconst (pc := 9) dX9_laysPauses_9) ?_
  refine Rk.alc (pc := 10) 3 rfl (Nat.le_of_ble_eq_true rfl) lb173 dX9_laysPauses_10 ?_
  refine Rk.icmp_ge (pc := 11) (tgt := 113) dX9_laysPauses_11 (nmI hv2_2) (nmI (hσ3 _ _)) rfl (fun hc4 => ?_) (fun hc4 => ?_)
  · refine Rk.sp (G_aload_n (pc := 14) 0 rfl rfl dX9_laysPauses_14) ?_
    refine Rk.sp (G_iload_n (pc := 15) 2 rfl rfl dX9_laysPauses_15) ?_
    refine Rk.cRZ (pc := 16) (Cl.v [vi v2_2] [] dX9_laysPauses_16 ckX9_439 lb172 rfl rfl rfl (Nat.le_of_ble_eq_true rfl) (Nat.le_of_ble_eq_true rfl)) (k_Mo_isAnswer v2_2 σ3 hv2_2 hσ3) (fun r5 hr5 => ?_)
    refine Rk.if_ne (pc := 19) (tgt := 25) dX9_laysPauses_19 (nmI (inZ.R hr5)) rfl (fun hc6 => ?_) (fun hc6 => ?_)
    · refine Rk.sp (G_goto (pc := 22) (tgt := 107) dX9_laysPauses_22 rfl) ?_
      refine Rk.inc (pc := 107) 2 (fun v2_7 => [some (vr 172), some (vi v1_1), some (vi v2_7), none]) rfl (Nat.le_of_ble_eq_true rfl) rfl dX9_laysPauses_107 (fun _ => rfl) (fun v2_7 hv2_7 => ?_)
      refine Rk.sp (G_goto (pc := 110) (tgt := 4) dX9_laysPauses_110 rfl) ?_
      exact Rk.end_ (fun h => h ⟨hv1_1, hv2_7, hσ3⟩)
    · refine Rk.sp (G_iload_n (pc := 25) 1 rfl rfl dX9_laysPauses_25) ?_
      refine Rk.isa_n (pc := 26) 3 (L' := [some (vr 172), some (vi v1_1), some (vi v2_2), some (vi v1_1)]) rfl (Nat.le_of_ble_eq_true rfl) rfl dX9_laysPauses_26 rfl ?_
      refine Rk.loop (pc := 27) (B := (fun p => Mo_laysPauses_27_b v2_2 v1_1 p.1 p.2)) (fun p => inR p.1 ∧ okS p.2) (fun p => [some (vr 172), some (vi v1_1), some (vi v2_2), some (vi p.1)]) (fun p => (ms true μ p.2)) (fun p hp => ?_) (v1_1, σ3) ⟨hv1_1, hσ3⟩
      obtain ⟨v3_8, σ9⟩ := p
      obtain ⟨hv3_8, hσ9⟩ := hp
      try dsimp only
      unfold Mo_laysPauses_27_b
      refine Rk.sp (G_iload_n (pc := 27) 3 rfl rfl dX9_laysPauses_27) ?_
      refine Rk.sel (A := 81) (B := 47) (st' := []) ?_ ?_ ?_
      · refine Rk.if_le (pc := 28) (tgt := 81) dX9_laysPauses_28 (nmI hv3_8) rfl (fun hc10 => ?_) (fun hc10 => ?_)
        · refine Rk.sp (G_aload_n (pc := 31) 0 rfl rfl dX9_laysPauses_31) ?_
          refine Rk.gR (pc := 32) 186 flX9_56 cl9 rfl lb172 dX9_laysPauses_32 ?_
          refine Rk.sp (G_iload_n (pc := 35) 3 rfl rfl dX9_laysPauses_35) ?_
          refine Rk.sp (G_iconst (pc := 36) dX9_laysPauses_36) ?_
          refine Rk.sp (G_isub (pc := 37) dX9_laysPauses_37) ?_
          refine Rk.al (pc := 38) lb186 dX9_laysPauses_38 (fun hi11 => ?_)
          refine Rk.sp (G_aload_n (pc := 39) 0 rfl rfl dX9_laysPauses_39) ?_
          refine Rk.sp (G_iload_n (pc := 40) 2 rfl rfl dX9_laysPauses_40) ?_
          refine Rk.cRI (pc := 41) (Cl.v [vi v2_2] [vi (σ9 186 ((v3_8 - 1)).toNat)] dX9_laysPauses_41 ckX9_442 lb172 rfl rfl rfl (Nat.le_of_ble_eq_true rfl) (Nat.le_of_ble_eq_true rfl)) (k_Mo_pauseOf v2_2 σ9 hv2_2 hσ9) (fun r12 hr12 => ?_)
          refine Rk.icmp_le (pc := 44) (tgt := 81) dX9_laysPauses_44 (nmI (hσ9 _ _)) (nmI hr12) rfl (fun hc13 => ?_) (fun hc13 => ?_)
          · exact Rk.end_ (fun h => h inZ0)
          · exact Rk.end_ (fun h => h inZ1)
        · exact Rk.end_ (fun h => h inZ1)
      · refine Rk.sp (G_aload_n (pc := 47) 0 rfl rfl dX9_laysPauses_47) ?_
        refine Rk.gR (pc := 48) 186 flX9_56 cl9 rfl lb172 dX9_laysPauses_48 ?_
        refine Rk.sp (G_iload_n (pc := 51) 3 rfl rfl dX9_laysPauses_51) ?_
        refine Rk.sp (G_aload_n (pc := 52) 0 rfl rfl dX9_laysPauses_52) ?_
        refine Rk.gR (pc := 53) 186 flX9_56 cl9 rfl lb172 dX9_laysPauses_53 ?_
        refine Rk.sp (G_iload_n (pc := 56) 3 rfl rfl dX9_laysPauses_56) ?_
        refine Rk.sp (G_iconst (pc := 57) dX9_laysPauses_57) ?_
        refine Rk.sp (G_isub (pc := 58) dX9_laysPauses_58) ?_
        refine Rk.al (pc := 59) lb186 dX9_laysPauses_59 (fun hi22 => ?_)
        refine Rk.as (pc := 60) hσ9 (nmI (hσ9 _ _)) lb186 dX9_laysPauses_60 (fun hi24 σ23 hσ23 => ?_)
        refine Rk.sp (G_aload_n (pc := 61) 0 rfl rfl dX9_laysPauses_61) ?_
        refine Rk.gR (pc := 62) 187 flX9_59 cl9 rfl lb172 dX9_laysPauses_62 ?_
        refine Rk.sp (G_iload_n (pc := 65) 3 rfl rfl dX9_laysPauses_65) ?_
        refine Rk.sp (G_aload_n (pc := 66) 0 rfl rfl dX9_laysPauses_66) ?_
        refine Rk.gR (pc := 67) 187 flX9_59 cl9 rfl lb172 dX9_laysPauses_67 ?_
        refine Rk.sp (G_iload_n (pc := 70) 3 rfl rfl dX9_laysPauses_70) ?_
        refine Rk.sp (G_iconst (pc := 71) dX9_laysPauses_71) ?_
        refine Rk.sp (G_isub (pc := 72) dX9_laysPauses_72) ?_
        refine Rk.al (pc := 73) lb187 dX9_laysPauses_73 (fun hi25 => ?_)
        refine Rk.as (pc := 74) hσ23 (nmI (hσ23 _ _)) lb187 dX9_laysPauses_74 (fun hi27 σ26 hσ26 => ?_)
        refine Rk.inc (pc := 75) 3 (fun v3_28 => [some (vr 172), some (vi v1_1), some (vi v2_2), some (vi v3_28)]) rfl (Nat.le_of_ble_eq_true rfl) rfl dX9_laysPauses_75 (fun _ => rfl) (fun v3_28 hv3_28 => ?_)
        refine Rk.sp (G_goto (pc := 78) (tgt := 27) dX9_laysPauses_78 rfl) ?_
        exact Rk.end_ (fun h => h ⟨hv3_28, hσ26⟩)
      · refine Rk.sp (G_aload_n (pc := 81) 0 rfl rfl dX9_laysPauses_81) ?_
        refine Rk.gR (pc := 82) 186 flX9_56 cl9 rfl lb172 dX9_laysPauses_82 ?_
        refine Rk.sp (G_iload_n (pc := 85) 3 rfl rfl dX9_laysPauses_85) ?_
        refine Rk.sp (G_aload_n (pc := 86) 0 rfl rfl dX9_laysPauses_86) ?_
        refine Rk.sp (G_iload_n (pc := 87) 2 rfl rfl dX9_laysPauses_87) ?_
        refine Rk.cRI (pc := 88) (Cl.v [vi v2_2] [vi v3_8, vr 186] dX9_laysPauses_88 ckX9_442 lb172 rfl rfl rfl (Nat.le_of_ble_eq_true rfl) (Nat.le_of_ble_eq_true rfl)) (k_Mo_pauseOf v2_2 σ9 hv2_2 hσ9) (fun r14 hr14 => ?_)
        refine Rk.as (pc := 91) hσ9 (nmI hr14) lb186 dX9_laysPauses_91 (fun hi16 σ15 hσ15 => ?_)
        refine Rk.sp (G_aload_n (pc := 92) 0 rfl rfl dX9_laysPauses_92) ?_
        refine Rk.gR (pc := 93) 187 flX9_59 cl9 rfl lb172 dX9_laysPauses_93 ?_
        refine Rk.sp (G_iload_n (pc := 96) 3 rfl rfl dX9_laysPauses_96) ?_
        refine Rk.sp (G_aload_n (pc := 97) 0 rfl rfl dX9_laysPauses_97) ?_
        refine Rk.sp (G_iload_n (pc := 98) 2 rfl rfl dX9_laysPauses_98) ?_
        refine Rk.sp (G_iconst (pc := 99) dX9_laysPauses_99) ?_
        refine Rk.cRI (pc := 100) (Cl.v [vi v2_2, vi 0] [vi v3_8, vr 187] dX9_laysPauses_100 ckX9_76 lb172 rfl rfl rfl (Nat.le_of_ble_eq_true rfl) (Nat.le_of_ble_eq_true rfl)) (k_Mo_of0 v2_2 0 σ15 hv2_2 (inRk 0 rfl) hσ15) (fun r17 hr17 => ?_)
        refine Rk.as (pc := 103) hσ15 (nmI hr17) lb187 dX9_laysPauses_103 (fun hi19 σ18 hσ18 => ?_)
        refine Rk.inc (pc := 104) 1 (fun v1_20 => [some (vr 172), some (vi v1_20), some (vi v2_2), some (vi v3_8)]) rfl (Nat.le_of_ble_eq_true rfl) rfl dX9_laysPauses_104 (fun _ => rfl) (fun v1_20 hv1_20 => ?_)
        refine Rk.inc (pc := 107) 2 (fun v2_21 => [some (vr 172), some (vi v1_20), some (vi v2_21), some (vi v3_8)]) rfl (Nat.le_of_ble_eq_true rfl) rfl dX9_laysPauses_107 (fun _ => rfl) (fun v2_21 hv2_21 => ?_)
        refine Rk.sp (G_goto (pc := 110) (tgt := 4) dX9_laysPauses_110 rfl) ?_
        refine Rk.fg [true, true, true, false] (L' := [some (vr 172), some (vi v1_20), some (vi v2_21), none]) rfl ?_
        exact Rk.end_ (fun h => h ⟨hv1_20, hv2_21, hσ18⟩)
  · refine Rk.sp (G_iload_n (pc := 113) 1 rfl rfl dX9_laysPauses_113) ?_
    exact Rk.end_ (fun h => G_ireturn (pc := 114) rfl dX9_laysPauses_114 (q_I h hv1_1 hσ3))
theorem k_Mo_look {κ : Kx} {μ : Sg} (a1 : Int) (σ : Sg) (ha1 : inR a1) (hok : okS σ) : CtRI κ mX9_look 1 [vr 172, vi a1] true μ σ (Mo_look a1 σ) := by
  intro r h
  refine con_of (by decide) (Nat.le_of_ble_eq_true rfl) 0 ?_
  refine (?_ : Rk κ mX9_look _ 0 [some (vr 172), some (vi a1)] [] (ms true μ σ) (Mo_look a1 σ) (fun a => a = r)) _ h rfl
  unfold Mo_look
  refine Rk.sp (G_iload_n (pc := 0) 1 rfl rfl dX9_look_0) ?_
  refine Rk.ite (fun hc1 => ?_) (fun hc1 => ?_)
  · refine Rk.tblI (pc := 1) (tgt := 60) 0 hc1 dX9_look_1 (nmI ha1) (by decide) (by decide) rfl rfl ?_
    refine Rk.sp (G_aload_n (pc := 60) 0 rfl rfl dX9_look_60) ?_
    refine Rk.gR (pc := 61) 173 flX9_7 cl9 rfl lb172 dX9_look_61 ?_
    refine Rk.sp (G_iconst (pc := 64) dX9_look_64) ?_
    refine Rk.alc (pc := 65) 0 rfl (Nat.le_of_ble_eq_true rfl) lb173 dX9_look_65 ?_
    exact Rk.end_ (fun h => G_ireturn (pc := 66) rfl dX9_look_66 (q_RI h (hok _ _)))
  · refine Rk.ite (fun hc2 => ?_) (fun hc2 => ?_)
    · refine Rk.tblI (pc := 1) (tgt := 67) 1 hc2 dX9_look_1 (nmI ha1) (by decide) (by decide) rfl rfl ?_
      refine Rk.sp (G_aload_n (pc := 67) 0 rfl rfl dX9_look_67) ?_
      refine Rk.gR (pc := 68) 173 flX9_7 cl9 rfl lb172 dX9_look_68 ?_
      refine Rk.sp (G_iconst (pc := 71) dX9_look_71) ?_
      refine Rk.alc (pc := 72) 3 rfl (Nat.le_of_ble_eq_true rfl) lb173 dX9_look_72 ?_
      exact Rk.end_ (fun h => G_ireturn (pc := 73) rfl dX9_look_73 (q_RI h (hok _ _)))
    · refine Rk.ite (fun hc3 => ?_) (fun hc3 => ?_)
      · refine Rk.tblI (pc := 1) (tgt := 74) 2 hc3 dX9_look_1 (nmI ha1) (by decide) (by decide) rfl rfl ?_
        refine Rk.sp (G_aload_n (pc := 74) 0 rfl rfl dX9_look_74) ?_
        refine Rk.cRI (pc := 75) (Cl.v [] [] dX9_look_75 ckX9_317 lb172 rfl rfl rfl (Nat.le_of_ble_eq_true rfl) (Nat.le_of_ble_eq_true rfl)) (k_Mo_hourNow σ hok) (fun r4 hr4 => ?_)
        exact Rk.end_ (fun h => G_ireturn (pc := 78) rfl dX9_look_78 (q_RI h hr4))
      · refine Rk.ite (fun hc5 => ?_) (fun hc5 => ?_)
        · refine Rk.tblI (pc := 1) (tgt := 79) 3 hc5 dX9_look_1 (nmI ha1) (by decide) (by decide) rfl rfl ?_
          refine Rk.sp (G_aload_n (pc := 79) 0 rfl rfl dX9_look_79) ?_
          refine Rk.gR (pc := 80) 173 flX9_7 cl9 rfl lb172 dX9_look_80 ?_
          refine Rk.sp (G_iconst (pc := 83) dX9_look_83) ?_
          refine Rk.alc (pc := 84) 2 rfl (Nat.le_of_ble_eq_true rfl) lb173 dX9_look_84 ?_
          exact Rk.end_ (fun h => G_ireturn (pc := 85) rfl dX9_look_85 (q_RI h (hok _ _)))
        · refine Rk.ite (fun hc6 => ?_) (fun hc6 => ?_)
          · refine Rk.tblI (pc := 1) (tgt := 86) 4 hc6 dX9_look_1 (nmI ha1) (by decide) (by decide) rfl rfl ?_
            refine Rk.sp (G_aload_n (pc := 86) 0 rfl rfl dX9_look_86) ?_
            refine Rk.gR (pc := 87) 173 flX9_7 cl9 rfl lb172 dX9_look_87 ?_
            refine Rk.sp (G_iconst (pc := 90) dX9_look_90) ?_
            refine Rk.alc (pc := 91) 1 rfl (Nat.le_of_ble_eq_true rfl) lb173 dX9_look_91 ?_
            exact Rk.end_ (fun h => G_ireturn (pc := 92) rfl dX9_look_92 (q_RI h (hok _ _)))
          · refine Rk.ite (fun hc7 => ?_) (fun hc7 => ?_)
            · refine Rk.tblI (pc := 1) (tgt := 93) 5 hc7 dX9_look_1 (nmI ha1) (by decide) (by decide) rfl rfl ?_
              refine Rk.sp (G_aload_n (pc := 93) 0 rfl rfl dX9_look_93) ?_
              refine Rk.gR (pc := 94) 173 flX9_7 cl9 rfl lb172 dX9_look_94 ?_
              refine Rk.sp (G_sipush (pc := 97) dX9_look_97 rfl) ?_
              refine Rk.alc (pc := 100) 550 rfl (Nat.le_of_ble_eq_true rfl) lb173 dX9_look_100 ?_
              exact Rk.end_ (fun h => G_ireturn (pc := 101) rfl dX9_look_101 (q_RI h (hok _ _)))
            · refine Rk.ite (fun hc8 => ?_) (fun hc8 => ?_)
              · refine Rk.tblI (pc := 1) (tgt := 102) 6 hc8 dX9_look_1 (nmI ha1) (by decide) (by decide) rfl rfl ?_
                refine Rk.sp (G_aload_n (pc := 102) 0 rfl rfl dX9_look_102) ?_
                refine Rk.gR (pc := 103) 173 flX9_7 cl9 rfl lb172 dX9_look_103 ?_
                refine Rk.sp (G_sipush (pc := 106) dX9_look_106 rfl) ?_
                refine Rk.alc (pc := 109) 551 rfl (Nat.le_of_ble_eq_true rfl) lb173 dX9_look_109 ?_
                exact Rk.end_ (fun h => G_ireturn (pc := 110) rfl dX9_look_110 (q_RI h (hok _ _)))
              · refine Rk.ite (fun hc9 => ?_) (fun hc9 => ?_)
                · refine Rk.tblI (pc := 1) (tgt := 111) 7 hc9 dX9_look_1 (nmI ha1) (by decide) (by decide) rfl rfl ?_
                  refine Rk.sp (G_aload_n (pc := 111) 0 rfl rfl dX9_look_111) ?_
                  refine Rk.gR (pc := 112) 173 flX9_7 cl9 rfl lb172 dX9_look_112 ?_
                  refine Rk.sp (G_sipush (pc := 115) dX9_look_115 rfl) ?_
                  refine Rk.alc (pc := 118) 552 rfl (Nat.le_of_ble_eq_true rfl) lb173 dX9_look_118 ?_
                  exact Rk.end_ (fun h => G_ireturn (pc := 119) rfl dX9_look_119 (q_RI h (hok _ _)))
                · refine Rk.ite (fun hc10 => ?_) (fun hc10 => ?_)
                  · refine Rk.tblI (pc := 1) (tgt := 120) 8 hc10 dX9_look_1 (nmI ha1) (by decide) (by decide) rfl rfl ?_
                    refine Rk.sp (G_aload_n (pc := 120) 0 rfl rfl dX9_look_120) ?_
                    refine Rk.gR (pc := 121) 173 flX9_7 cl9 rfl lb172 dX9_look_121 ?_
                    refine Rk.sp (G_sipush (pc := 124) dX9_look_124 rfl) ?_
                    refine Rk.alc (pc := 127) 553 rfl (Nat.le_of_ble_eq_true rfl) lb173 dX9_look_127 ?_
                    exact Rk.end_ (fun h => G_ireturn (pc := 128) rfl dX9_look_128 (q_RI h (hok _ _)))
                  · refine Rk.ite (fun hc11 => ?_) (fun hc11 => ?_)
                    · refine Rk.tblI (pc := 1) (tgt := 129) 9 hc11 dX9_look_1 (nmI ha1) (by decide) (by decide) rfl rfl ?_
                      refine Rk.sp (G_aload_n (pc := 129) 0 rfl rfl dX9_look_129) ?_
                      refine Rk.gR (pc := 130) 173 flX9_7 cl9 rfl lb172 dX9_look_130 ?_
                      refine Rk.sp (G_sipush (pc := 133) dX9_look_133 rfl) ?_
                      refine Rk.alc (pc := 136) 554 rfl (Nat.le_of_ble_eq_true rfl) lb173 dX9_look_136 ?_
                      exact Rk.end_ (fun h => G_ireturn (pc := 137) rfl dX9_look_137 (q_RI h (hok _ _)))
                    · refine Rk.ite (fun hc12 => ?_) (fun hc12 => ?_)
                      · refine Rk.tblI (pc := 1) (tgt := 138) 10 hc12 dX9_look_1 (nmI ha1) (by decide) (by decide) rfl rfl ?_
                        refine Rk.sp (G_aload_n (pc := 138) 0 rfl rfl dX9_look_138) ?_
                        refine Rk.gI (pc := 139) flX9_83 cl9 rfl lb172 dX9_look_139 ?_
                        exact Rk.end_ (fun h => G_ireturn (pc := 142) rfl dX9_look_142 (q_RI h (hok _ _)))
                      · refine Rk.tblO (pc := 1) (tgt := 143) dX9_look_1 (nmI ha1) (by omega) rfl ?_
                        refine Rk.sp (G_iconst (pc := 143) dX9_look_143) ?_
                        exact Rk.end_ (fun h => G_ireturn (pc := 144) rfl dX9_look_144 (q_RI h (inRk (-1) rfl)))
theorem k_Mo_message {κ : Kx} {μ : Sg} (a1 : Int) (a2 : Int) (σ : Sg) (ha1 : inR a1) (ha2 : inR a2) (hok : okS σ) : CtRI κ mX9_message 2 [vr 172, vi a1, vi a2] true μ σ (Mo_message a1 a2 σ) := by
  intro r h
  refine con_of (by decide) (Nat.le_of_ble_eq_true rfl) 0 ?_
  refine (?_ : Rk κ mX9_message _ 0 [some (vr 172), some (vi a1), some (vi a2)] [] (ms true μ σ) (Mo_message a1 a2 σ) (fun a => a = r)) _ h rfl
  unfold Mo_message
  refine Rk.sp (G_aload_n (pc := 0) 0 rfl rfl dX9_message_0) ?_
  refine Rk.sp (G_iload_n (pc := 1) 1 rfl rfl dX9_message_1) ?_
  refine Rk.cRZ (pc := 2) (Cl.v [vi a1] [] dX9_message_2 ckX9_351 lb172 rfl rfl rfl (Nat.le_of_ble_eq_true rfl) (Nat.le_of_ble_eq_true rfl)) (k_Mo_isMessage a1 σ ha1 hok) (fun r1 hr1 => ?_)
  refine Rk.if_eq (pc := 5) (tgt := 27) dX9_message_5 (nmI (inZ.R hr1)) rfl (fun hc2 => ?_) (fun hc2 => ?_)
  · refine Rk.sp (G_bipush (pc := 27) dX9_message_27 rfl) ?_
    exact Rk.end_ (fun h => G_ireturn (pc := 29) rfl dX9_message_29 (q_RI h (inRk (-2) rfl)))
  · refine Rk.sp (G_iload_n (pc := 8) 2 rfl rfl dX9_message_8) ?_
    refine Rk.sp (G_iconst (pc := 9) dX9_message_9) ?_
    refine Rk.sp (G_bipush (pc := 10) dX9_message_10 rfl) ?_
    refine Rk.cRZ (pc := 12) (Cl.s [vi a2, vi 0, vi 8] [] dX9_message_12 ckX9_72 rfl rfl (Nat.le_of_ble_eq_true rfl) (Nat.le_of_ble_eq_true rfl)) (k_Mo_isIn a2 0 8 ha2 (inRk 0 rfl) (inRk 8 rfl)) (fun r3 hr3 => ?_)
    refine Rk.if_eq (pc := 15) (tgt := 27) dX9_message_15 (nmI (inZ.R hr3)) rfl (fun hc4 => ?_) (fun hc4 => ?_)
    · refine Rk.sp (G_bipush (pc := 27) dX9_message_27 rfl) ?_
      exact Rk.end_ (fun h => G_ireturn (pc := 29) rfl dX9_message_29 (q_RI h (inRk (-2) rfl)))
    · refine Rk.sp (G_aload_n (pc := 18) 0 rfl rfl dX9_message_18) ?_
      refine Rk.sp (G_iload_n (pc := 19) 1 rfl rfl dX9_message_19) ?_
      refine Rk.sp (G_iload_n (pc := 20) 2 rfl rfl dX9_message_20) ?_
      refine Rk.cRI (pc := 21) (Cl.v [vi a1, vi a2] [] dX9_message_21 ckX9_76 lb172 rfl rfl rfl (Nat.le_of_ble_eq_true rfl) (Nat.le_of_ble_eq_true rfl)) (k_Mo_of0 a1 a2 σ ha1 ha2 hok) (fun r5 hr5 => ?_)
      refine Rk.sp (G_goto (pc := 24) (tgt := 29) dX9_message_24 rfl) ?_
      exact Rk.end_ (fun h => G_ireturn (pc := 29) rfl dX9_message_29 (q_RI h hr5))
theorem k_Mo_minutes {κ : Kx} {μ : Sg} (a1 : Int) (σ : Sg) (ha1 : inR a1) (hok : okS σ) : CtI κ mX9_minutes 7 [vr 172, vi a1] true μ σ (Mo_minutes a1 σ) := by
  intro r τ h
  refine con_of (by decide) (Nat.le_of_ble_eq_true rfl) 2 ?_
  refine (?_ : Rk κ mX9_minutes _ 0 [some (vr 172), some (vi a1), none, none] [] (ms true μ σ) (Mo_minutes a1 σ) (fun a => a = (r, τ))) _ h rfl
  unfold Mo_minutes
  refine Rk.sp (G_iload_n (pc := 0) 1 rfl rfl dX9_minutes_0) ?_
  refine Rk.sp (G_iconst (pc := 1) dX9_minutes_1) ?_
  refine Rk.sp (G_sipush (pc := 2) dX9_minutes_2 rfl) ?_
  refine Rk.cRZ (pc := 5) (Cl.s [vi a1, vi 1, vi 300] [] dX9_minutes_5 ckX9_72 rfl rfl (Nat.le_of_ble_eq_true rfl) (Nat.le_of_ble_eq_true rfl)) (k_Mo_isIn a1 1 300 ha1 (inRk 1 rfl) (inRk 300 rfl)) (fun r1 hr1 => ?_)
  refine Rk.if_eq (pc := 8) (tgt := 25) dX9_minutes_8 (nmI (inZ.R hr1)) rfl (fun hc2 => ?_) (fun hc2 => ?_)
  · refine Rk.sp (G_iconst (pc := 25) dX9_minutes_25) ?_
    exact Rk.end_ (fun h => G_ireturn (pc := 26) rfl dX9_minutes_26 (q_I h (inRk (-1) rfl) hok))
  · refine Rk.sp (G_aload_n (pc := 11) 0 rfl rfl dX9_minutes_11) ?_
    refine Rk.gR (pc := 12) 173 flX9_7 cl9 rfl lb172 dX9_minutes_12 ?_
    refine Rk.sp (G_iconst (pc := 15) dX9_minutes_15) ?_
    refine Rk.alc (pc := 16) 0 rfl (Nat.le_of_ble_eq_true rfl) lb173 dX9_minutes_16 ?_
    refine Rk.sp (G_iload_n (pc := 17) 1 rfl rfl dX9_minutes_17) ?_
    refine Rk.sp (G_iadd (pc := 18) dX9_minutes_18) ?_
    refine Rk.sp (G_ldcw (pc := 19) (n := 99999) dX9_minutes_19 conX9_401 (by decide)) ?_
    refine Rk.icmp_le (pc := 22) (tgt := 27) dX9_minutes_22 (nmW _) (nmI (inRk 99999 rfl)) rfl (fun hc3 => ?_) (fun hc3 => ?_)
    · refine Rk.sp (G_iconst (pc := 25) dX9_minutes_25) ?_
      exact Rk.end_ (fun h => G_ireturn (pc := 26) rfl dX9_minutes_26 (q_I h (inRk (-1) rfl) hok))
    · refine Rk.sp (G_iconst (pc := 27) dX9_minutes_27) ?_
      refine Rk.isa_n (pc := 28) 2 (L' := [some (vr 172), some (vi a1), some (vi 0), none]) rfl (Nat.le_of_ble_eq_true rfl) rfl dX9_minutes_28 rfl ?_
      refine Rk.sp (G_iconst (pc := 29) dX9_minutes_29) ?_
      refine Rk.isa_n (pc := 30) 3 (L' := [some (vr 172), some (vi a1), some (vi 0), some (vi 0)]) rfl (Nat.le_of_ble_eq_true rfl) rfl dX9_minutes_30 rfl ?_
      refine Rk.loop (pc := 31) (B := (fun p => Mo_minutes_31_b a1 p.1 p.2.1 p.2.2)) (fun p => inR p.1 ∧ inR p.2.1 ∧ okS p.2.2) (fun p => [some (vr 172), some (vi a1), some (vi p.1), some (vi p.2.1)]) (fun p => (ms true μ p.2.2)) (fun p hp => ?_) (0, 0, σ) ⟨(inRk 0 rfl), (inRk 0 rfl), hok⟩
      obtain ⟨v2_4, v3_5, σ6⟩ := p
      obtain ⟨hv2_4, hv3_5, hσ6⟩ := hp
      try dsimp only
      unfold Mo_minutes_31_b
      refine Rk.sp (G_iload_n (pc := 31) 3 rfl rfl dX9_minutes_31) ?_
      refine Rk.sp (G_iload_n (pc := 32) 1 rfl rfl dX9_minutes_32) ?_
      refine Rk.icmp_ge (pc := 33) (tgt := 53) dX9_minutes_33 (nmI hv3_5) (nmI ha1) rfl (fun hc7 => ?_) (fun hc7 => ?_)
      · refine Rk.sp (G_aload_n (pc := 36) 0 rfl rfl dX9_minutes_36) ?_
        refine Rk.cV (pc := 37) (Cl.v [] [] dX9_minutes_37 ckX9_345 lb172 rfl rfl rfl (Nat.le_of_ble_eq_true rfl) (Nat.le_of_ble_eq_true rfl)) (k_Mo_keeps σ6 hσ6) (fun σ8 hσ8 => ?_)
        refine Rk.sp (G_iload_n (pc := 40) 2 rfl rfl dX9_minutes_40) ?_
        refine Rk.sp (G_aload_n (pc := 41) 0 rfl rfl dX9_minutes_41) ?_
        refine Rk.cI (pc := 42) (Cl.v [] [vi v2_4] dX9_minutes_42 ckX9_402 lb172 rfl rfl rfl (Nat.le_of_ble_eq_true rfl) (Nat.le_of_ble_eq_true rfl)) (k_Mo_aMinute σ8 hσ8) (fun r9 σ10 hr9 hσ10 => ?_)
        refine Rk.sp (G_iadd (pc := 45) dX9_minutes_45) ?_
        refine Rk.ist_n (pc := 46) 2 (fun v2_11 => [some (vr 172), some (vi a1), some (vi v2_11), some (vi v3_5)]) rfl (Nat.le_of_ble_eq_true rfl) rfl dX9_minutes_46 (nmW _) (fun _ => rfl) (fun v2_11 hv2_11 => ?_)
        refine Rk.inc (pc := 47) 3 (fun v3_12 => [some (vr 172), some (vi a1), some (vi v2_11), some (vi v3_12)]) rfl (Nat.le_of_ble_eq_true rfl) rfl dX9_minutes_47 (fun _ => rfl) (fun v3_12 hv3_12 => ?_)
        refine Rk.sp (G_goto (pc := 50) (tgt := 31) dX9_minutes_50 rfl) ?_
        exact Rk.end_ (fun h => h ⟨hv2_11, hv3_12, hσ10⟩)
      · refine Rk.sp (G_iload_n (pc := 53) 2 rfl rfl dX9_minutes_53) ?_
        exact Rk.end_ (fun h => G_ireturn (pc := 54) rfl dX9_minutes_54 (q_I h hv2_4 hσ6))
theorem k_Mo_mirrors {κ : Kx} {μ : Sg} (a1 : Int) (a2 : Int) (σ : Sg) (ha1 : inR a1) (ha2 : inR a2) (hok : okS σ) : CtI κ mX9_mirrors 5 [vr 172, vi a1, vi a2] true μ σ (Mo_mirrors a1 a2 σ) := by
  intro r τ h
  refine con_of (by decide) (Nat.le_of_ble_eq_true rfl) 3 ?_
  refine (?_ : Rk κ mX9_mirrors _ 0 [some (vr 172), some (vi a1), some (vi a2), none, none, none] [] (ms true μ σ) (Mo_mirrors a1 a2 σ) (fun a => a = (r, τ))) _ h rfl
  unfold Mo_mirrors
  refine Rk.sp (G_iload_n (pc := 0) 1 rfl rfl dX9_mirrors_0) ?_
  refine Rk.sp (G_iconst (pc := 1) dX9_mirrors_1) ?_
  refine Rk.sp (G_bipush (pc := 2) dX9_mirrors_2 rfl) ?_
  refine Rk.cRZ (pc := 4) (Cl.s [vi a1, vi 1, vi 99] [] dX9_mirrors_4 ckX9_72 rfl rfl (Nat.le_of_ble_eq_true rfl) (Nat.le_of_ble_eq_true rfl)) (k_Mo_isIn a1 1 99 ha1 (inRk 1 rfl) (inRk 99 rfl)) (fun r1 hr1 => ?_)
  refine Rk.if_eq (pc := 7) (tgt := 19) dX9_mirrors_7 (nmI (inZ.R hr1)) rfl (fun hc2 => ?_) (fun hc2 => ?_)
  · refine Rk.sp (G_iconst (pc := 19) dX9_mirrors_19) ?_
    exact Rk.end_ (fun h => G_ireturn (pc := 20) rfl dX9_mirrors_20 (q_I h (inRk (-1) rfl) hok))
  · refine Rk.sp (G_iload_n (pc := 10) 2 rfl rfl dX9_mirrors_10) ?_
    refine Rk.sp (G_iconst (pc := 11) dX9_mirrors_11) ?_
    refine Rk.sp (G_iconst (pc := 12) dX9_mirrors_12) ?_
    refine Rk.cRZ (pc := 13) (Cl.s [vi a2, vi 0, vi 1] [] dX9_mirrors_13 ckX9_72 rfl rfl (Nat.le_of_ble_eq_true rfl) (Nat.le_of_ble_eq_true rfl)) (k_Mo_isIn a2 0 1 ha2 (inRk 0 rfl) (inRk 1 rfl)) (fun r3 hr3 => ?_)
    refine Rk.if_ne (pc := 16) (tgt := 21) dX9_mirrors_16 (nmI (inZ.R hr3)) rfl (fun hc4 => ?_) (fun hc4 => ?_)
    · refine Rk.sp (G_iconst (pc := 19) dX9_mirrors_19) ?_
      exact Rk.end_ (fun h => G_ireturn (pc := 20) rfl dX9_mirrors_20 (q_I h (inRk (-1) rfl) hok))
    · refine Rk.sp (G_iload_n (pc := 21) 1 rfl rfl dX9_mirrors_21) ?_
      refine Rk.isa_n (pc := 22) 3 (L' := [some (vr 172), some (vi a1), some (vi a2), some (vi a1), none, none]) rfl (Nat.le_of_ble_eq_true rfl) rfl dX9_mirrors_22 rfl ?_
      refine Rk.sp (G_iconst (pc := 23) dX9_mirrors_23) ?_
      refine Rk.isa_w (pc := 24) 4 (L' := [some (vr 172), some (vi a1), some (vi a2), some (vi a1), some (vi 1), none]) (Nat.le_of_ble_eq_true rfl) rfl dX9_mirrors_24 rfl ?_
      refine Rk.fg [true, false, true, true, true, false] (L' := [some (vr 172), none, some (vi a2), some (vi a1), some (vi 1), none]) rfl ?_
      refine Rk.loop (pc := 26) (B := (fun p => Mo_mirrors_26_b a2 p.1 p.2.1 p.2.2)) (fun p => inR p.1 ∧ inR p.2.1 ∧ okS p.2.2) (fun p => [some (vr 172), none, some (vi a2), some (vi p.1), some (vi p.2.1), none]) (fun p => (ms true μ p.2.2)) (fun p hp => ?_) (a1, 1, σ) ⟨ha1, (inRk 1 rfl), hok⟩
      obtain ⟨v3_5, v4_6, σ7⟩ := p
      obtain ⟨hv3_5, hv4_6, hσ7⟩ := hp
      try dsimp only
      unfold Mo_mirrors_26_b
      refine Rk.sp (G_iload_w (pc := 26) 4 rfl dX9_mirrors_26) ?_
      refine Rk.sp (G_bipush (pc := 28) dX9_mirrors_28 rfl) ?_
      refine Rk.icmp_gt (pc := 30) (tgt := 79) dX9_mirrors_30 (nmI hv4_6) (nmI (inRk 60 rfl)) rfl (fun hc8 => ?_) (fun hc8 => ?_)
      · refine Rk.sp (G_iload_n (pc := 79) 2 rfl rfl dX9_mirrors_79) ?_
        refine Rk.if_ne (pc := 80) (tgt := 87) dX9_mirrors_80 (nmI ha2) rfl (fun hc9 => ?_) (fun hc9 => ?_)
        · refine Rk.sp (G_iconst (pc := 83) dX9_mirrors_83) ?_
          refine Rk.sp (G_goto (pc := 84) (tgt := 88) dX9_mirrors_84 rfl) ?_
          exact Rk.end_ (fun h => G_ireturn (pc := 88) rfl dX9_mirrors_88 (q_I h (inRk (-1) rfl) hσ7))
        · refine Rk.sp (G_iload_n (pc := 87) 3 rfl rfl dX9_mirrors_87) ?_
          exact Rk.end_ (fun h => G_ireturn (pc := 88) rfl dX9_mirrors_88 (q_I h hv3_5 hσ7))
      · refine Rk.sp (G_aload_n (pc := 33) 0 rfl rfl dX9_mirrors_33) ?_
        refine Rk.sp (G_iload_w (pc := 34) 4 rfl dX9_mirrors_34) ?_
        refine Rk.sp (G_iconst (pc := 36) dX9_mirrors_36) ?_
        refine Rk.sp (G_isub (pc := 37) dX9_mirrors_37) ?_
        refine Rk.sp (G_iconst (pc := 38) dX9_mirrors_38) ?_
        refine Rk.sp (G_irem (pc := 39) dX9_mirrors_39 (nmW _) (nmI (inRk 2 rfl)) (by decide)) ?_
        refine Rk.sp (G_iload_n (pc := 40) 3 rfl rfl dX9_mirrors_40) ?_
        refine Rk.sp (G_iconst (pc := 41) dX9_mirrors_41) ?_
        refine Rk.sp (G_iconst (pc := 42) dX9_mirrors_42) ?_
        refine Rk.cV (pc := 43) (Cl.v [vi (Int.tmod (wr (v4_6 - 1)) 2), vi v3_5, vi 0, vi 0] [] dX9_mirrors_43 ckX9_323 lb172 rfl rfl rfl (Nat.le_of_ble_eq_true rfl) (Nat.le_of_ble_eq_true rfl)) (k_Mo_lays (Int.tmod (wr (v4_6 - 1)) 2) v3_5 0 0 σ7 (tmodR (wrR _)) hv3_5 (inRk 0 rfl) (inRk 0 rfl) hσ7) (fun σ10 hσ10 => ?_)
        refine Rk.sp (G_aload_n (pc := 46) 0 rfl rfl dX9_mirrors_46) ?_
        refine Rk.cI (pc := 47) (Cl.v [] [] dX9_mirrors_47 ckX9_382 lb172 rfl rfl rfl (Nat.le_of_ble_eq_true rfl) (Nat.le_of_ble_eq_true rfl)) (k_Mo_lastsNow σ10 hσ10) (fun r11 σ12 hr11 hσ12 => ?_)
        refine Rk.isa_w (pc := 50) 5 (L' := [some (vr 172), none, some (vi a2), some (vi v3_5), some (vi v4_6), some (vi r11)]) (Nat.le_of_ble_eq_true rfl) rfl dX9_mirrors_50 rfl ?_
        refine Rk.sp (G_iload_w (pc := 52) 5 rfl dX9_mirrors_52) ?_
        refine Rk.sp (G_iload_n (pc := 54) 3 rfl rfl dX9_mirrors_54) ?_
        refine Rk.icmp_ne (pc := 55) (tgt := 70) dX9_mirrors_55 (nmI hr11) (nmI hv3_5) rfl (fun hc13 => ?_) (fun hc13 => ?_)
        · refine Rk.sp (G_iload_n (pc := 58) 2 rfl rfl dX9_mirrors_58) ?_
          refine Rk.if_ne (pc := 59) (tgt := 67) dX9_mirrors_59 (nmI ha2) rfl (fun hc14 => ?_) (fun hc14 => ?_)
          · refine Rk.sp (G_iload_w (pc := 62) 4 rfl dX9_mirrors_62) ?_
            refine Rk.sp (G_goto (pc := 64) (tgt := 69) dX9_mirrors_64 rfl) ?_
            exact Rk.end_ (fun h => G_ireturn (pc := 69) rfl dX9_mirrors_69 (q_I h hv4_6 hσ12))
          · refine Rk.sp (G_iload_w (pc := 67) 5 rfl dX9_mirrors_67) ?_
            exact Rk.end_ (fun h => G_ireturn (pc := 69) rfl dX9_mirrors_69 (q_I h hr11 hσ12))
        · refine Rk.sp (G_iload_w (pc := 70) 5 rfl dX9_mirrors_70) ?_
          refine Rk.isa_n (pc := 72) 3 (L' := [some (vr 172), none, some (vi a2), some (vi r11), some (vi v4_6), some (vi r11)]) rfl (Nat.le_of_ble_eq_true rfl) rfl dX9_mirrors_72 rfl ?_
          refine Rk.inc (pc := 73) 4 (fun v4_15 => [some (vr 172), none, some (vi a2), some (vi r11), some (vi v4_15), some (vi r11)]) rfl (Nat.le_of_ble_eq_true rfl) rfl dX9_mirrors_73 (fun _ => rfl) (fun v4_15 hv4_15 => ?_)
          refine Rk.sp (G_goto (pc := 76) (tgt := 26) dX9_mirrors_76 rfl) ?_
          refine Rk.fg [true, false, true, true, true, false] (L' := [some (vr 172), none, some (vi a2), some (vi r11), some (vi v4_15), none]) rfl ?_
          exact Rk.end_ (fun h => h ⟨hr11, hv4_15, hσ12⟩)
theorem k_Mo_needs {κ : Kx} {μ : Sg} (a1 : Int) (a2 : Int) (σ : Sg) (ha1 : inR a1) (ha2 : inR a2) (hok : okS σ) : CtRI κ mX9_needs 1 [vr 172, vi a1, vi a2] true μ σ (Mo_needs a1 a2 σ) := by
  intro r h
  refine con_of (by decide) (Nat.le_of_ble_eq_true rfl) 3 ?_
  refine (?_ : Rk κ mX9_needs _ 0 [some (vr 172), some (vi a1), some (vi a2), none, none, none] [] (ms true μ σ) (Mo_needs a1 a2 σ) (fun a => a = r)) _ h rfl
  unfold Mo_needs
  refine Rk.sp (G_iload_n (pc := 0) 1 rfl rfl dX9_needs_0) ?_
  refine Rk.sp (G_iconst (pc := 1) dX9_needs_1) ?_
  refine Rk.sp (G_sipush (pc := 2) dX9_needs_2 rfl) ?_
  refine Rk.cRZ (pc := 5) (Cl.s [vi a1, vi 0, vi 1000] [] dX9_needs_5 ckX9_72 rfl rfl (Nat.le_of_ble_eq_true rfl) (Nat.le_of_ble_eq_true rfl)) (k_Mo_isIn a1 0 1000 ha1 (inRk 0 rfl) (inRk 1000 rfl)) (fun r1 hr1 => ?_)
  refine Rk.if_eq (pc := 8) (tgt := 29) dX9_needs_8 (nmI (inZ.R hr1)) rfl (fun hc2 => ?_) (fun hc2 => ?_)
  · refine Rk.sp (G_iconst (pc := 29) dX9_needs_29) ?_
    exact Rk.end_ (fun h => G_ireturn (pc := 30) rfl dX9_needs_30 (q_RI h (inRk (-1) rfl)))
  · refine Rk.sp (G_iload_n (pc := 11) 2 rfl rfl dX9_needs_11) ?_
    refine Rk.sp (G_iconst (pc := 12) dX9_needs_12) ?_
    refine Rk.sp (G_aload_n (pc := 13) 0 rfl rfl dX9_needs_13) ?_
    refine Rk.gR (pc := 14) 173 flX9_7 cl9 rfl lb172 dX9_needs_14 ?_
    refine Rk.sp (G_sipush (pc := 17) dX9_needs_17 rfl) ?_
    refine Rk.alc (pc := 20) 553 rfl (Nat.le_of_ble_eq_true rfl) lb173 dX9_needs_20 ?_
    refine Rk.sp (G_iconst (pc := 21) dX9_needs_21) ?_
    refine Rk.sp (G_isub (pc := 22) dX9_needs_22) ?_
    refine Rk.sp (Go.n0 (nmW _)) ?_
    refine Rk.cRZ (pc := 23) (Cl.s [vi a2, vi 0, vi (wr ((σ 173 553) - 1))] [] dX9_needs_23 ckX9_72 rfl rfl (Nat.le_of_ble_eq_true rfl) (Nat.le_of_ble_eq_true rfl)) (k_Mo_isIn a2 0 (wr ((σ 173 553) - 1)) ha2 (inRk 0 rfl) (wrR _)) (fun r3 hr3 => ?_)
    refine Rk.if_ne (pc := 26) (tgt := 31) dX9_needs_26 (nmI (inZ.R hr3)) rfl (fun hc4 => ?_) (fun hc4 => ?_)
    · refine Rk.sp (G_iconst (pc := 29) dX9_needs_29) ?_
      exact Rk.end_ (fun h => G_ireturn (pc := 30) rfl dX9_needs_30 (q_RI h (inRk (-1) rfl)))
    · refine Rk.sp (G_ldc2 (pc := 31) (n := 1000) dX9_needs_31 conjX9_423 (by decide)) ?_
      refine Rk.sp (G_iload_n (pc := 34) 1 rfl rfl dX9_needs_34) ?_
      refine Rk.sp (G_i2l (pc := 35) dX9_needs_35 (nmI ha1)) ?_
      refine Rk.sp (G_lmul (pc := 36) dX9_needs_36) ?_
      refine Rk.lst_n (pc := 37) 3 (fun v3_5 => [some (vr 172), some (vi a1), some (vi a2), some (vl v3_5), none, none]) rfl (Nat.le_of_ble_eq_true rfl) rfl dX9_needs_37 (nmjW _) (fun _ => rfl) (fun v3_5 hv3_5 => ?_)
      refine Rk.sp (G_iconst (pc := 38) dX9_needs_38) ?_
      refine Rk.isa_w (pc := 39) 5 (L' := [some (vr 172), some (vi a1), some (vi a2), some (vl v3_5), none, some (vi 0)]) (Nat.le_of_ble_eq_true rfl) rfl dX9_needs_39 rfl ?_
      refine Rk.fg [true, false, true, true, false, true] (L' := [some (vr 172), none, some (vi a2), some (vl v3_5), none, some (vi 0)]) rfl ?_
      refine Rk.loop (pc := 41) (B := (fun p => Mo_needs_41_b a2 σ p.1 p.2)) (fun p => inJ p.1 ∧ inR p.2) (fun p => [some (vr 172), none, some (vi a2), some (vl p.1), none, some (vi p.2)]) (fun p => (ms true μ σ)) (fun p hp => ?_) (v3_5, 0) ⟨hv3_5, (inRk 0 rfl)⟩
      obtain ⟨v3_6, v5_7⟩ := p
      obtain ⟨hv3_6, hv5_7⟩ := hp
      try dsimp only
      unfold Mo_needs_41_b
      refine Rk.sp (G_iload_w (pc := 41) 5 rfl dX9_needs_41) ?_
      refine Rk.sp (G_bipush (pc := 43) dX9_needs_43 rfl) ?_
      refine Rk.icmp_gt (pc := 45) (tgt := 73) dX9_needs_45 (nmI hv5_7) (nmI (inRk 60 rfl)) rfl (fun hc8 => ?_) (fun hc8 => ?_)
      · refine Rk.sp (G_iconst (pc := 73) dX9_needs_73) ?_
        exact Rk.end_ (fun h => G_ireturn (pc := 74) rfl dX9_needs_74 (q_RI h (inRk (-1) rfl)))
      · refine Rk.sp (G_lload_n (pc := 48) 3 rfl rfl dX9_needs_48) ?_
        refine Rk.sp (G_ldc2 (pc := 49) (n := 500000) dX9_needs_49 conjX9_429 (by decide)) ?_
        refine Rk.sp (G_lcmp (pc := 52) dX9_needs_52 (nmjI hv3_6) (nmjI (inJk 500000 rfl))) ?_
        refine Rk.if_lt (pc := 53) (tgt := 59) dX9_needs_53 (nmI (cmpJ_R _ _)) rfl (fun hc9 => ?_) (fun hc9 => ?_)
        · refine Rk.sp (G_aload_n (pc := 59) 0 rfl rfl dX9_needs_59) ?_
          refine Rk.sp (G_lload_n (pc := 60) 3 rfl rfl dX9_needs_60) ?_
          refine Rk.sp (G_iload_n (pc := 61) 2 rfl rfl dX9_needs_61) ?_
          refine Rk.sp (G_iconst (pc := 62) dX9_needs_62) ?_
          refine Rk.cRJ (pc := 63) (Cl.v [vl v3_6, vi a2, vi 1] [] dX9_needs_63 ckX9_425 lb172 rfl rfl rfl (Nat.le_of_ble_eq_true rfl) (Nat.le_of_ble_eq_true rfl)) (k_Mo_bySign v3_6 a2 1 σ hv3_6 ha2 (inRk 1 rfl) hok) (fun r10 hr10 => ?_)
          refine Rk.lst_n (pc := 66) 3 (fun v3_11 => [some (vr 172), none, some (vi a2), some (vl v3_11), none, some (vi v5_7)]) rfl (Nat.le_of_ble_eq_true rfl) rfl dX9_needs_66 (nmjI hr10) (fun _ => rfl) (fun v3_11 hv3_11 => ?_)
          refine Rk.inc (pc := 67) 5 (fun v5_12 => [some (vr 172), none, some (vi a2), some (vl v3_11), none, some (vi v5_12)]) rfl (Nat.le_of_ble_eq_true rfl) rfl dX9_needs_67 (fun _ => rfl) (fun v5_12 hv5_12 => ?_)
          refine Rk.sp (G_goto (pc := 70) (tgt := 41) dX9_needs_70 rfl) ?_
          exact Rk.end_ (fun h => h ⟨hv3_11, hv5_12⟩)
        · refine Rk.sp (G_iload_w (pc := 56) 5 rfl dX9_needs_56) ?_
          exact Rk.end_ (fun h => G_ireturn (pc := 58) rfl dX9_needs_58 (q_RI h hv5_7))
theorem k_Mo_of {κ : Kx} {μ : Sg} (a1 : Int) (a2 : Int) (σ : Sg) (ha1 : inR a1) (ha2 : inR a2) (hok : okS σ) : CtRI κ mX9_of 2 [vr 172, vi a1, vi a2] true μ σ (Mo_of a1 a2 σ) := by
  intro r h
  refine con_of (by decide) (Nat.le_of_ble_eq_true rfl) 0 ?_
  refine (?_ : Rk κ mX9_of _ 0 [some (vr 172), some (vi a1), some (vi a2)] [] (ms true μ σ) (Mo_of a1 a2 σ) (fun a => a = r)) _ h rfl
  unfold Mo_of
  refine Rk.sp (G_iload_n (pc := 0) 1 rfl rfl dX9_of_0) ?_
  refine Rk.cRZ (pc := 1) (Cl.s [vi a1] [] dX9_of_1 ckX9_91 rfl rfl (Nat.le_of_ble_eq_true rfl) (Nat.le_of_ble_eq_true rfl)) (k_Mo_isOne a1 ha1) (fun r1 hr1 => ?_)
  refine Rk.if_ne (pc := 4) (tgt := 9) dX9_of_4 (nmI (inZ.R hr1)) rfl (fun hc2 => ?_) (fun hc2 => ?_)
  · refine Rk.sp (G_iconst (pc := 7) dX9_of_7) ?_
    exact Rk.end_ (fun h => G_ireturn (pc := 8) rfl dX9_of_8 (q_RI h (inRk (-1) rfl)))
  · refine Rk.sp (G_iload_n (pc := 9) 2 rfl rfl dX9_of_9) ?_
    refine Rk.ite (fun hc3 => ?_) (fun hc3 => ?_)
    · refine Rk.tblI (pc := 10) (tgt := 40) 0 hc3 dX9_of_10 (nmI ha2) (by decide) (by decide) rfl rfl ?_
      refine Rk.sp (G_aload_n (pc := 40) 0 rfl rfl dX9_of_40) ?_
      refine Rk.gR (pc := 41) 173 flX9_7 cl9 rfl lb172 dX9_of_41 ?_
      refine Rk.sp (G_iconst (pc := 44) dX9_of_44) ?_
      refine Rk.sp (G_iload_n (pc := 45) 1 rfl rfl dX9_of_45) ?_
      refine Rk.sp (G_iadd (pc := 46) dX9_of_46) ?_
      refine Rk.al (pc := 47) lb173 dX9_of_47 (fun hi4 => ?_)
      exact Rk.end_ (fun h => G_ireturn (pc := 48) rfl dX9_of_48 (q_RI h (hok _ _)))
    · refine Rk.ite (fun hc5 => ?_) (fun hc5 => ?_)
      · refine Rk.tblI (pc := 10) (tgt := 49) 1 hc5 dX9_of_10 (nmI ha2) (by decide) (by decide) rfl rfl ?_
        refine Rk.sp (G_aload_n (pc := 49) 0 rfl rfl dX9_of_49) ?_
        refine Rk.gR (pc := 50) 173 flX9_7 cl9 rfl lb172 dX9_of_50 ?_
        refine Rk.sp (G_bipush (pc := 53) dX9_of_53 rfl) ?_
        refine Rk.sp (G_iload_n (pc := 55) 1 rfl rfl dX9_of_55) ?_
        refine Rk.sp (G_iadd (pc := 56) dX9_of_56) ?_
        refine Rk.al (pc := 57) lb173 dX9_of_57 (fun hi6 => ?_)
        exact Rk.end_ (fun h => G_ireturn (pc := 58) rfl dX9_of_58 (q_RI h (hok _ _)))
      · refine Rk.ite (fun hc7 => ?_) (fun hc7 => ?_)
        · refine Rk.tblI (pc := 10) (tgt := 59) 2 hc7 dX9_of_10 (nmI ha2) (by decide) (by decide) rfl rfl ?_
          refine Rk.sp (G_aload_n (pc := 59) 0 rfl rfl dX9_of_59) ?_
          refine Rk.gR (pc := 60) 173 flX9_7 cl9 rfl lb172 dX9_of_60 ?_
          refine Rk.sp (G_sipush (pc := 63) dX9_of_63 rfl) ?_
          refine Rk.sp (G_iload_n (pc := 66) 1 rfl rfl dX9_of_66) ?_
          refine Rk.sp (G_iadd (pc := 67) dX9_of_67) ?_
          refine Rk.al (pc := 68) lb173 dX9_of_68 (fun hi8 => ?_)
          exact Rk.end_ (fun h => G_ireturn (pc := 69) rfl dX9_of_69 (q_RI h (hok _ _)))
        · refine Rk.ite (fun hc9 => ?_) (fun hc9 => ?_)
          · refine Rk.tblI (pc := 10) (tgt := 70) 3 hc9 dX9_of_10 (nmI ha2) (by decide) (by decide) rfl rfl ?_
            refine Rk.sp (G_aload_n (pc := 70) 0 rfl rfl dX9_of_70) ?_
            refine Rk.sp (G_iload_n (pc := 71) 1 rfl rfl dX9_of_71) ?_
            refine Rk.sp (G_aload_n (pc := 72) 0 rfl rfl dX9_of_72) ?_
            refine Rk.cRI (pc := 73) (Cl.v [] [vi a1, vr 172] dX9_of_73 ckX9_317 lb172 rfl rfl rfl (Nat.le_of_ble_eq_true rfl) (Nat.le_of_ble_eq_true rfl)) (k_Mo_hourNow σ hok) (fun r10 hr10 => ?_)
            refine Rk.cRI (pc := 76) (Cl.v [vi a1, vi r10] [] dX9_of_76 ckX9_314 lb172 rfl rfl rfl (Nat.le_of_ble_eq_true rfl) (Nat.le_of_ble_eq_true rfl)) (k_Mo_isIn0 a1 r10 σ ha1 hr10 hok) (fun r11 hr11 => ?_)
            exact Rk.end_ (fun h => G_ireturn (pc := 79) rfl dX9_of_79 (q_RI h hr11))
          · refine Rk.tblO (pc := 10) (tgt := 80) dX9_of_10 (nmI ha2) (by omega) rfl ?_
            refine Rk.sp (G_iconst (pc := 80) dX9_of_80) ?_
            exact Rk.end_ (fun h => G_ireturn (pc := 81) rfl dX9_of_81 (q_RI h (inRk (-1) rfl)))
theorem k_Mo_pauses {κ : Kx} {μ : Sg} (a1 : Int) (a2 : Int) (σ : Sg) (ha1 : inR a1) (ha2 : inR a2) (hok : okS σ) : CtRI κ mX9_pauses 4 [vr 172, vi a1, vi a2] true μ σ (Mo_pauses a1 a2 σ) := by
  intro r h
  refine con_of (by decide) (Nat.le_of_ble_eq_true rfl) 4 ?_
  refine (?_ : Rk κ mX9_pauses _ 0 [some (vr 172), some (vi a1), some (vi a2), none, none, none, none] [] (ms true μ σ) (Mo_pauses a1 a2 σ) (fun a => a = r)) _ h rfl
  unfold Mo_pauses
  refine Rk.sp (G_iload_n (pc := 0) 1 rfl rfl dX9_pauses_0) ?_
  refine Rk.cRZ (pc := 1) (Cl.s [vi a1] [] dX9_pauses_1 ckX9_91 rfl rfl (Nat.le_of_ble_eq_true rfl) (Nat.le_of_ble_eq_true rfl)) (k_Mo_isOne a1 ha1) (fun r1 hr1 => ?_)
  refine Rk.if_eq (pc := 4) (tgt := 16) dX9_pauses_4 (nmI (inZ.R hr1)) rfl (fun hc2 => ?_) (fun hc2 => ?_)
  · refine Rk.sp (G_iconst (pc := 16) dX9_pauses_16) ?_
    exact Rk.end_ (fun h => G_ireturn (pc := 17) rfl dX9_pauses_17 (q_RI h (inRk (-1) rfl)))
  · refine Rk.sp (G_iload_n (pc := 7) 2 rfl rfl dX9_pauses_7) ?_
    refine Rk.sp (G_iconst (pc := 8) dX9_pauses_8) ?_
    refine Rk.sp (G_iconst (pc := 9) dX9_pauses_9) ?_
    refine Rk.cRZ (pc := 10) (Cl.s [vi a2, vi 0, vi 2] [] dX9_pauses_10 ckX9_72 rfl rfl (Nat.le_of_ble_eq_true rfl) (Nat.le_of_ble_eq_true rfl)) (k_Mo_isIn a2 0 2 ha2 (inRk 0 rfl) (inRk 2 rfl)) (fun r3 hr3 => ?_)
    refine Rk.if_ne (pc := 13) (tgt := 18) dX9_pauses_13 (nmI (inZ.R hr3)) rfl (fun hc4 => ?_) (fun hc4 => ?_)
    · refine Rk.sp (G_iconst (pc := 16) dX9_pauses_16) ?_
      exact Rk.end_ (fun h => G_ireturn (pc := 17) rfl dX9_pauses_17 (q_RI h (inRk (-1) rfl)))
    · refine Rk.sp (G_iconst (pc := 18) dX9_pauses_18) ?_
      refine Rk.isa_n (pc := 19) 3 (L' := [some (vr 172), some (vi a1), some (vi a2), some (vi 0), none, none, none]) rfl (Nat.le_of_ble_eq_true rfl) rfl dX9_pauses_19 rfl ?_
      refine Rk.sp (G_iconst (pc := 20) dX9_pauses_20) ?_
      refine Rk.isa_w (pc := 21) 4 (L' := [some (vr 172), some (vi a1), some (vi a2), some (vi 0), some (vi 0), none, none]) (Nat.le_of_ble_eq_true rfl) rfl dX9_pauses_21 rfl ?_
      refine Rk.sp (G_iconst (pc := 23) dX9_pauses_23) ?_
      refine Rk.isa_w (pc := 24) 5 (L' := [some (vr 172), some (vi a1), some (vi a2), some (vi 0), some (vi 0), some (vi 0), none]) (Nat.le_of_ble_eq_true rfl) rfl dX9_pauses_24 rfl ?_
      refine Rk.sp (G_iconst (pc := 26) dX9_pauses_26) ?_
      refine Rk.isa_w (pc := 27) 6 (L' := [some (vr 172), some (vi a1), some (vi a2), some (vi 0), some (vi 0), some (vi 0), some (vi 0)]) (Nat.le_of_ble_eq_true rfl) rfl dX9_pauses_27 rfl ?_
      refine Rk.loop (pc := 29) (B := (fun p => Mo_pauses_29_b σ a1 a2 p.1 p.2.1 p.2.2.1 p.2.2.2)) (fun p => inR p.1 ∧ inR p.2.1 ∧ inR p.2.2.1 ∧ inR p.2.2.2) (fun p => [some (vr 172), some (vi a1), some (vi a2), some (vi p.1), some (vi p.2.1), some (vi p.2.2.1), some (vi p.2.2.2)]) (fun p => (ms true μ σ)) (fun p hp => ?_) (0, 0, 0, 0) ⟨(inRk 0 rfl), (inRk 0 rfl), (inRk 0 rfl), (inRk 0 rfl)⟩
      obtain ⟨v3_5, v4_6, v5_7, v6_8⟩ := p
      obtain ⟨hv3_5, hv4_6, hv5_7, hv6_8⟩ := hp
      try dsimp only
      unfold Mo_pauses_29_b
      refine Rk.sp (G_iload_w (pc := 29) 6 rfl dX9_pauses_29) ?_
      refine Rk.sp (G_aload_n (pc := 31) 0 rfl rfl dX9_pauses_31) ?_
      refine Rk.gR (pc := 32) 173 flX9_7 cl9 rfl lb172 dX9_pauses_32 ?_
      refine Rk.sp (G_iconst (pc := 35) dX9_pauses_35) ?_
      refine Rk.alc (pc := 36) 3 rfl (Nat.le_of_ble_eq_true rfl) lb173 dX9_pauses_36 ?_
      refine Rk.icmp_ge (pc := 37) (tgt := 111) dX9_pauses_37 (nmI hv6_8) (nmI (hok _ _)) rfl (fun hc9 => ?_) (fun hc9 => ?_)
      · refine Rk.sp (G_iload_w (pc := 40) 5 rfl dX9_pauses_40) ?_
        refine Rk.sp (G_aload_n (pc := 42) 0 rfl rfl dX9_pauses_42) ?_
        refine Rk.sp (G_iload_w (pc := 43) 6 rfl dX9_pauses_43) ?_
        refine Rk.sp (G_iload_n (pc := 45) 1 rfl rfl dX9_pauses_45) ?_
        refine Rk.cRZ (pc := 46) (Cl.v [vi v6_8, vi a1] [vi v5_7] dX9_pauses_46 ckX9_436 lb172 rfl rfl rfl (Nat.le_of_ble_eq_true rfl) (Nat.le_of_ble_eq_true rfl)) (k_Mo_isWaiting v6_8 a1 σ hv6_8 ha1 hok) (fun r10 hr10 => ?_)
        refine Rk.join (P := fun p => inR p) (pcj := 57) (fun p => [some (vr 172), some (vi a1), some (vi a2), some (vi v3_5), some (vi v4_6), none, some (vi v6_8)]) (fun p => [vi p, vi v5_7]) (fun p => (ms true μ σ)) ?_ (fun p hp => ?_)
        · refine Rk.if_eq (pc := 49) (tgt := 56) dX9_pauses_49 (nmI (inZ.R hr10)) rfl (fun hc11 => ?_) (fun hc11 => ?_)
          · refine Rk.sp (G_iconst (pc := 56) dX9_pauses_56) ?_
            refine Rk.fg [true, true, true, true, true, false, true] (L' := [some (vr 172), some (vi a1), some (vi a2), some (vi v3_5), some (vi v4_6), none, some (vi v6_8)]) rfl ?_
            exact Rk.end_ (fun h => h (inRk 0 rfl))
          · refine Rk.sp (G_iconst (pc := 52) dX9_pauses_52) ?_
            refine Rk.sp (G_goto (pc := 53) (tgt := 57) dX9_pauses_53 rfl) ?_
            refine Rk.fg [true, true, true, true, true, false, true] (L' := [some (vr 172), some (vi a1), some (vi a2), some (vi v3_5), some (vi v4_6), none, some (vi v6_8)]) rfl ?_
            exact Rk.end_ (fun h => h (inRk 1 rfl))
        · revert hp; revert p; intro t12 ht12
          try dsimp only
          refine Rk.sp (G_iadd (pc := 57) dX9_pauses_57) ?_
          refine Rk.ist_w (pc := 58) 5 (fun v5_13 => [some (vr 172), some (vi a1), some (vi a2), some (vi v3_5), some (vi v4_6), some (vi v5_13), some (vi v6_8)]) (Nat.le_of_ble_eq_true rfl) rfl dX9_pauses_58 (nmW _) (fun _ => rfl) (fun v5_13 hv5_13 => ?_)
          refine Rk.sp (G_aload_n (pc := 60) 0 rfl rfl dX9_pauses_60) ?_
          refine Rk.sp (G_iload_w (pc := 61) 6 rfl dX9_pauses_61) ?_
          refine Rk.cRZ (pc := 63) (Cl.v [vi v6_8] [] dX9_pauses_63 ckX9_439 lb172 rfl rfl rfl (Nat.le_of_ble_eq_true rfl) (Nat.le_of_ble_eq_true rfl)) (k_Mo_isAnswer v6_8 σ hv6_8 hok) (fun r14 hr14 => ?_)
          refine Rk.if_eq (pc := 66) (tgt := 105) dX9_pauses_66 (nmI (inZ.R hr14)) rfl (fun hc15 => ?_) (fun hc15 => ?_)
          · refine Rk.inc (pc := 105) 6 (fun v6_16 => [some (vr 172), some (vi a1), some (vi a2), some (vi v3_5), some (vi v4_6), some (vi v5_13), some (vi v6_16)]) rfl (Nat.le_of_ble_eq_true rfl) rfl dX9_pauses_105 (fun _ => rfl) (fun v6_16 hv6_16 => ?_)
            refine Rk.sp (G_goto (pc := 108) (tgt := 29) dX9_pauses_108 rfl) ?_
            exact Rk.end_ (fun h => h ⟨hv3_5, hv4_6, hv5_13, hv6_16⟩)
          · refine Rk.sp (G_aload_n (pc := 69) 0 rfl rfl dX9_pauses_69) ?_
            refine Rk.sp (G_iload_w (pc := 70) 6 rfl dX9_pauses_70) ?_
            refine Rk.sp (G_iconst (pc := 72) dX9_pauses_72) ?_
            refine Rk.cRI (pc := 73) (Cl.v [vi v6_8, vi 0] [] dX9_pauses_73 ckX9_76 lb172 rfl rfl rfl (Nat.le_of_ble_eq_true rfl) (Nat.le_of_ble_eq_true rfl)) (k_Mo_of0 v6_8 0 σ hv6_8 (inRk 0 rfl) hok) (fun r17 hr17 => ?_)
            refine Rk.sp (G_iload_n (pc := 76) 1 rfl rfl dX9_pauses_76) ?_
            refine Rk.icmp_eq (pc := 77) (tgt := 83) dX9_pauses_77 (nmI hr17) (nmI ha1) rfl (fun hc18 => ?_) (fun hc18 => ?_)
            · refine Rk.sp (G_iload_n (pc := 83) 3 rfl rfl dX9_pauses_83) ?_
              refine Rk.sp (G_aload_n (pc := 84) 0 rfl rfl dX9_pauses_84) ?_
              refine Rk.sp (G_iload_w (pc := 85) 6 rfl dX9_pauses_85) ?_
              refine Rk.cRI (pc := 87) (Cl.v [vi v6_8] [vi v3_5] dX9_pauses_87 ckX9_442 lb172 rfl rfl rfl (Nat.le_of_ble_eq_true rfl) (Nat.le_of_ble_eq_true rfl)) (k_Mo_pauseOf v6_8 σ hv6_8 hok) (fun r19 hr19 => ?_)
              refine Rk.sp (G_iadd (pc := 90) dX9_pauses_90) ?_
              refine Rk.ist_n (pc := 91) 3 (fun v3_20 => [some (vr 172), some (vi a1), some (vi a2), some (vi v3_20), some (vi v4_6), some (vi v5_13), some (vi v6_8)]) rfl (Nat.le_of_ble_eq_true rfl) rfl dX9_pauses_91 (nmW _) (fun _ => rfl) (fun v3_20 hv3_20 => ?_)
              refine Rk.sp (G_iload_w (pc := 92) 4 rfl dX9_pauses_92) ?_
              refine Rk.sp (G_aload_n (pc := 94) 0 rfl rfl dX9_pauses_94) ?_
              refine Rk.sp (G_iload_w (pc := 95) 6 rfl dX9_pauses_95) ?_
              refine Rk.cRI (pc := 97) (Cl.v [vi v6_8] [vi v4_6] dX9_pauses_97 ckX9_442 lb172 rfl rfl rfl (Nat.le_of_ble_eq_true rfl) (Nat.le_of_ble_eq_true rfl)) (k_Mo_pauseOf v6_8 σ hv6_8 hok) (fun r21 hr21 => ?_)
              refine Rk.cRI (pc := 100) (Cl.s [vi v4_6, vi r21] [] dX9_pauses_100 ckX9_69 rfl rfl (Nat.le_of_ble_eq_true rfl) (Nat.le_of_ble_eq_true rfl)) (k_Mo_greater v4_6 r21 hv4_6 hr21) (fun r22 hr22 => ?_)
              refine Rk.isa_w (pc := 103) 4 (L' := [some (vr 172), some (vi a1), some (vi a2), some (vi v3_20), some (vi r22), some (vi v5_13), some (vi v6_8)]) (Nat.le_of_ble_eq_true rfl) rfl dX9_pauses_103 rfl ?_
              refine Rk.inc (pc := 105) 6 (fun v6_23 => [some (vr 172), some (vi a1), some (vi a2), some (vi v3_20), some (vi r22), some (vi v5_13), some (vi v6_23)]) rfl (Nat.le_of_ble_eq_true rfl) rfl dX9_pauses_105 (fun _ => rfl) (fun v6_23 hv6_23 => ?_)
              refine Rk.sp (G_goto (pc := 108) (tgt := 29) dX9_pauses_108 rfl) ?_
              exact Rk.end_ (fun h => h ⟨hv3_20, hr22, hv5_13, hv6_23⟩)
            · refine Rk.sp (G_goto (pc := 80) (tgt := 105) dX9_pauses_80 rfl) ?_
              refine Rk.inc (pc := 105) 6 (fun v6_24 => [some (vr 172), some (vi a1), some (vi a2), some (vi v3_5), some (vi v4_6), some (vi v5_13), some (vi v6_24)]) rfl (Nat.le_of_ble_eq_true rfl) rfl dX9_pauses_105 (fun _ => rfl) (fun v6_24 hv6_24 => ?_)
              refine Rk.sp (G_goto (pc := 108) (tgt := 29) dX9_pauses_108 rfl) ?_
              exact Rk.end_ (fun h => h ⟨hv3_5, hv4_6, hv5_13, hv6_24⟩)
      · refine Rk.sp (G_iload_n (pc := 111) 2 rfl rfl dX9_pauses_111) ?_
        refine Rk.if_ne (pc := 112) (tgt := 119) dX9_pauses_112 (nmI ha2) rfl (fun hc25 => ?_) (fun hc25 => ?_)
        · refine Rk.sp (G_iload_n (pc := 115) 3 rfl rfl dX9_pauses_115) ?_
          refine Rk.sp (G_goto (pc := 116) (tgt := 131) dX9_pauses_116 rfl) ?_
          exact Rk.end_ (fun h => G_ireturn (pc := 131) rfl dX9_pauses_131 (q_RI h hv3_5))
        · refine Rk.sp (G_iload_n (pc := 119) 2 rfl rfl dX9_pauses_119) ?_
          refine Rk.sp (G_iconst (pc := 120) dX9_pauses_120) ?_
          refine Rk.icmp_ne (pc := 121) (tgt := 129) dX9_pauses_121 (nmI ha2) (nmI (inRk 1 rfl)) rfl (fun hc26 => ?_) (fun hc26 => ?_)
          · refine Rk.sp (G_iload_w (pc := 124) 4 rfl dX9_pauses_124) ?_
            refine Rk.sp (G_goto (pc := 126) (tgt := 131) dX9_pauses_126 rfl) ?_
            exact Rk.end_ (fun h => G_ireturn (pc := 131) rfl dX9_pauses_131 (q_RI h hv4_6))
          · refine Rk.sp (G_iload_w (pc := 129) 5 rfl dX9_pauses_129) ?_
            exact Rk.end_ (fun h => G_ireturn (pc := 131) rfl dX9_pauses_131 (q_RI h hv5_7))
theorem k_Mo_puts {κ : Kx} {μ : Sg} (a1 : Int) (a2 : Int) (a3 : Int) (σ : Sg) (ha1 : inR a1) (ha2 : inR a2) (ha3 : inR a3) (hok : okS σ) : CtI κ mX9_puts 0 [vr 172, vi a1, vi a2, vi a3] true μ σ (Mo_puts a1 a2 a3 σ) := by
  intro r τ h
  refine con_of (by decide) (Nat.le_of_ble_eq_true rfl) 1 ?_
  refine (?_ : Rk κ mX9_puts _ 0 [some (vr 172), some (vi a1), some (vi a2), some (vi a3), none] [] (ms true μ σ) (Mo_puts a1 a2 a3 σ) (fun a => a = (r, τ))) _ h rfl
  unfold Mo_puts
  refine Rk.sp (G_aload_n (pc := 0) 0 rfl rfl dX9_puts_0) ?_
  refine Rk.gR (pc := 1) 173 flX9_7 cl9 rfl lb172 dX9_puts_1 ?_
  refine Rk.sp (G_iload_n (pc := 4) 1 rfl rfl dX9_puts_4) ?_
  refine Rk.sp (G_aload_n (pc := 5) 0 rfl rfl dX9_puts_5) ?_
  refine Rk.gI (pc := 6) flX9_264 cl9 rfl lb172 dX9_puts_6 ?_
  refine Rk.as (pc := 9) hok (nmI (hok _ _)) lb173 dX9_puts_9 (fun hi2 σ1 hσ1 => ?_)
  refine Rk.sp (G_iconst (pc := 10) dX9_puts_10) ?_
  refine Rk.isa_w (pc := 11) 4 (L' := [some (vr 172), some (vi a1), some (vi a2), some (vi a3), some (vi 0)]) (Nat.le_of_ble_eq_true rfl) rfl dX9_puts_11 rfl ?_
  refine Rk.fg [true, false, true, true, true] (L' := [some (vr 172), none, some (vi a2), some (vi a3), some (vi 0)]) rfl ?_
  refine Rk.loop (pc := 13) (B := (fun p => Mo_puts_13_b a3 a2 p.1 p.2)) (fun p => inR p.1 ∧ okS p.2) (fun p => [some (vr 172), none, some (vi a2), some (vi a3), some (vi p.1)]) (fun p => (ms true μ p.2)) (fun p hp => ?_) (0, σ1) ⟨(inRk 0 rfl), hσ1⟩
  obtain ⟨v4_3, σ4⟩ := p
  obtain ⟨hv4_3, hσ4⟩ := hp
  try dsimp only
  unfold Mo_puts_13_b
  refine Rk.sp (G_iload_w (pc := 13) 4 rfl dX9_puts_13) ?_
  refine Rk.sp (G_iload_n (pc := 15) 3 rfl rfl dX9_puts_15) ?_
  refine Rk.sp (G_aload_n (pc := 16) 0 rfl rfl dX9_puts_16) ?_
  refine Rk.gI (pc := 17) flX9_264 cl9 rfl lb172 dX9_puts_17 ?_
  refine Rk.sp (G_imul (pc := 20) dX9_puts_20) ?_
  refine Rk.icmp_ge (pc := 21) (tgt := 46) dX9_puts_21 (nmI hv4_3) (nmW _) rfl (fun hc5 => ?_) (fun hc5 => ?_)
  · refine Rk.sp (G_aload_n (pc := 24) 0 rfl rfl dX9_puts_24) ?_
    refine Rk.gR (pc := 25) 173 flX9_7 cl9 rfl lb172 dX9_puts_25 ?_
    refine Rk.sp (G_iload_n (pc := 28) 2 rfl rfl dX9_puts_28) ?_
    refine Rk.sp (G_iload_w (pc := 29) 4 rfl dX9_puts_29) ?_
    refine Rk.sp (G_iadd (pc := 31) dX9_puts_31) ?_
    refine Rk.sp (G_aload_n (pc := 32) 0 rfl rfl dX9_puts_32) ?_
    refine Rk.gR (pc := 33) 179 flX9_28 cl9 rfl lb172 dX9_puts_33 ?_
    refine Rk.sp (G_iload_w (pc := 36) 4 rfl dX9_puts_36) ?_
    refine Rk.al (pc := 38) lb179 dX9_puts_38 (fun hi6 => ?_)
    refine Rk.as (pc := 39) hσ4 (nmI (hσ4 _ _)) lb173 dX9_puts_39 (fun hi8 σ7 hσ7 => ?_)
    refine Rk.inc (pc := 40) 4 (fun v4_9 => [some (vr 172), none, some (vi a2), some (vi a3), some (vi v4_9)]) rfl (Nat.le_of_ble_eq_true rfl) rfl dX9_puts_40 (fun _ => rfl) (fun v4_9 hv4_9 => ?_)
    refine Rk.sp (G_goto (pc := 43) (tgt := 13) dX9_puts_43 rfl) ?_
    exact Rk.end_ (fun h => h ⟨hv4_9, hσ7⟩)
  · refine Rk.sp (G_aload_n (pc := 46) 0 rfl rfl dX9_puts_46) ?_
    refine Rk.gI (pc := 47) flX9_264 cl9 rfl lb172 dX9_puts_47 ?_
    exact Rk.end_ (fun h => G_ireturn (pc := 50) rfl dX9_puts_50 (q_I h (hσ4 _ _) hσ4))
theorem k_Mo_putsLaw {κ : Kx} {μ : Sg} (σ : Sg) (hok : okS σ) : CtI κ mX9_putsLaw 0 [vr 172] true μ σ (Mo_putsLaw σ) := by
  intro r τ h
  refine con_of (by decide) (Nat.le_of_ble_eq_true rfl) 1 ?_
  refine (?_ : Rk κ mX9_putsLaw _ 0 [some (vr 172), none] [] (ms true μ σ) (Mo_putsLaw σ) (fun a => a = (r, τ))) _ h rfl
  unfold Mo_putsLaw
  refine Rk.sp (G_aload_n (pc := 0) 0 rfl rfl dX9_putsLaw_0) ?_
  refine Rk.gR (pc := 1) 173 flX9_7 cl9 rfl lb172 dX9_putsLaw_1 ?_
  refine Rk.sp (G_sipush (pc := 4) dX9_putsLaw_4 rfl) ?_
  refine Rk.sp (G_aload_n (pc := 7) 0 rfl rfl dX9_putsLaw_7) ?_
  refine Rk.gI (pc := 8) flX9_255 cl9 rfl lb172 dX9_putsLaw_8 ?_
  refine Rk.asc (pc := 11) hok (nmI (hok _ _)) 550 rfl (Nat.le_of_ble_eq_true rfl) lb173 dX9_putsLaw_11 (fun σ1 hσ1 => ?_)
  refine Rk.sp (G_iconst (pc := 12) dX9_putsLaw_12) ?_
  refine Rk.isa_n (pc := 13) 1 (L' := [some (vr 172), some (vi 0)]) rfl (Nat.le_of_ble_eq_true rfl) rfl dX9_putsLaw_13 rfl ?_
  refine Rk.loop (pc := 14) (B := (fun p => Mo_putsLaw_14_b p.1 p.2)) (fun p => inR p.1 ∧ okS p.2) (fun p => [some (vr 172), some (vi p.1)]) (fun p => (ms true μ p.2)) (fun p hp => ?_) (0, σ1) ⟨(inRk 0 rfl), hσ1⟩
  obtain ⟨v1_2, σ3⟩ := p
  obtain ⟨hv1_2, hσ3⟩ := hp
  try dsimp only
  unfold Mo_putsLaw_14_b
  refine Rk.sp (G_iload_n (pc := 14) 1 rfl rfl dX9_putsLaw_14) ?_
  refine Rk.sp (G_aload_n (pc := 15) 0 rfl rfl dX9_putsLaw_15) ?_
  refine Rk.gI (pc := 16) flX9_255 cl9 rfl lb172 dX9_putsLaw_16 ?_
  refine Rk.icmp_ge (pc := 19) (tgt := 106) dX9_putsLaw_19 (nmI hv1_2) (nmI (hσ3 _ _)) rfl (fun hc4 => ?_) (fun hc4 => ?_)
  · refine Rk.sp (G_aload_n (pc := 22) 0 rfl rfl dX9_putsLaw_22) ?_
    refine Rk.gR (pc := 23) 173 flX9_7 cl9 rfl lb172 dX9_putsLaw_23 ?_
    refine Rk.sp (G_sipush (pc := 26) dX9_putsLaw_26 rfl) ?_
    refine Rk.sp (G_iload_n (pc := 29) 1 rfl rfl dX9_putsLaw_29) ?_
    refine Rk.sp (G_iadd (pc := 30) dX9_putsLaw_30) ?_
    refine Rk.sp (G_aload_n (pc := 31) 0 rfl rfl dX9_putsLaw_31) ?_
    refine Rk.gR (pc := 32) 177 flX9_22 cl9 rfl lb172 dX9_putsLaw_32 ?_
    refine Rk.sp (G_iconst (pc := 35) dX9_putsLaw_35) ?_
    refine Rk.sp (G_iload_n (pc := 36) 1 rfl rfl dX9_putsLaw_36) ?_
    refine Rk.sp (G_imul (pc := 37) dX9_putsLaw_37) ?_
    refine Rk.al (pc := 38) lb177 dX9_putsLaw_38 (fun hi5 => ?_)
    refine Rk.as (pc := 39) hσ3 (nmI (hσ3 _ _)) lb173 dX9_putsLaw_39 (fun hi7 σ6 hσ6 => ?_)
    refine Rk.sp (G_aload_n (pc := 40) 0 rfl rfl dX9_putsLaw_40) ?_
    refine Rk.gR (pc := 41) 173 flX9_7 cl9 rfl lb172 dX9_putsLaw_41 ?_
    refine Rk.sp (G_sipush (pc := 44) dX9_putsLaw_44 rfl) ?_
    refine Rk.sp (G_iload_n (pc := 47) 1 rfl rfl dX9_putsLaw_47) ?_
    refine Rk.sp (G_iadd (pc := 48) dX9_putsLaw_48) ?_
    refine Rk.sp (G_aload_n (pc := 49) 0 rfl rfl dX9_putsLaw_49) ?_
    refine Rk.gR (pc := 50) 177 flX9_22 cl9 rfl lb172 dX9_putsLaw_50 ?_
    refine Rk.sp (G_iconst (pc := 53) dX9_putsLaw_53) ?_
    refine Rk.sp (G_iload_n (pc := 54) 1 rfl rfl dX9_putsLaw_54) ?_
    refine Rk.sp (G_imul (pc := 55) dX9_putsLaw_55) ?_
    refine Rk.sp (G_iconst (pc := 56) dX9_putsLaw_56) ?_
    refine Rk.sp (G_iadd (pc := 57) dX9_putsLaw_57) ?_
    refine Rk.al (pc := 58) lb177 dX9_putsLaw_58 (fun hi8 => ?_)
    refine Rk.as (pc := 59) hσ6 (nmI (hσ6 _ _)) lb173 dX9_putsLaw_59 (fun hi10 σ9 hσ9 => ?_)
    refine Rk.sp (G_aload_n (pc := 60) 0 rfl rfl dX9_putsLaw_60) ?_
    refine Rk.gR (pc := 61) 173 flX9_7 cl9 rfl lb172 dX9_putsLaw_61 ?_
    refine Rk.sp (G_sipush (pc := 64) dX9_putsLaw_64 rfl) ?_
    refine Rk.sp (G_iload_n (pc := 67) 1 rfl rfl dX9_putsLaw_67) ?_
    refine Rk.sp (G_iadd (pc := 68) dX9_putsLaw_68) ?_
    refine Rk.sp (G_aload_n (pc := 69) 0 rfl rfl dX9_putsLaw_69) ?_
    refine Rk.gR (pc := 70) 177 flX9_22 cl9 rfl lb172 dX9_putsLaw_70 ?_
    refine Rk.sp (G_iconst (pc := 73) dX9_putsLaw_73) ?_
    refine Rk.sp (G_iload_n (pc := 74) 1 rfl rfl dX9_putsLaw_74) ?_
    refine Rk.sp (G_imul (pc := 75) dX9_putsLaw_75) ?_
    refine Rk.sp (G_iconst (pc := 76) dX9_putsLaw_76) ?_
    refine Rk.sp (G_iadd (pc := 77) dX9_putsLaw_77) ?_
    refine Rk.al (pc := 78) lb177 dX9_putsLaw_78 (fun hi11 => ?_)
    refine Rk.as (pc := 79) hσ9 (nmI (hσ9 _ _)) lb173 dX9_putsLaw_79 (fun hi13 σ12 hσ12 => ?_)
    refine Rk.sp (G_aload_n (pc := 80) 0 rfl rfl dX9_putsLaw_80) ?_
    refine Rk.gR (pc := 81) 173 flX9_7 cl9 rfl lb172 dX9_putsLaw_81 ?_
    refine Rk.sp (G_sipush (pc := 84) dX9_putsLaw_84 rfl) ?_
    refine Rk.sp (G_iload_n (pc := 87) 1 rfl rfl dX9_putsLaw_87) ?_
    refine Rk.sp (G_iadd (pc := 88) dX9_putsLaw_88) ?_
    refine Rk.sp (G_aload_n (pc := 89) 0 rfl rfl dX9_putsLaw_89) ?_
    refine Rk.gR (pc := 90) 177 flX9_22 cl9 rfl lb172 dX9_putsLaw_90 ?_
    refine Rk.sp (G_iconst (pc := 93) dX9_putsLaw_93) ?_
    refine Rk.sp (G_iload_n (pc := 94) 1 rfl rfl dX9_putsLaw_94) ?_
    refine Rk.sp (G_imul (pc := 95) dX9_putsLaw_95) ?_
    refine Rk.sp (G_iconst (pc := 96) dX9_putsLaw_96) ?_
    refine Rk.sp (G_iadd (pc := 97) dX9_putsLaw_97) ?_
    refine Rk.al (pc := 98) lb177 dX9_putsLaw_98 (fun hi14 => ?_)
    refine Rk.as (pc := 99) hσ12 (nmI (hσ12 _ _)) lb173 dX9_putsLaw_99 (fun hi16 σ15 hσ15 => ?_)
    refine Rk.inc (pc := 100) 1 (fun v1_17 => [some (vr 172), some (vi v1_17)]) rfl (Nat.le_of_ble_eq_true rfl) rfl dX9_putsLaw_100 (fun _ => rfl) (fun v1_17 hv1_17 => ?_)
    refine Rk.sp (G_goto (pc := 103) (tgt := 14) dX9_putsLaw_103 rfl) ?_
    exact Rk.end_ (fun h => h ⟨hv1_17, hσ15⟩)
  · refine Rk.sp (G_iconst (pc := 106) dX9_putsLaw_106) ?_
    refine Rk.isa_n (pc := 107) 1 (L' := [some (vr 172), some (vi 0)]) rfl (Nat.le_of_ble_eq_true rfl) rfl dX9_putsLaw_107 rfl ?_
    refine Rk.loop (pc := 108) (B := (fun p => Mo_putsLaw_108_b p.1 p.2)) (fun p => inR p.1 ∧ okS p.2) (fun p => [some (vr 172), some (vi p.1)]) (fun p => (ms true μ p.2)) (fun p hp => ?_) (0, σ3) ⟨(inRk 0 rfl), hσ3⟩
    obtain ⟨v1_18, σ19⟩ := p
    obtain ⟨hv1_18, hσ19⟩ := hp
    try dsimp only
    unfold Mo_putsLaw_108_b
    refine Rk.sp (G_iload_n (pc := 108) 1 rfl rfl dX9_putsLaw_108) ?_
    refine Rk.sp (G_iconst (pc := 109) dX9_putsLaw_109) ?_
    refine Rk.sp (G_aload_n (pc := 110) 0 rfl rfl dX9_putsLaw_110) ?_
    refine Rk.gI (pc := 111) flX9_220 cl9 rfl lb172 dX9_putsLaw_111 ?_
    refine Rk.sp (G_imul (pc := 114) dX9_putsLaw_114) ?_
    refine Rk.icmp_ge (pc := 115) (tgt := 140) dX9_putsLaw_115 (nmI hv1_18) (nmW _) rfl (fun hc20 => ?_) (fun hc20 => ?_)
    · refine Rk.sp (G_aload_n (pc := 118) 0 rfl rfl dX9_putsLaw_118) ?_
      refine Rk.gR (pc := 119) 173 flX9_7 cl9 rfl lb172 dX9_putsLaw_119 ?_
      refine Rk.sp (G_sipush (pc := 122) dX9_putsLaw_122 rfl) ?_
      refine Rk.sp (G_iload_n (pc := 125) 1 rfl rfl dX9_putsLaw_125) ?_
      refine Rk.sp (G_iadd (pc := 126) dX9_putsLaw_126) ?_
      refine Rk.sp (G_aload_n (pc := 127) 0 rfl rfl dX9_putsLaw_127) ?_
      refine Rk.gR (pc := 128) 178 flX9_25 cl9 rfl lb172 dX9_putsLaw_128 ?_
      refine Rk.sp (G_iload_n (pc := 131) 1 rfl rfl dX9_putsLaw_131) ?_
      refine Rk.al (pc := 132) lb178 dX9_putsLaw_132 (fun hi21 => ?_)
      refine Rk.as (pc := 133) hσ19 (nmI (hσ19 _ _)) lb173 dX9_putsLaw_133 (fun hi23 σ22 hσ22 => ?_)
      refine Rk.inc (pc := 134) 1 (fun v1_24 => [some (vr 172), some (vi v1_24)]) rfl (Nat.le_of_ble_eq_true rfl) rfl dX9_putsLaw_134 (fun _ => rfl) (fun v1_24 hv1_24 => ?_)
      refine Rk.sp (G_goto (pc := 137) (tgt := 108) dX9_putsLaw_137 rfl) ?_
      exact Rk.end_ (fun h => h ⟨hv1_24, hσ22⟩)
    · refine Rk.sp (G_aload_n (pc := 140) 0 rfl rfl dX9_putsLaw_140) ?_
      refine Rk.gI (pc := 141) flX9_255 cl9 rfl lb172 dX9_putsLaw_141 ?_
      exact Rk.end_ (fun h => G_ireturn (pc := 144) rfl dX9_putsLaw_144 (q_I h (hσ19 _ _) hσ19))
theorem k_Mo_putsText {κ : Kx} {μ : Sg} (a1 : Int) (σ : Sg) (ha1 : inR a1) (hok : okS σ) : CtI κ mX9_putsText 1 [vr 172, vi a1] true μ σ (Mo_putsText a1 σ) := by
  intro r τ h
  refine con_of (by decide) (Nat.le_of_ble_eq_true rfl) 0 ?_
  refine (?_ : Rk κ mX9_putsText _ 0 [some (vr 172), some (vi a1)] [] (ms true μ σ) (Mo_putsText a1 σ) (fun a => a = (r, τ))) _ h rfl
  unfold Mo_putsText
  refine Rk.sp (G_iload_n (pc := 0) 1 rfl rfl dX9_putsText_0) ?_
  refine Rk.if_ne (pc := 1) (tgt := 9) dX9_putsText_1 (nmI ha1) rfl (fun hc1 => ?_) (fun hc1 => ?_)
  · refine Rk.sp (G_aload_n (pc := 4) 0 rfl rfl dX9_putsText_4) ?_
    refine Rk.cI (pc := 5) (Cl.v [] [] dX9_putsText_5 ckX9_283 lb172 rfl rfl rfl (Nat.le_of_ble_eq_true rfl) (Nat.le_of_ble_eq_true rfl)) (k_Mo_putsLaw σ hok) (fun r2 σ3 hr2 hσ3 => ?_)
    exact Rk.end_ (fun h => G_ireturn (pc := 8) rfl dX9_putsText_8 (q_I h hr2 hσ3))
  · refine Rk.sp (G_iload_n (pc := 9) 1 rfl rfl dX9_putsText_9) ?_
    refine Rk.sp (G_iconst (pc := 10) dX9_putsText_10) ?_
    refine Rk.icmp_ne (pc := 11) (tgt := 26) dX9_putsText_11 (nmI ha1) (nmI (inRk 3 rfl)) rfl (fun hc4 => ?_) (fun hc4 => ?_)
    · refine Rk.sp (G_aload_n (pc := 14) 0 rfl rfl dX9_putsText_14) ?_
      refine Rk.sp (G_sipush (pc := 15) dX9_putsText_15 rfl) ?_
      refine Rk.sp (G_sipush (pc := 18) dX9_putsText_18 rfl) ?_
      refine Rk.sp (G_iconst (pc := 21) dX9_putsText_21) ?_
      refine Rk.cI (pc := 22) (Cl.v [vi 553, vi 699, vi 2] [] dX9_putsText_22 ckX9_286 lb172 rfl rfl rfl (Nat.le_of_ble_eq_true rfl) (Nat.le_of_ble_eq_true rfl)) (k_Mo_puts 553 699 2 σ (inRk 553 rfl) (inRk 699 rfl) (inRk 2 rfl) hok) (fun r5 σ6 hr5 hσ6 => ?_)
      exact Rk.end_ (fun h => G_ireturn (pc := 25) rfl dX9_putsText_25 (q_I h hr5 hσ6))
    · refine Rk.sp (G_aload_n (pc := 26) 0 rfl rfl dX9_putsText_26) ?_
      refine Rk.cV (pc := 27) (Cl.v [] [] dX9_putsText_27 ckX9_86 lb172 rfl rfl rfl (Nat.le_of_ble_eq_true rfl) (Nat.le_of_ble_eq_true rfl)) (k_Mo_forgets σ hok) (fun σ7 hσ7 => ?_)
      refine Rk.sp (G_iload_n (pc := 30) 1 rfl rfl dX9_putsText_30) ?_
      refine Rk.sp (G_iconst (pc := 31) dX9_putsText_31) ?_
      refine Rk.icmp_ne (pc := 32) (tgt := 49) dX9_putsText_32 (nmI ha1) (nmI (inRk 1 rfl)) rfl (fun hc8 => ?_) (fun hc8 => ?_)
      · refine Rk.sp (G_aload_n (pc := 35) 0 rfl rfl dX9_putsText_35) ?_
        refine Rk.sp (G_sipush (pc := 36) dX9_putsText_36 rfl) ?_
        refine Rk.sp (G_sipush (pc := 39) dX9_putsText_39 rfl) ?_
        refine Rk.sp (G_iconst (pc := 42) dX9_putsText_42) ?_
        refine Rk.cI (pc := 43) (Cl.v [vi 551, vi 555, vi 4] [] dX9_putsText_43 ckX9_286 lb172 rfl rfl rfl (Nat.le_of_ble_eq_true rfl) (Nat.le_of_ble_eq_true rfl)) (k_Mo_puts 551 555 4 σ7 (inRk 551 rfl) (inRk 555 rfl) (inRk 4 rfl) hσ7) (fun r9 σ10 hr9 hσ10 => ?_)
        refine Rk.sp (G_goto (pc := 46) (tgt := 60) dX9_putsText_46 rfl) ?_
        exact Rk.end_ (fun h => G_ireturn (pc := 60) rfl dX9_putsText_60 (q_I h hr9 hσ10))
      · refine Rk.sp (G_aload_n (pc := 49) 0 rfl rfl dX9_putsText_49) ?_
        refine Rk.sp (G_sipush (pc := 50) dX9_putsText_50 rfl) ?_
        refine Rk.sp (G_sipush (pc := 53) dX9_putsText_53 rfl) ?_
        refine Rk.sp (G_iconst (pc := 56) dX9_putsText_56) ?_
        refine Rk.cI (pc := 57) (Cl.v [vi 552, vi 619, vi 5] [] dX9_putsText_57 ckX9_286 lb172 rfl rfl rfl (Nat.le_of_ble_eq_true rfl) (Nat.le_of_ble_eq_true rfl)) (k_Mo_puts 552 619 5 σ7 (inRk 552 rfl) (inRk 619 rfl) (inRk 5 rfl) hσ7) (fun r11 σ12 hr11 hσ12 => ?_)
        exact Rk.end_ (fun h => G_ireturn (pc := 60) rfl dX9_putsText_60 (q_I h hr11 hσ12))
theorem k_Mo_readsLaw {κ : Kx} {μ : Sg} (σ : Sg) (hok : okS σ) : CtZ κ mX9_readsLaw 46 [vr 172] true μ σ (Mo_readsLaw σ) := by
  intro r τ h
  refine con_of (by decide) (Nat.le_of_ble_eq_true rfl) 1 ?_
  refine (?_ : Rk κ mX9_readsLaw _ 0 [some (vr 172), none] [] (ms true μ σ) (Mo_readsLaw σ) (fun a => a = (r, τ))) _ h rfl
  unfold Mo_readsLaw
  refine Rk.sp (G_aload_n (pc := 0) 0 rfl rfl dX9_readsLaw_0) ?_
  refine Rk.sp (G_iconst (pc := 1) dX9_readsLaw_1) ?_
  refine Rk.pI (pc := 2) hok (nmI (inRk 0 rfl)) flX9_255 cl9 rfl rfl lb172 dX9_readsLaw_2 (fun σ1 hσ1 => ?_)
  refine Rk.sp (G_aload_n (pc := 5) 0 rfl rfl dX9_readsLaw_5) ?_
  refine Rk.sp (G_iconst (pc := 6) dX9_readsLaw_6) ?_
  refine Rk.pI (pc := 7) hσ1 (nmI (inRk 0 rfl)) flX9_220 cl9 rfl rfl lb172 dX9_readsLaw_7 (fun σ2 hσ2 => ?_)
  refine Rk.sp (G_iconst (pc := 10) dX9_readsLaw_10) ?_
  refine Rk.isa_n (pc := 11) 1 (L' := [some (vr 172), some (vi 1)]) rfl (Nat.le_of_ble_eq_true rfl) rfl dX9_readsLaw_11 rfl ?_
  refine Rk.loop (pc := 12) (B := (fun p => Mo_readsLaw_12_b p.1 p.2)) (fun p => inR p.1 ∧ okS p.2) (fun p => [some (vr 172), some (vi p.1)]) (fun p => (ms true μ p.2)) (fun p hp => ?_) (1, σ2) ⟨(inRk 1 rfl), hσ2⟩
  obtain ⟨v1_3, σ4⟩ := p
  obtain ⟨hv1_3, hσ4⟩ := hp
  try dsimp only
  unfold Mo_readsLaw_12_b
  refine Rk.sp (G_iload_n (pc := 12) 1 rfl rfl dX9_readsLaw_12) ?_
  refine Rk.if_eq (pc := 13) (tgt := 49) dX9_readsLaw_13 (nmI hv1_3) rfl (fun hc5 => ?_) (fun hc5 => ?_)
  · refine Rk.sp (G_iload_n (pc := 49) 1 rfl rfl dX9_readsLaw_49) ?_
    refine Rk.qzb (fun hb6 => ?_)
    exact Rk.end_ (fun h => G_zreturn (pc := 50) rfl (nz hb6) dX9_readsLaw_50 (q_Z h hb6 hσ4))
  · refine Rk.sp (G_aload_n (pc := 16) 0 rfl rfl dX9_readsLaw_16) ?_
    refine Rk.gI (pc := 17) flX9_193 cl9 rfl lb172 dX9_readsLaw_17 ?_
    refine Rk.if_eq (pc := 20) (tgt := 49) dX9_readsLaw_20 (nmI (hσ4 _ _)) rfl (fun hc7 => ?_) (fun hc7 => ?_)
    · refine Rk.sp (G_iload_n (pc := 49) 1 rfl rfl dX9_readsLaw_49) ?_
      refine Rk.qzb (fun hb8 => ?_)
      exact Rk.end_ (fun h => G_zreturn (pc := 50) rfl (nz hb8) dX9_readsLaw_50 (q_Z h hb8 hσ4))
    · refine Rk.sp (G_aload_n (pc := 23) 0 rfl rfl dX9_readsLaw_23) ?_
      refine Rk.cZ (pc := 24) (Cl.v [] [] dX9_readsLaw_24 ckX9_258 lb172 rfl rfl rfl (Nat.le_of_ble_eq_true rfl) (Nat.le_of_ble_eq_true rfl)) (k_Mo_aLine σ4 hσ4) (fun r9 σ10 hr9 hσ10 => ?_)
      refine Rk.isa_n (pc := 27) 1 (L' := [some (vr 172), some (vi r9)]) rfl (Nat.le_of_ble_eq_true rfl) rfl dX9_readsLaw_27 rfl ?_
      refine Rk.sp (G_aload_n (pc := 28) 0 rfl rfl dX9_readsLaw_28) ?_
      refine Rk.sp (G_dup (pc := 29) dX9_readsLaw_29 (fun _ h => by cases h)) ?_
      refine Rk.gI (pc := 30) flX9_255 cl9 rfl lb172 dX9_readsLaw_30 ?_
      refine Rk.sp (G_iload_n (pc := 33) 1 rfl rfl dX9_readsLaw_33) ?_
      refine Rk.if_eq (pc := 34) (tgt := 41) dX9_readsLaw_34 (nmI (inZ.R hr9)) rfl (fun hc11 => ?_) (fun hc11 => ?_)
      · refine Rk.sp (G_iconst (pc := 41) dX9_readsLaw_41) ?_
        refine Rk.sp (G_iadd (pc := 42) dX9_readsLaw_42) ?_
        refine Rk.pI (pc := 43) hσ10 (nmW _) flX9_255 cl9 rfl rfl lb172 dX9_readsLaw_43 (fun σ12 hσ12 => ?_)
        refine Rk.sp (G_goto (pc := 46) (tgt := 12) dX9_readsLaw_46 rfl) ?_
        exact Rk.end_ (fun h => h ⟨(inZ.R hr9), hσ12⟩)
      · refine Rk.sp (G_iconst (pc := 37) dX9_readsLaw_37) ?_
        refine Rk.sp (G_goto (pc := 38) (tgt := 42) dX9_readsLaw_38 rfl) ?_
        refine Rk.sp (G_iadd (pc := 42) dX9_readsLaw_42) ?_
        refine Rk.pI (pc := 43) hσ10 (nmW _) flX9_255 cl9 rfl rfl lb172 dX9_readsLaw_43 (fun σ13 hσ13 => ?_)
        refine Rk.sp (G_goto (pc := 46) (tgt := 12) dX9_readsLaw_46 rfl) ?_
        exact Rk.end_ (fun h => h ⟨(inZ.R hr9), hσ13⟩)
theorem k_Mo_readsRows {κ : Kx} {μ : Sg} (σ : Sg) (hok : okS σ) : CtZ κ mX9_readsRows 13 [vr 172] true μ σ (Mo_readsRows σ) := by
  intro r τ h
  refine con_of (by decide) (Nat.le_of_ble_eq_true rfl) 2 ?_
  refine (?_ : Rk κ mX9_readsRows _ 0 [some (vr 172), none, none] [] (ms true μ σ) (Mo_readsRows σ) (fun a => a = (r, τ))) _ h rfl
  unfold Mo_readsRows
  refine Rk.sp (G_aload_n (pc := 0) 0 rfl rfl dX9_readsRows_0) ?_
  refine Rk.sp (G_iconst (pc := 1) dX9_readsRows_1) ?_
  refine Rk.pI (pc := 2) hok (nmI (inRk 0 rfl)) flX9_264 cl9 rfl rfl lb172 dX9_readsRows_2 (fun σ1 hσ1 => ?_)
  refine Rk.sp (G_aload_n (pc := 5) 0 rfl rfl dX9_readsRows_5) ?_
  refine Rk.gI (pc := 6) flX9_173 cl9 rfl lb172 dX9_readsRows_6 ?_
  refine Rk.sp (G_iconst (pc := 9) dX9_readsRows_9) ?_
  refine Rk.join (P := fun p => inR p) (pcj := 33) (fun p => [some (vr 172), none, none]) (fun p => [vi p]) (fun p => (ms true μ σ1)) ?_ (fun p hp => ?_)
  · refine Rk.icmp_ne (pc := 10) (tgt := 18) dX9_readsRows_10 (nmI (hσ1 _ _)) (nmI (inRk 1 rfl)) rfl (fun hc2 => ?_) (fun hc2 => ?_)
    · refine Rk.sp (G_bipush (pc := 13) dX9_readsRows_13 rfl) ?_
      refine Rk.sp (G_goto (pc := 15) (tgt := 33) dX9_readsRows_15 rfl) ?_
      exact Rk.end_ (fun h => h (inRk 7 rfl))
    · refine Rk.sp (G_aload_n (pc := 18) 0 rfl rfl dX9_readsRows_18) ?_
      refine Rk.gI (pc := 19) flX9_173 cl9 rfl lb172 dX9_readsRows_19 ?_
      refine Rk.sp (G_iconst (pc := 22) dX9_readsRows_22) ?_
      refine Rk.icmp_ne (pc := 23) (tgt := 31) dX9_readsRows_23 (nmI (hσ1 _ _)) (nmI (inRk 2 rfl)) rfl (fun hc4 => ?_) (fun hc4 => ?_)
      · refine Rk.sp (G_bipush (pc := 26) dX9_readsRows_26 rfl) ?_
        refine Rk.sp (G_goto (pc := 28) (tgt := 33) dX9_readsRows_28 rfl) ?_
        exact Rk.end_ (fun h => h (inRk 10 rfl))
      · refine Rk.sp (G_bipush (pc := 31) dX9_readsRows_31 rfl) ?_
        exact Rk.end_ (fun h => h (inRk 15 rfl))
  · revert hp; revert p; intro t3 ht3
    try dsimp only
    refine Rk.isa_n (pc := 33) 1 (L' := [some (vr 172), some (vi t3), none]) rfl (Nat.le_of_ble_eq_true rfl) rfl dX9_readsRows_33 rfl ?_
    refine Rk.sp (G_iconst (pc := 34) dX9_readsRows_34) ?_
    refine Rk.isa_n (pc := 35) 2 (L' := [some (vr 172), some (vi t3), some (vi 1)]) rfl (Nat.le_of_ble_eq_true rfl) rfl dX9_readsRows_35 rfl ?_
    refine Rk.loop (pc := 36) (B := (fun p => Mo_readsRows_36_b t3 p.1 p.2)) (fun p => inR p.1 ∧ okS p.2) (fun p => [some (vr 172), some (vi t3), some (vi p.1)]) (fun p => (ms true μ p.2)) (fun p hp => ?_) (1, σ1) ⟨(inRk 1 rfl), hσ1⟩
    obtain ⟨v2_5, σ6⟩ := p
    obtain ⟨hv2_5, hσ6⟩ := hp
    try dsimp only
    unfold Mo_readsRows_36_b
    refine Rk.sp (G_iload_n (pc := 36) 2 rfl rfl dX9_readsRows_36) ?_
    refine Rk.if_eq (pc := 37) (tgt := 115) dX9_readsRows_37 (nmI hv2_5) rfl (fun hc7 => ?_) (fun hc7 => ?_)
    · refine Rk.sp (G_iload_n (pc := 115) 2 rfl rfl dX9_readsRows_115) ?_
      refine Rk.qzb (fun hb8 => ?_)
      exact Rk.end_ (fun h => G_zreturn (pc := 116) rfl (nz hb8) dX9_readsRows_116 (q_Z h hb8 hσ6))
    · refine Rk.sp (G_aload_n (pc := 40) 0 rfl rfl dX9_readsRows_40) ?_
      refine Rk.gI (pc := 41) flX9_193 cl9 rfl lb172 dX9_readsRows_41 ?_
      refine Rk.if_eq (pc := 44) (tgt := 115) dX9_readsRows_44 (nmI (hσ6 _ _)) rfl (fun hc9 => ?_) (fun hc9 => ?_)
      · refine Rk.sp (G_iload_n (pc := 115) 2 rfl rfl dX9_readsRows_115) ?_
        refine Rk.qzb (fun hb10 => ?_)
        exact Rk.end_ (fun h => G_zreturn (pc := 116) rfl (nz hb10) dX9_readsRows_116 (q_Z h hb10 hσ6))
      · refine Rk.sp (G_aload_n (pc := 47) 0 rfl rfl dX9_readsRows_47) ?_
        refine Rk.gI (pc := 48) flX9_193 cl9 rfl lb172 dX9_readsRows_48 ?_
        refine Rk.sp (G_iload_n (pc := 51) 1 rfl rfl dX9_readsRows_51) ?_
        refine Rk.icmp_eq (pc := 52) (tgt := 61) dX9_readsRows_52 (nmI (hσ6 _ _)) (nmI ht3) rfl (fun hc11 => ?_) (fun hc11 => ?_)
        · refine Rk.sp (G_aload_n (pc := 61) 0 rfl rfl dX9_readsRows_61) ?_
          refine Rk.gI (pc := 62) flX9_264 cl9 rfl lb172 dX9_readsRows_62 ?_
          refine Rk.sp (G_aload_n (pc := 65) 0 rfl rfl dX9_readsRows_65) ?_
          refine Rk.gI (pc := 66) flX9_173 cl9 rfl lb172 dX9_readsRows_66 ?_
          refine Rk.sp (G_iconst (pc := 69) dX9_readsRows_69) ?_
          refine Rk.join (P := fun p => inR p) (pcj := 80) (fun p => [some (vr 172), some (vi t3), none]) (fun p => [vi p, vi (σ6 172 15)]) (fun p => (ms true μ σ6)) ?_ (fun p hp => ?_)
          · refine Rk.icmp_ne (pc := 70) (tgt := 78) dX9_readsRows_70 (nmI (hσ6 _ _)) (nmI (inRk 3 rfl)) rfl (fun hc12 => ?_) (fun hc12 => ?_)
            · refine Rk.sp (G_bipush (pc := 73) dX9_readsRows_73 rfl) ?_
              refine Rk.sp (G_goto (pc := 75) (tgt := 80) dX9_readsRows_75 rfl) ?_
              refine Rk.fg [true, true, false] (L' := [some (vr 172), some (vi t3), none]) rfl ?_
              exact Rk.end_ (fun h => h (inRk 8 rfl))
            · refine Rk.sp (G_bipush (pc := 78) dX9_readsRows_78 rfl) ?_
              refine Rk.fg [true, true, false] (L' := [some (vr 172), some (vi t3), none]) rfl ?_
              exact Rk.end_ (fun h => h (inRk 16 rfl))
          · revert hp; revert p; intro t13 ht13
            try dsimp only
            refine Rk.icmp_ne (pc := 80) (tgt := 89) dX9_readsRows_80 (nmI (hσ6 _ _)) (nmI ht13) rfl (fun hc14 => ?_) (fun hc14 => ?_)
            · refine Rk.sp (G_aload_n (pc := 83) 0 rfl rfl dX9_readsRows_83) ?_
              refine Rk.sp (G_iconst (pc := 84) dX9_readsRows_84) ?_
              refine Rk.cZ (pc := 85) (Cl.v [vi 3] [] dX9_readsRows_85 ckX9_214 lb172 rfl rfl rfl (Nat.le_of_ble_eq_true rfl) (Nat.le_of_ble_eq_true rfl)) (k_Mo_bad 3 σ6 (inRk 3 rfl) hσ6) (fun r15 σ16 hr15 hσ16 => ?_)
              exact Rk.end_ (fun h => G_zreturn (pc := 88) rfl (nz hr15) dX9_readsRows_88 (q_Z h hr15 hσ16))
            · refine Rk.sp (G_aload_n (pc := 89) 0 rfl rfl dX9_readsRows_89) ?_
              refine Rk.cZ (pc := 90) (Cl.v [] [] dX9_readsRows_90 ckX9_280 lb172 rfl rfl rfl (Nat.le_of_ble_eq_true rfl) (Nat.le_of_ble_eq_true rfl)) (k_Mo_aRow σ6 hσ6) (fun r17 σ18 hr17 hσ18 => ?_)
              refine Rk.isa_n (pc := 93) 2 (L' := [some (vr 172), some (vi t3), some (vi r17)]) rfl (Nat.le_of_ble_eq_true rfl) rfl dX9_readsRows_93 rfl ?_
              refine Rk.sp (G_aload_n (pc := 94) 0 rfl rfl dX9_readsRows_94) ?_
              refine Rk.sp (G_dup (pc := 95) dX9_readsRows_95 (fun _ h => by cases h)) ?_
              refine Rk.gI (pc := 96) flX9_264 cl9 rfl lb172 dX9_readsRows_96 ?_
              refine Rk.sp (G_iload_n (pc := 99) 2 rfl rfl dX9_readsRows_99) ?_
              refine Rk.if_eq (pc := 100) (tgt := 107) dX9_readsRows_100 (nmI (inZ.R hr17)) rfl (fun hc19 => ?_) (fun hc19 => ?_)
              · refine Rk.sp (G_iconst (pc := 107) dX9_readsRows_107) ?_
                refine Rk.sp (G_iadd (pc := 108) dX9_readsRows_108) ?_
                refine Rk.pI (pc := 109) hσ18 (nmW _) flX9_264 cl9 rfl rfl lb172 dX9_readsRows_109 (fun σ20 hσ20 => ?_)
                refine Rk.sp (G_goto (pc := 112) (tgt := 36) dX9_readsRows_112 rfl) ?_
                exact Rk.end_ (fun h => h ⟨(inZ.R hr17), hσ20⟩)
              · refine Rk.sp (G_iconst (pc := 103) dX9_readsRows_103) ?_
                refine Rk.sp (G_goto (pc := 104) (tgt := 108) dX9_readsRows_104 rfl) ?_
                refine Rk.sp (G_iadd (pc := 108) dX9_readsRows_108) ?_
                refine Rk.pI (pc := 109) hσ18 (nmW _) flX9_264 cl9 rfl rfl lb172 dX9_readsRows_109 (fun σ21 hσ21 => ?_)
                refine Rk.sp (G_goto (pc := 112) (tgt := 36) dX9_readsRows_112 rfl) ?_
                exact Rk.end_ (fun h => h ⟨(inZ.R hr17), hσ21⟩)
        · refine Rk.sp (G_aload_n (pc := 55) 0 rfl rfl dX9_readsRows_55) ?_
          refine Rk.sp (G_iconst (pc := 56) dX9_readsRows_56) ?_
          refine Rk.cZ (pc := 57) (Cl.v [vi 1] [] dX9_readsRows_57 ckX9_214 lb172 rfl rfl rfl (Nat.le_of_ble_eq_true rfl) (Nat.le_of_ble_eq_true rfl)) (k_Mo_bad 1 σ6 (inRk 1 rfl) hσ6) (fun r22 σ23 hr22 hσ23 => ?_)
          exact Rk.end_ (fun h => G_zreturn (pc := 60) rfl (nz hr22) dX9_readsRows_60 (q_Z h hr22 hσ23))
theorem k_Mo_rests {κ : Kx} {μ : Sg} (σ : Sg) (hok : okS σ) : CtRI κ mX9_rests 0 [vr 172] true μ σ (Mo_rests σ) := by
  intro r h
  refine con_of (by decide) (Nat.le_of_ble_eq_true rfl) 2 ?_
  refine (?_ : Rk κ mX9_rests _ 0 [some (vr 172), none, none] [] (ms true μ σ) (Mo_rests σ) (fun a => a = r)) _ h rfl
  unfold Mo_rests
  refine Rk.sp (G_iconst (pc := 0) dX9_rests_0) ?_
  refine Rk.isa_n (pc := 1) 1 (L' := [some (vr 172), some (vi 0), none]) rfl (Nat.le_of_ble_eq_true rfl) rfl dX9_rests_1 rfl ?_
  refine Rk.sp (G_iconst (pc := 2) dX9_rests_2) ?_
  refine Rk.isa_n (pc := 3) 2 (L' := [some (vr 172), some (vi 0), some (vi 0)]) rfl (Nat.le_of_ble_eq_true rfl) rfl dX9_rests_3 rfl ?_
  refine Rk.loop (pc := 4) (B := (fun p => Mo_rests_4_b σ p.1 p.2)) (fun p => inR p.1 ∧ inR p.2) (fun p => [some (vr 172), some (vi p.1), some (vi p.2)]) (fun p => (ms true μ σ)) (fun p hp => ?_) (0, 0) ⟨(inRk 0 rfl), (inRk 0 rfl)⟩
  obtain ⟨v1_1, v2_2⟩ := p
  obtain ⟨hv1_1, hv2_2⟩ := hp
  try dsimp only
  unfold Mo_rests_4_b
  refine Rk.sp (G_iload_n (pc := 4) 2 rfl rfl dX9_rests_4) ?_
  refine Rk.sp (G_iconst (pc := 5) dX9_rests_5) ?_
  refine Rk.icmp_ge (pc := 6) (tgt := 87) dX9_rests_6 (nmI hv2_2) (nmI (inRk 4 rfl)) rfl (fun hc3 => ?_) (fun hc3 => ?_)
  · refine Rk.sp (G_iload_n (pc := 9) 1 rfl rfl dX9_rests_9) ?_
    refine Rk.sp (G_aload_n (pc := 10) 0 rfl rfl dX9_rests_10) ?_
    refine Rk.gR (pc := 11) 173 flX9_7 cl9 rfl lb172 dX9_rests_11 ?_
    refine Rk.sp (G_sipush (pc := 14) dX9_rests_14 rfl) ?_
    refine Rk.sp (G_iconst (pc := 17) dX9_rests_17) ?_
    refine Rk.sp (G_iload_n (pc := 18) 2 rfl rfl dX9_rests_18) ?_
    refine Rk.sp (G_iconst (pc := 19) dX9_rests_19) ?_
    refine Rk.sp (G_ixor (pc := 20) dX9_rests_20) ?_
    refine Rk.sp (G_imul (pc := 21) dX9_rests_21) ?_
    refine Rk.sp (G_iadd (pc := 22) dX9_rests_22) ?_
    refine Rk.al (pc := 23) lb173 dX9_rests_23 (fun hi4 => ?_)
    refine Rk.sp (G_aload_n (pc := 24) 0 rfl rfl dX9_rests_24) ?_
    refine Rk.gR (pc := 25) 173 flX9_7 cl9 rfl lb172 dX9_rests_25 ?_
    refine Rk.sp (G_sipush (pc := 28) dX9_rests_28 rfl) ?_
    refine Rk.sp (G_iconst (pc := 31) dX9_rests_31) ?_
    refine Rk.sp (G_iload_n (pc := 32) 2 rfl rfl dX9_rests_32) ?_
    refine Rk.sp (G_imul (pc := 33) dX9_rests_33) ?_
    refine Rk.sp (G_iadd (pc := 34) dX9_rests_34) ?_
    refine Rk.al (pc := 35) lb173 dX9_rests_35 (fun hi5 => ?_)
    refine Rk.icmp_lt (pc := 36) (tgt := 78) dX9_rests_36 (nmI (hok _ _)) (nmI (hok _ _)) rfl (fun hc6 => ?_) (fun hc6 => ?_)
    · refine Rk.sp (G_iconst (pc := 78) dX9_rests_78) ?_
      refine Rk.sp (G_ior (pc := 79) dX9_rests_79) ?_
      refine Rk.ist_n (pc := 80) 1 (fun v1_7 => [some (vr 172), some (vi v1_7), some (vi v2_2)]) rfl (Nat.le_of_ble_eq_true rfl) rfl dX9_rests_80 (nmI (bOr_R _ _)) (fun _ => rfl) (fun v1_7 hv1_7 => ?_)
      refine Rk.inc (pc := 81) 2 (fun v2_8 => [some (vr 172), some (vi v1_7), some (vi v2_8)]) rfl (Nat.le_of_ble_eq_true rfl) rfl dX9_rests_81 (fun _ => rfl) (fun v2_8 hv2_8 => ?_)
      refine Rk.sp (G_goto (pc := 84) (tgt := 4) dX9_rests_84 rfl) ?_
      exact Rk.end_ (fun h => h ⟨hv1_7, hv2_8⟩)
    · refine Rk.sp (G_aload_n (pc := 39) 0 rfl rfl dX9_rests_39) ?_
      refine Rk.gR (pc := 40) 173 flX9_7 cl9 rfl lb172 dX9_rests_40 ?_
      refine Rk.sp (G_sipush (pc := 43) dX9_rests_43 rfl) ?_
      refine Rk.sp (G_iconst (pc := 46) dX9_rests_46) ?_
      refine Rk.sp (G_iload_n (pc := 47) 2 rfl rfl dX9_rests_47) ?_
      refine Rk.sp (G_iconst (pc := 48) dX9_rests_48) ?_
      refine Rk.sp (G_ixor (pc := 49) dX9_rests_49) ?_
      refine Rk.sp (G_imul (pc := 50) dX9_rests_50) ?_
      refine Rk.sp (G_iadd (pc := 51) dX9_rests_51) ?_
      refine Rk.sp (G_iconst (pc := 52) dX9_rests_52) ?_
      refine Rk.sp (G_iadd (pc := 53) dX9_rests_53) ?_
      refine Rk.al (pc := 54) lb173 dX9_rests_54 (fun hi9 => ?_)
      refine Rk.sp (G_aload_n (pc := 55) 0 rfl rfl dX9_rests_55) ?_
      refine Rk.gR (pc := 56) 173 flX9_7 cl9 rfl lb172 dX9_rests_56 ?_
      refine Rk.sp (G_sipush (pc := 59) dX9_rests_59 rfl) ?_
      refine Rk.sp (G_iconst (pc := 62) dX9_rests_62) ?_
      refine Rk.sp (G_iload_n (pc := 63) 2 rfl rfl dX9_rests_63) ?_
      refine Rk.sp (G_imul (pc := 64) dX9_rests_64) ?_
      refine Rk.sp (G_iadd (pc := 65) dX9_rests_65) ?_
      refine Rk.sp (G_iconst (pc := 66) dX9_rests_66) ?_
      refine Rk.sp (G_iadd (pc := 67) dX9_rests_67) ?_
      refine Rk.al (pc := 68) lb173 dX9_rests_68 (fun hi10 => ?_)
      refine Rk.icmp_lt (pc := 69) (tgt := 78) dX9_rests_69 (nmI (hok _ _)) (nmI (hok _ _)) rfl (fun hc11 => ?_) (fun hc11 => ?_)
      · refine Rk.sp (G_iconst (pc := 78) dX9_rests_78) ?_
        refine Rk.sp (G_ior (pc := 79) dX9_rests_79) ?_
        refine Rk.ist_n (pc := 80) 1 (fun v1_12 => [some (vr 172), some (vi v1_12), some (vi v2_2)]) rfl (Nat.le_of_ble_eq_true rfl) rfl dX9_rests_80 (nmI (bOr_R _ _)) (fun _ => rfl) (fun v1_12 hv1_12 => ?_)
        refine Rk.inc (pc := 81) 2 (fun v2_13 => [some (vr 172), some (vi v1_12), some (vi v2_13)]) rfl (Nat.le_of_ble_eq_true rfl) rfl dX9_rests_81 (fun _ => rfl) (fun v2_13 hv2_13 => ?_)
        refine Rk.sp (G_goto (pc := 84) (tgt := 4) dX9_rests_84 rfl) ?_
        exact Rk.end_ (fun h => h ⟨hv1_12, hv2_13⟩)
      · refine Rk.sp (G_iconst (pc := 72) dX9_rests_72) ?_
        refine Rk.sp (G_iload_n (pc := 73) 2 rfl rfl dX9_rests_73) ?_
        refine Rk.sp (G_ishl (pc := 74) dX9_rests_74) ?_
        refine Rk.sp (G_goto (pc := 75) (tgt := 79) dX9_rests_75 rfl) ?_
        refine Rk.sp (G_ior (pc := 79) dX9_rests_79) ?_
        refine Rk.ist_n (pc := 80) 1 (fun v1_14 => [some (vr 172), some (vi v1_14), some (vi v2_2)]) rfl (Nat.le_of_ble_eq_true rfl) rfl dX9_rests_80 (nmI (bOr_R _ _)) (fun _ => rfl) (fun v1_14 hv1_14 => ?_)
        refine Rk.inc (pc := 81) 2 (fun v2_15 => [some (vr 172), some (vi v1_14), some (vi v2_15)]) rfl (Nat.le_of_ble_eq_true rfl) rfl dX9_rests_81 (fun _ => rfl) (fun v2_15 hv2_15 => ?_)
        refine Rk.sp (G_goto (pc := 84) (tgt := 4) dX9_rests_84 rfl) ?_
        exact Rk.end_ (fun h => h ⟨hv1_14, hv2_15⟩)
  · refine Rk.sp (G_iload_n (pc := 87) 1 rfl rfl dX9_rests_87) ?_
    exact Rk.end_ (fun h => G_ireturn (pc := 88) rfl dX9_rests_88 (q_RI h hv1_1))
theorem k_Mo_ring {κ : Kx} {μ : Sg} (σ : Sg) (hok : okS σ) : CtI κ mX9_ring 1 [vr 172] true μ σ (Mo_ring σ) := by
  intro r τ h
  refine con_of (by decide) (Nat.le_of_ble_eq_true rfl) 1 ?_
  refine (?_ : Rk κ mX9_ring _ 0 [some (vr 172), none] [] (ms true μ σ) (Mo_ring σ) (fun a => a = (r, τ))) _ h rfl
  unfold Mo_ring
  refine Rk.sp (G_aload_n (pc := 0) 0 rfl rfl dX9_ring_0) ?_
  refine Rk.cV (pc := 1) (Cl.v [] [] dX9_ring_1 ckX9_345 lb172 rfl rfl rfl (Nat.le_of_ble_eq_true rfl) (Nat.le_of_ble_eq_true rfl)) (k_Mo_keeps σ hok) (fun σ1 hσ1 => ?_)
  refine Rk.sp (G_iconst (pc := 4) dX9_ring_4) ?_
  refine Rk.isa_n (pc := 5) 1 (L' := [some (vr 172), some (vi 0)]) rfl (Nat.le_of_ble_eq_true rfl) rfl dX9_ring_5 rfl ?_
  refine Rk.loop (pc := 6) (B := (fun p => Mo_ring_6_b p.1 p.2)) (fun p => inR p.1 ∧ okS p.2) (fun p => [some (vr 172), some (vi p.1)]) (fun p => (ms true μ p.2)) (fun p hp => ?_) (0, σ1) ⟨(inRk 0 rfl), hσ1⟩
  obtain ⟨v1_2, σ3⟩ := p
  obtain ⟨hv1_2, hσ3⟩ := hp
  try dsimp only
  unfold Mo_ring_6_b
  refine Rk.sp (G_iload_n (pc := 6) 1 rfl rfl dX9_ring_6) ?_
  refine Rk.sp (G_iconst (pc := 7) dX9_ring_7) ?_
  refine Rk.icmp_ge (pc := 8) (tgt := 40) dX9_ring_8 (nmI hv1_2) (nmI (inRk 2 rfl)) rfl (fun hc4 => ?_) (fun hc4 => ?_)
  · refine Rk.sp (G_aload_n (pc := 11) 0 rfl rfl dX9_ring_11) ?_
    refine Rk.gR (pc := 12) 173 flX9_7 cl9 rfl lb172 dX9_ring_12 ?_
    refine Rk.sp (G_iconst (pc := 15) dX9_ring_15) ?_
    refine Rk.sp (G_iload_n (pc := 16) 1 rfl rfl dX9_ring_16) ?_
    refine Rk.sp (G_iadd (pc := 17) dX9_ring_17) ?_
    refine Rk.sp (G_iconst (pc := 18) dX9_ring_18) ?_
    refine Rk.sp (G_aload_n (pc := 19) 0 rfl rfl dX9_ring_19) ?_
    refine Rk.gR (pc := 20) 173 flX9_7 cl9 rfl lb172 dX9_ring_20 ?_
    refine Rk.sp (G_iconst (pc := 23) dX9_ring_23) ?_
    refine Rk.sp (G_iload_n (pc := 24) 1 rfl rfl dX9_ring_24) ?_
    refine Rk.sp (G_iadd (pc := 25) dX9_ring_25) ?_
    refine Rk.al (pc := 26) lb173 dX9_ring_26 (fun hi5 => ?_)
    refine Rk.sp (G_bipush (pc := 27) dX9_ring_27 rfl) ?_
    refine Rk.sp (G_isub (pc := 29) dX9_ring_29) ?_
    refine Rk.sp (Go.n0 (nmW _)) ?_
    refine Rk.cRI (pc := 30) (Cl.s [vi 0, vi (wr ((σ3 173 ((4 + v1_2)).toNat) - 20))] [vi (4 + v1_2), vr 173] dX9_ring_30 ckX9_69 rfl rfl (Nat.le_of_ble_eq_true rfl) (Nat.le_of_ble_eq_true rfl)) (k_Mo_greater 0 (wr ((σ3 173 ((4 + v1_2)).toNat) - 20)) (inRk 0 rfl) (wrR _)) (fun r6 hr6 => ?_)
    refine Rk.as (pc := 33) hσ3 (nmI hr6) lb173 dX9_ring_33 (fun hi8 σ7 hσ7 => ?_)
    refine Rk.inc (pc := 34) 1 (fun v1_9 => [some (vr 172), some (vi v1_9)]) rfl (Nat.le_of_ble_eq_true rfl) rfl dX9_ring_34 (fun _ => rfl) (fun v1_9 hv1_9 => ?_)
    refine Rk.sp (G_goto (pc := 37) (tgt := 6) dX9_ring_37 rfl) ?_
    exact Rk.end_ (fun h => h ⟨hv1_9, hσ7⟩)
  · refine Rk.sp (G_iconst (pc := 40) dX9_ring_40) ?_
    refine Rk.isa_n (pc := 41) 1 (L' := [some (vr 172), some (vi 0)]) rfl (Nat.le_of_ble_eq_true rfl) rfl dX9_ring_41 rfl ?_
    refine Rk.loop (pc := 42) (B := (fun p => Mo_ring_42_b p.1 p.2)) (fun p => inR p.1 ∧ okS p.2) (fun p => [some (vr 172), some (vi p.1)]) (fun p => (ms true μ p.2)) (fun p hp => ?_) (0, σ3) ⟨(inRk 0 rfl), hσ3⟩
    obtain ⟨v1_10, σ11⟩ := p
    obtain ⟨hv1_10, hσ11⟩ := hp
    try dsimp only
    unfold Mo_ring_42_b
    refine Rk.sp (G_iload_n (pc := 42) 1 rfl rfl dX9_ring_42) ?_
    refine Rk.sp (G_aload_n (pc := 43) 0 rfl rfl dX9_ring_43) ?_
    refine Rk.gR (pc := 44) 173 flX9_7 cl9 rfl lb172 dX9_ring_44 ?_
    refine Rk.sp (G_iconst (pc := 47) dX9_ring_47) ?_
    refine Rk.alc (pc := 48) 3 rfl (Nat.le_of_ble_eq_true rfl) lb173 dX9_ring_48 ?_
    refine Rk.icmp_ge (pc := 49) (tgt := 66) dX9_ring_49 (nmI hv1_10) (nmI (hσ11 _ _)) rfl (fun hc12 => ?_) (fun hc12 => ?_)
    · refine Rk.sp (G_aload_n (pc := 52) 0 rfl rfl dX9_ring_52) ?_
      refine Rk.sp (G_iload_n (pc := 53) 1 rfl rfl dX9_ring_53) ?_
      refine Rk.sp (G_bipush (pc := 54) dX9_ring_54 rfl) ?_
      refine Rk.sp (G_iconst (pc := 56) dX9_ring_56) ?_
      refine Rk.cV (pc := 57) (Cl.v [vi v1_10, vi 8, vi (-1)] [] dX9_ring_57 ckX9_334 lb172 rfl rfl rfl (Nat.le_of_ble_eq_true rfl) (Nat.le_of_ble_eq_true rfl)) (k_Mo_puts0 v1_10 8 (-1) σ11 hv1_10 (inRk 8 rfl) (inRk (-1) rfl) hσ11) (fun σ13 hσ13 => ?_)
      refine Rk.inc (pc := 60) 1 (fun v1_14 => [some (vr 172), some (vi v1_14)]) rfl (Nat.le_of_ble_eq_true rfl) rfl dX9_ring_60 (fun _ => rfl) (fun v1_14 hv1_14 => ?_)
      refine Rk.sp (G_goto (pc := 63) (tgt := 42) dX9_ring_63 rfl) ?_
      exact Rk.end_ (fun h => h ⟨hv1_14, hσ13⟩)
    · refine Rk.sp (G_aload_n (pc := 66) 0 rfl rfl dX9_ring_66) ?_
      refine Rk.sp (G_iconst (pc := 67) dX9_ring_67) ?_
      refine Rk.sp (G_iconst (pc := 68) dX9_ring_68) ?_
      refine Rk.sp (G_iconst (pc := 69) dX9_ring_69) ?_
      refine Rk.cV (pc := 70) (Cl.v [vi 4, vi (-1), vi (-1)] [] dX9_ring_70 ckX9_342 lb172 rfl rfl rfl (Nat.le_of_ble_eq_true rfl) (Nat.le_of_ble_eq_true rfl)) (k_Mo_notes 4 (-1) (-1) σ11 (inRk 4 rfl) (inRk (-1) rfl) (inRk (-1) rfl) hσ11) (fun σ15 hσ15 => ?_)
      refine Rk.sp (G_aload_n (pc := 73) 0 rfl rfl dX9_ring_73) ?_
      refine Rk.gR (pc := 74) 173 flX9_7 cl9 rfl lb172 dX9_ring_74 ?_
      refine Rk.sp (G_iconst (pc := 77) dX9_ring_77) ?_
      refine Rk.alc (pc := 78) 4 rfl (Nat.le_of_ble_eq_true rfl) lb173 dX9_ring_78 ?_
      refine Rk.sp (G_aload_n (pc := 79) 0 rfl rfl dX9_ring_79) ?_
      refine Rk.gR (pc := 80) 173 flX9_7 cl9 rfl lb172 dX9_ring_80 ?_
      refine Rk.sp (G_iconst (pc := 83) dX9_ring_83) ?_
      refine Rk.alc (pc := 84) 5 rfl (Nat.le_of_ble_eq_true rfl) lb173 dX9_ring_84 ?_
      refine Rk.sp (G_iadd (pc := 85) dX9_ring_85) ?_
      refine Rk.sp (Go.n0 (nmW _)) ?_
      exact Rk.end_ (fun h => G_ireturn (pc := 86) rfl dX9_ring_86 (q_I h (wrR _) hσ15))
theorem k_Mo_say {κ : Kx} {μ : Sg} (a1 : Int) (a2 : Int) (a3 : Int) (a4 : Int) (σ : Sg) (ha1 : inR a1) (ha2 : inR a2) (ha3 : inR a3) (ha4 : inR a4) (hok : okS σ) : CtI κ mX9_say 3 [vr 172, vi a1, vi a2, vi a3, vi a4] true μ σ (Mo_say a1 a2 a3 a4 σ) := by
  intro r τ h
  refine con_of (by decide) (Nat.le_of_ble_eq_true rfl) 0 ?_
  refine (?_ : Rk κ mX9_say _ 0 [some (vr 172), some (vi a1), some (vi a2), some (vi a3), some (vi a4)] [] (ms true μ σ) (Mo_say a1 a2 a3 a4 σ) (fun a => a = (r, τ))) _ h rfl
  unfold Mo_say
  refine Rk.sp (G_iload_n (pc := 0) 1 rfl rfl dX9_say_0) ?_
  refine Rk.cRZ (pc := 1) (Cl.s [vi a1] [] dX9_say_1 ckX9_91 rfl rfl (Nat.le_of_ble_eq_true rfl) (Nat.le_of_ble_eq_true rfl)) (k_Mo_isOne a1 ha1) (fun r1 hr1 => ?_)
  refine Rk.if_eq (pc := 4) (tgt := 38) dX9_say_4 (nmI (inZ.R hr1)) rfl (fun hc2 => ?_) (fun hc2 => ?_)
  · refine Rk.sp (G_iconst (pc := 38) dX9_say_38) ?_
    exact Rk.end_ (fun h => G_ireturn (pc := 39) rfl dX9_say_39 (q_I h (inRk (-1) rfl) hok))
  · refine Rk.sp (G_iload_n (pc := 7) 2 rfl rfl dX9_say_7) ?_
    refine Rk.sp (G_iconst (pc := 8) dX9_say_8) ?_
    refine Rk.sp (G_bipush (pc := 9) dX9_say_9 rfl) ?_
    refine Rk.cRZ (pc := 11) (Cl.s [vi a2, vi 1, vi 99] [] dX9_say_11 ckX9_72 rfl rfl (Nat.le_of_ble_eq_true rfl) (Nat.le_of_ble_eq_true rfl)) (k_Mo_isIn a2 1 99 ha2 (inRk 1 rfl) (inRk 99 rfl)) (fun r3 hr3 => ?_)
    refine Rk.if_eq (pc := 14) (tgt := 38) dX9_say_14 (nmI (inZ.R hr3)) rfl (fun hc4 => ?_) (fun hc4 => ?_)
    · refine Rk.sp (G_iconst (pc := 38) dX9_say_38) ?_
      exact Rk.end_ (fun h => G_ireturn (pc := 39) rfl dX9_say_39 (q_I h (inRk (-1) rfl) hok))
    · refine Rk.sp (G_iload_n (pc := 17) 3 rfl rfl dX9_say_17) ?_
      refine Rk.sp (G_iconst (pc := 18) dX9_say_18) ?_
      refine Rk.sp (G_bipush (pc := 19) dX9_say_19 rfl) ?_
      refine Rk.cRZ (pc := 21) (Cl.s [vi a3, vi 0, vi 9] [] dX9_say_21 ckX9_72 rfl rfl (Nat.le_of_ble_eq_true rfl) (Nat.le_of_ble_eq_true rfl)) (k_Mo_isIn a3 0 9 ha3 (inRk 0 rfl) (inRk 9 rfl)) (fun r5 hr5 => ?_)
      refine Rk.if_eq (pc := 24) (tgt := 38) dX9_say_24 (nmI (inZ.R hr5)) rfl (fun hc6 => ?_) (fun hc6 => ?_)
      · refine Rk.sp (G_iconst (pc := 38) dX9_say_38) ?_
        exact Rk.end_ (fun h => G_ireturn (pc := 39) rfl dX9_say_39 (q_I h (inRk (-1) rfl) hok))
      · refine Rk.sp (G_aload_n (pc := 27) 0 rfl rfl dX9_say_27) ?_
        refine Rk.gR (pc := 28) 173 flX9_7 cl9 rfl lb172 dX9_say_28 ?_
        refine Rk.sp (G_iconst (pc := 31) dX9_say_31) ?_
        refine Rk.alc (pc := 32) 3 rfl (Nat.le_of_ble_eq_true rfl) lb173 dX9_say_32 ?_
        refine Rk.sp (G_bipush (pc := 33) dX9_say_33 rfl) ?_
        refine Rk.icmp_ne (pc := 35) (tgt := 40) dX9_say_35 (nmI (hok _ _)) (nmI (inRk 60 rfl)) rfl (fun hc7 => ?_) (fun hc7 => ?_)
        · refine Rk.sp (G_iconst (pc := 38) dX9_say_38) ?_
          exact Rk.end_ (fun h => G_ireturn (pc := 39) rfl dX9_say_39 (q_I h (inRk (-1) rfl) hok))
        · refine Rk.sp (G_aload_n (pc := 40) 0 rfl rfl dX9_say_40) ?_
          refine Rk.cV (pc := 41) (Cl.v [] [] dX9_say_41 ckX9_345 lb172 rfl rfl rfl (Nat.le_of_ble_eq_true rfl) (Nat.le_of_ble_eq_true rfl)) (k_Mo_keeps σ hok) (fun σ8 hσ8 => ?_)
          refine Rk.sp (G_aload_n (pc := 44) 0 rfl rfl dX9_say_44) ?_
          refine Rk.sp (G_iload_n (pc := 45) 1 rfl rfl dX9_say_45) ?_
          refine Rk.sp (G_iload_n (pc := 46) 2 rfl rfl dX9_say_46) ?_
          refine Rk.sp (G_iload_n (pc := 47) 3 rfl rfl dX9_say_47) ?_
          refine Rk.sp (G_iload_w (pc := 48) 4 rfl dX9_say_48) ?_
          refine Rk.join (P := fun p => inR p) (pcj := 58) (fun p => [none, none, none, none, none]) (fun p => [vi p, vi a3, vi a2, vi a1, vr 172]) (fun p => (ms true μ σ8)) ?_ (fun p hp => ?_)
          · refine Rk.if_eq (pc := 50) (tgt := 57) dX9_say_50 (nmI ha4) rfl (fun hc9 => ?_) (fun hc9 => ?_)
            · refine Rk.sp (G_iconst (pc := 57) dX9_say_57) ?_
              refine Rk.fg [false, false, false, false, false] (L' := [none, none, none, none, none]) rfl ?_
              exact Rk.end_ (fun h => h (inRk 0 rfl))
            · refine Rk.sp (G_iconst (pc := 53) dX9_say_53) ?_
              refine Rk.sp (G_goto (pc := 54) (tgt := 58) dX9_say_54 rfl) ?_
              refine Rk.fg [false, false, false, false, false] (L' := [none, none, none, none, none]) rfl ?_
              exact Rk.end_ (fun h => h (inRk 1 rfl))
          · revert hp; revert p; intro t10 ht10
            try dsimp only
            refine Rk.cI (pc := 58) (Cl.v [vi a1, vi a2, vi a3, vi t10] [] dX9_say_58 ckX9_348 lb172 rfl rfl rfl (Nat.le_of_ble_eq_true rfl) (Nat.le_of_ble_eq_true rfl)) (k_Mo_saysNow a1 a2 a3 t10 σ8 ha1 ha2 ha3 ht10 hσ8) (fun r11 σ12 hr11 hσ12 => ?_)
            exact Rk.end_ (fun h => G_ireturn (pc := 61) rfl dX9_say_61 (q_I h hr11 hσ12))
