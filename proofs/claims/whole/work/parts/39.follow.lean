theorem k_Mo_set {κ : Kx} {μ : Sg} (a1 : Int) (a2 : Int) (a3 : Int) (σ : Sg) (ha1 : inR a1) (ha2 : inR a2) (ha3 : inR a3) (hok : okS σ) : CtZ κ mX9_set 2 [vr 172, vi a1, vi a2, vi a3] true μ σ (Mo_set a1 a2 a3 σ) := by
  intro r τ h
  refine con_of (by decide) (Nat.le_of_ble_eq_true rfl) 0 ?_
  refine (?_ : Rk κ mX9_set _ 0 [some (vr 172), some (vi a1), some (vi a2), some (vi a3)] [] (ms true μ σ) (Mo_set a1 a2 a3 σ) (fun a => a = (r, τ))) _ h rfl
  unfold Mo_set
  refine Rk.sp (G_iload_n (pc := 0) 1 rfl rfl dX9_set_0) ?_
  refine Rk.ite (fun hc1 => ?_) (fun hc1 => ?_)
  · refine Rk.tblI (pc := 1) (tgt := 32) 0 hc1 dX9_set_1 (nmI ha1) (by decide) (by decide) rfl rfl ?_
    refine Rk.sp (G_iload_n (pc := 32) 3 rfl rfl dX9_set_32) ?_
    refine Rk.sp (G_iconst (pc := 33) dX9_set_33) ?_
    refine Rk.sp (G_sipush (pc := 34) dX9_set_34 rfl) ?_
    refine Rk.cRZ (pc := 37) (Cl.s [vi a3, vi 0, vi 9999] [] dX9_set_37 ckX9_72 rfl rfl (Nat.le_of_ble_eq_true rfl) (Nat.le_of_ble_eq_true rfl)) (k_Mo_isIn a3 0 9999 ha3 (inRk 0 rfl) (inRk 9999 rfl)) (fun r2 hr2 => ?_)
    refine Rk.if_ne (pc := 40) (tgt := 45) dX9_set_40 (nmI (inZ.R hr2)) rfl (fun hc3 => ?_) (fun hc3 => ?_)
    · refine Rk.sp (G_iconst (pc := 43) dX9_set_43) ?_
      exact Rk.end_ (fun h => G_zreturn (pc := 44) rfl (nz inZ0) dX9_set_44 (q_Z h inZ0 hok))
    · refine Rk.sp (G_aload_n (pc := 45) 0 rfl rfl dX9_set_45) ?_
      refine Rk.gR (pc := 46) 173 flX9_7 cl9 rfl lb172 dX9_set_46 ?_
      refine Rk.sp (G_iconst (pc := 49) dX9_set_49) ?_
      refine Rk.sp (G_iload_n (pc := 50) 3 rfl rfl dX9_set_50) ?_
      refine Rk.asc (pc := 51) hok (nmI ha3) 0 rfl (Nat.le_of_ble_eq_true rfl) lb173 dX9_set_51 (fun σ4 hσ4 => ?_)
      refine Rk.sp (G_aload_n (pc := 52) 0 rfl rfl dX9_set_52) ?_
      refine Rk.gR (pc := 53) 173 flX9_7 cl9 rfl lb172 dX9_set_53 ?_
      refine Rk.sp (G_iconst (pc := 56) dX9_set_56) ?_
      refine Rk.sp (G_iconst (pc := 57) dX9_set_57) ?_
      refine Rk.asc (pc := 58) hσ4 (nmI (inRk 0 rfl)) 3 rfl (Nat.le_of_ble_eq_true rfl) lb173 dX9_set_58 (fun σ5 hσ5 => ?_)
      refine Rk.sp (G_goto (pc := 59) (tgt := 160) dX9_set_59 rfl) ?_
      refine Rk.sp (G_aload_n (pc := 160) 0 rfl rfl dX9_set_160) ?_
      refine Rk.cV (pc := 161) (Cl.v [] [] dX9_set_161 ckX9_86 lb172 rfl rfl rfl (Nat.le_of_ble_eq_true rfl) (Nat.le_of_ble_eq_true rfl)) (k_Mo_forgets σ5 hσ5) (fun σ6 hσ6 => ?_)
      refine Rk.sp (G_iconst (pc := 164) dX9_set_164) ?_
      exact Rk.end_ (fun h => G_zreturn (pc := 165) rfl (nz inZ1) dX9_set_165 (q_Z h inZ1 hσ6))
  · refine Rk.ite (fun hc7 => ?_) (fun hc7 => ?_)
    · refine Rk.tblI (pc := 1) (tgt := 62) 1 hc7 dX9_set_1 (nmI ha1) (by decide) (by decide) rfl rfl ?_
      refine Rk.sp (G_iload_n (pc := 62) 2 rfl rfl dX9_set_62) ?_
      refine Rk.cRZ (pc := 63) (Cl.s [vi a2] [] dX9_set_63 ckX9_91 rfl rfl (Nat.le_of_ble_eq_true rfl) (Nat.le_of_ble_eq_true rfl)) (k_Mo_isOne a2 ha2) (fun r8 hr8 => ?_)
      refine Rk.if_eq (pc := 66) (tgt := 79) dX9_set_66 (nmI (inZ.R hr8)) rfl (fun hc9 => ?_) (fun hc9 => ?_)
      · refine Rk.sp (G_iconst (pc := 79) dX9_set_79) ?_
        exact Rk.end_ (fun h => G_zreturn (pc := 80) rfl (nz inZ0) dX9_set_80 (q_Z h inZ0 hok))
      · refine Rk.sp (G_iload_n (pc := 69) 3 rfl rfl dX9_set_69) ?_
        refine Rk.sp (G_iconst (pc := 70) dX9_set_70) ?_
        refine Rk.sp (G_bipush (pc := 71) dX9_set_71 rfl) ?_
        refine Rk.cRZ (pc := 73) (Cl.s [vi a3, vi 0, vi 99] [] dX9_set_73 ckX9_72 rfl rfl (Nat.le_of_ble_eq_true rfl) (Nat.le_of_ble_eq_true rfl)) (k_Mo_isIn a3 0 99 ha3 (inRk 0 rfl) (inRk 99 rfl)) (fun r10 hr10 => ?_)
        refine Rk.if_ne (pc := 76) (tgt := 81) dX9_set_76 (nmI (inZ.R hr10)) rfl (fun hc11 => ?_) (fun hc11 => ?_)
        · refine Rk.sp (G_iconst (pc := 79) dX9_set_79) ?_
          exact Rk.end_ (fun h => G_zreturn (pc := 80) rfl (nz inZ0) dX9_set_80 (q_Z h inZ0 hok))
        · refine Rk.sp (G_aload_n (pc := 81) 0 rfl rfl dX9_set_81) ?_
          refine Rk.gR (pc := 82) 173 flX9_7 cl9 rfl lb172 dX9_set_82 ?_
          refine Rk.sp (G_iconst (pc := 85) dX9_set_85) ?_
          refine Rk.sp (G_iload_n (pc := 86) 2 rfl rfl dX9_set_86) ?_
          refine Rk.sp (G_iadd (pc := 87) dX9_set_87) ?_
          refine Rk.sp (G_iload_n (pc := 88) 3 rfl rfl dX9_set_88) ?_
          refine Rk.as (pc := 89) hok (nmI ha3) lb173 dX9_set_89 (fun hi13 σ12 hσ12 => ?_)
          refine Rk.sp (G_goto (pc := 90) (tgt := 160) dX9_set_90 rfl) ?_
          refine Rk.sp (G_aload_n (pc := 160) 0 rfl rfl dX9_set_160) ?_
          refine Rk.cV (pc := 161) (Cl.v [] [] dX9_set_161 ckX9_86 lb172 rfl rfl rfl (Nat.le_of_ble_eq_true rfl) (Nat.le_of_ble_eq_true rfl)) (k_Mo_forgets σ12 hσ12) (fun σ14 hσ14 => ?_)
          refine Rk.sp (G_iconst (pc := 164) dX9_set_164) ?_
          exact Rk.end_ (fun h => G_zreturn (pc := 165) rfl (nz inZ1) dX9_set_165 (q_Z h inZ1 hσ14))
    · refine Rk.ite (fun hc15 => ?_) (fun hc15 => ?_)
      · refine Rk.tblI (pc := 1) (tgt := 93) 2 hc15 dX9_set_1 (nmI ha1) (by decide) (by decide) rfl rfl ?_
        refine Rk.sp (G_iload_n (pc := 93) 2 rfl rfl dX9_set_93) ?_
        refine Rk.cRZ (pc := 94) (Cl.s [vi a2] [] dX9_set_94 ckX9_91 rfl rfl (Nat.le_of_ble_eq_true rfl) (Nat.le_of_ble_eq_true rfl)) (k_Mo_isOne a2 ha2) (fun r16 hr16 => ?_)
        refine Rk.if_eq (pc := 97) (tgt := 111) dX9_set_97 (nmI (inZ.R hr16)) rfl (fun hc17 => ?_) (fun hc17 => ?_)
        · refine Rk.sp (G_iconst (pc := 111) dX9_set_111) ?_
          exact Rk.end_ (fun h => G_zreturn (pc := 112) rfl (nz inZ0) dX9_set_112 (q_Z h inZ0 hok))
        · refine Rk.sp (G_iload_n (pc := 100) 3 rfl rfl dX9_set_100) ?_
          refine Rk.sp (G_iconst (pc := 101) dX9_set_101) ?_
          refine Rk.sp (G_sipush (pc := 102) dX9_set_102 rfl) ?_
          refine Rk.cRZ (pc := 105) (Cl.s [vi a3, vi 0, vi 9999] [] dX9_set_105 ckX9_72 rfl rfl (Nat.le_of_ble_eq_true rfl) (Nat.le_of_ble_eq_true rfl)) (k_Mo_isIn a3 0 9999 ha3 (inRk 0 rfl) (inRk 9999 rfl)) (fun r18 hr18 => ?_)
          refine Rk.if_ne (pc := 108) (tgt := 113) dX9_set_108 (nmI (inZ.R hr18)) rfl (fun hc19 => ?_) (fun hc19 => ?_)
          · refine Rk.sp (G_iconst (pc := 111) dX9_set_111) ?_
            exact Rk.end_ (fun h => G_zreturn (pc := 112) rfl (nz inZ0) dX9_set_112 (q_Z h inZ0 hok))
          · refine Rk.sp (G_aload_n (pc := 113) 0 rfl rfl dX9_set_113) ?_
            refine Rk.gR (pc := 114) 173 flX9_7 cl9 rfl lb172 dX9_set_114 ?_
            refine Rk.sp (G_bipush (pc := 117) dX9_set_117 rfl) ?_
            refine Rk.sp (G_iload_n (pc := 119) 2 rfl rfl dX9_set_119) ?_
            refine Rk.sp (G_iadd (pc := 120) dX9_set_120) ?_
            refine Rk.sp (G_iload_n (pc := 121) 3 rfl rfl dX9_set_121) ?_
            refine Rk.as (pc := 122) hok (nmI ha3) lb173 dX9_set_122 (fun hi21 σ20 hσ20 => ?_)
            refine Rk.sp (G_goto (pc := 123) (tgt := 160) dX9_set_123 rfl) ?_
            refine Rk.sp (G_aload_n (pc := 160) 0 rfl rfl dX9_set_160) ?_
            refine Rk.cV (pc := 161) (Cl.v [] [] dX9_set_161 ckX9_86 lb172 rfl rfl rfl (Nat.le_of_ble_eq_true rfl) (Nat.le_of_ble_eq_true rfl)) (k_Mo_forgets σ20 hσ20) (fun σ22 hσ22 => ?_)
            refine Rk.sp (G_iconst (pc := 164) dX9_set_164) ?_
            exact Rk.end_ (fun h => G_zreturn (pc := 165) rfl (nz inZ1) dX9_set_165 (q_Z h inZ1 hσ22))
      · refine Rk.ite (fun hc23 => ?_) (fun hc23 => ?_)
        · refine Rk.tblI (pc := 1) (tgt := 126) 3 hc23 dX9_set_1 (nmI ha1) (by decide) (by decide) rfl rfl ?_
          refine Rk.sp (G_iload_n (pc := 126) 2 rfl rfl dX9_set_126) ?_
          refine Rk.cRZ (pc := 127) (Cl.s [vi a2] [] dX9_set_127 ckX9_91 rfl rfl (Nat.le_of_ble_eq_true rfl) (Nat.le_of_ble_eq_true rfl)) (k_Mo_isOne a2 ha2) (fun r24 hr24 => ?_)
          refine Rk.if_eq (pc := 130) (tgt := 142) dX9_set_130 (nmI (inZ.R hr24)) rfl (fun hc25 => ?_) (fun hc25 => ?_)
          · refine Rk.sp (G_iconst (pc := 142) dX9_set_142) ?_
            exact Rk.end_ (fun h => G_zreturn (pc := 143) rfl (nz inZ0) dX9_set_143 (q_Z h inZ0 hok))
          · refine Rk.sp (G_iload_n (pc := 133) 3 rfl rfl dX9_set_133) ?_
            refine Rk.sp (G_iconst (pc := 134) dX9_set_134) ?_
            refine Rk.sp (G_iconst (pc := 135) dX9_set_135) ?_
            refine Rk.cRZ (pc := 136) (Cl.s [vi a3, vi 0, vi 1] [] dX9_set_136 ckX9_72 rfl rfl (Nat.le_of_ble_eq_true rfl) (Nat.le_of_ble_eq_true rfl)) (k_Mo_isIn a3 0 1 ha3 (inRk 0 rfl) (inRk 1 rfl)) (fun r26 hr26 => ?_)
            refine Rk.if_ne (pc := 139) (tgt := 144) dX9_set_139 (nmI (inZ.R hr26)) rfl (fun hc27 => ?_) (fun hc27 => ?_)
            · refine Rk.sp (G_iconst (pc := 142) dX9_set_142) ?_
              exact Rk.end_ (fun h => G_zreturn (pc := 143) rfl (nz inZ0) dX9_set_143 (q_Z h inZ0 hok))
            · refine Rk.sp (G_aload_n (pc := 144) 0 rfl rfl dX9_set_144) ?_
              refine Rk.gR (pc := 145) 173 flX9_7 cl9 rfl lb172 dX9_set_145 ?_
              refine Rk.sp (G_sipush (pc := 148) dX9_set_148 rfl) ?_
              refine Rk.sp (G_iload_n (pc := 151) 2 rfl rfl dX9_set_151) ?_
              refine Rk.sp (G_iadd (pc := 152) dX9_set_152) ?_
              refine Rk.sp (G_iload_n (pc := 153) 3 rfl rfl dX9_set_153) ?_
              refine Rk.as (pc := 154) hok (nmI ha3) lb173 dX9_set_154 (fun hi29 σ28 hσ28 => ?_)
              refine Rk.sp (G_goto (pc := 155) (tgt := 160) dX9_set_155 rfl) ?_
              refine Rk.sp (G_aload_n (pc := 160) 0 rfl rfl dX9_set_160) ?_
              refine Rk.cV (pc := 161) (Cl.v [] [] dX9_set_161 ckX9_86 lb172 rfl rfl rfl (Nat.le_of_ble_eq_true rfl) (Nat.le_of_ble_eq_true rfl)) (k_Mo_forgets σ28 hσ28) (fun σ30 hσ30 => ?_)
              refine Rk.sp (G_iconst (pc := 164) dX9_set_164) ?_
              exact Rk.end_ (fun h => G_zreturn (pc := 165) rfl (nz inZ1) dX9_set_165 (q_Z h inZ1 hσ30))
        · refine Rk.tblO (pc := 1) (tgt := 158) dX9_set_1 (nmI ha1) (by omega) rfl ?_
          refine Rk.sp (G_iconst (pc := 158) dX9_set_158) ?_
          exact Rk.end_ (fun h => G_zreturn (pc := 159) rfl (nz inZ0) dX9_set_159 (q_Z h inZ0 hok))
theorem k_Mo_split {κ : Kx} {μ : Sg} (a1 : Int) (σ : Sg) (ha1 : inR a1) (hok : okS σ) : CtI κ mX9_split 4 [vr 172, vi a1] true μ σ (Mo_split a1 σ) := by
  intro r τ h
  refine con_of (by decide) (Nat.le_of_ble_eq_true rfl) 5 ?_
  refine (?_ : Rk κ mX9_split _ 0 [some (vr 172), some (vi a1), none, none, none, none, none] [] (ms true μ σ) (Mo_split a1 σ) (fun a => a = (r, τ))) _ h rfl
  unfold Mo_split
  refine Rk.sp (G_iload_n (pc := 0) 1 rfl rfl dX9_split_0) ?_
  refine Rk.sp (G_iconst (pc := 1) dX9_split_1) ?_
  refine Rk.sp (G_iconst (pc := 2) dX9_split_2) ?_
  refine Rk.cRZ (pc := 3) (Cl.s [vi a1, vi 0, vi 1] [] dX9_split_3 ckX9_72 rfl rfl (Nat.le_of_ble_eq_true rfl) (Nat.le_of_ble_eq_true rfl)) (k_Mo_isIn a1 0 1 ha1 (inRk 0 rfl) (inRk 1 rfl)) (fun r1 hr1 => ?_)
  refine Rk.if_ne (pc := 6) (tgt := 11) dX9_split_6 (nmI (inZ.R hr1)) rfl (fun hc2 => ?_) (fun hc2 => ?_)
  · refine Rk.sp (G_iconst (pc := 9) dX9_split_9) ?_
    exact Rk.end_ (fun h => G_ireturn (pc := 10) rfl dX9_split_10 (q_I h (inRk (-1) rfl) hok))
  · refine Rk.sp (G_aload_n (pc := 11) 0 rfl rfl dX9_split_11) ?_
    refine Rk.cI (pc := 12) (Cl.v [] [] dX9_split_12 ckX9_448 lb172 rfl rfl rfl (Nat.le_of_ble_eq_true rfl) (Nat.le_of_ble_eq_true rfl)) (k_Mo_laysPauses σ hok) (fun r3 σ4 hr3 hσ4 => ?_)
    refine Rk.isa_n (pc := 15) 2 (L' := [some (vr 172), some (vi a1), some (vi r3), none, none, none, none]) rfl (Nat.le_of_ble_eq_true rfl) rfl dX9_split_15 rfl ?_
    refine Rk.sp (G_iload_n (pc := 16) 2 rfl rfl dX9_split_16) ?_
    refine Rk.sp (G_iconst (pc := 17) dX9_split_17) ?_
    refine Rk.icmp_ge (pc := 18) (tgt := 23) dX9_split_18 (nmI hr3) (nmI (inRk 2 rfl)) rfl (fun hc5 => ?_) (fun hc5 => ?_)
    · refine Rk.sp (G_iconst (pc := 21) dX9_split_21) ?_
      exact Rk.end_ (fun h => G_ireturn (pc := 22) rfl dX9_split_22 (q_I h (inRk (-1) rfl) hσ4))
    · refine Rk.sp (G_iconst (pc := 23) dX9_split_23) ?_
      refine Rk.isa_n (pc := 24) 3 (L' := [some (vr 172), some (vi a1), some (vi r3), some (vi 0), none, none, none]) rfl (Nat.le_of_ble_eq_true rfl) rfl dX9_split_24 rfl ?_
      refine Rk.sp (G_ldcw (pc := 25) (n := 100000000) dX9_split_25 conX9_414 (by decide)) ?_
      refine Rk.isa_w (pc := 28) 4 (L' := [some (vr 172), some (vi a1), some (vi r3), some (vi 0), some (vi 100000000), none, none]) (Nat.le_of_ble_eq_true rfl) rfl dX9_split_28 rfl ?_
      refine Rk.sp (G_iconst (pc := 30) dX9_split_30) ?_
      refine Rk.isa_w (pc := 31) 5 (L' := [some (vr 172), some (vi a1), some (vi r3), some (vi 0), some (vi 100000000), some (vi 0), none]) (Nat.le_of_ble_eq_true rfl) rfl dX9_split_31 rfl ?_
      refine Rk.loop (pc := 33) (B := (fun p => Mo_split_33_b r3 σ4 a1 p.1 p.2.1 p.2.2)) (fun p => inR p.1 ∧ inR p.2.1 ∧ inR p.2.2) (fun p => [some (vr 172), some (vi a1), some (vi r3), some (vi p.1), some (vi p.2.1), some (vi p.2.2), none]) (fun p => (ms true μ σ4)) (fun p hp => ?_) (0, 100000000, 0) ⟨(inRk 0 rfl), (inRk 100000000 rfl), (inRk 0 rfl)⟩
      obtain ⟨v3_6, v4_7, v5_8⟩ := p
      obtain ⟨hv3_6, hv4_7, hv5_8⟩ := hp
      try dsimp only
      unfold Mo_split_33_b
      refine Rk.sp (G_iload_w (pc := 33) 5 rfl dX9_split_33) ?_
      refine Rk.sp (G_iload_n (pc := 35) 2 rfl rfl dX9_split_35) ?_
      refine Rk.icmp_gt (pc := 36) (tgt := 132) dX9_split_36 (nmI hv5_8) (nmI hr3) rfl (fun hc9 => ?_) (fun hc9 => ?_)
      · refine Rk.sp (G_iconst (pc := 132) dX9_split_132) ?_
        refine Rk.isa_w (pc := 133) 5 (L' := [some (vr 172), some (vi a1), some (vi r3), some (vi v3_6), some (vi v4_7), some (vi 0), none]) (Nat.le_of_ble_eq_true rfl) rfl dX9_split_133 rfl ?_
        refine Rk.sp (G_iconst (pc := 135) dX9_split_135) ?_
        refine Rk.isa_w (pc := 136) 6 (L' := [some (vr 172), some (vi a1), some (vi r3), some (vi v3_6), some (vi v4_7), some (vi 0), some (vi 0)]) (Nat.le_of_ble_eq_true rfl) rfl dX9_split_136 rfl ?_
        refine Rk.fg [true, true, false, true, false, true, true] (L' := [some (vr 172), some (vi a1), none, some (vi v3_6), none, some (vi 0), some (vi 0)]) rfl ?_
        refine Rk.loop (pc := 138) (B := (fun p => Mo_split_138_b v3_6 σ4 a1 p.1 p.2)) (fun p => inR p.1 ∧ inR p.2) (fun p => [some (vr 172), some (vi a1), none, some (vi v3_6), none, some (vi p.1), some (vi p.2)]) (fun p => (ms true μ σ4)) (fun p hp => ?_) (0, 0) ⟨(inRk 0 rfl), (inRk 0 rfl)⟩
        obtain ⟨v5_10, v6_11⟩ := p
        obtain ⟨hv5_10, hv6_11⟩ := hp
        try dsimp only
        unfold Mo_split_138_b
        refine Rk.sp (G_iload_w (pc := 138) 6 rfl dX9_split_138) ?_
        refine Rk.sp (G_iload_n (pc := 140) 3 rfl rfl dX9_split_140) ?_
        refine Rk.icmp_ge (pc := 141) (tgt := 170) dX9_split_141 (nmI hv6_11) (nmI hv3_6) rfl (fun hc12 => ?_) (fun hc12 => ?_)
        · refine Rk.sp (G_iload_w (pc := 144) 5 rfl dX9_split_144) ?_
          refine Rk.sp (G_aload_n (pc := 146) 0 rfl rfl dX9_split_146) ?_
          refine Rk.gR (pc := 147) 187 flX9_59 cl9 rfl lb172 dX9_split_147 ?_
          refine Rk.sp (G_iload_w (pc := 150) 6 rfl dX9_split_150) ?_
          refine Rk.al (pc := 152) lb187 dX9_split_152 (fun hi13 => ?_)
          refine Rk.if_ne (pc := 153) (tgt := 160) dX9_split_153 (nmI (hσ4 _ _)) rfl (fun hc14 => ?_) (fun hc14 => ?_)
          · refine Rk.sp (G_iconst (pc := 156) dX9_split_156) ?_
            refine Rk.sp (G_goto (pc := 157) (tgt := 161) dX9_split_157 rfl) ?_
            refine Rk.sp (G_iadd (pc := 161) dX9_split_161) ?_
            refine Rk.ist_w (pc := 162) 5 (fun v5_15 => [some (vr 172), some (vi a1), none, some (vi v3_6), none, some (vi v5_15), some (vi v6_11)]) (Nat.le_of_ble_eq_true rfl) rfl dX9_split_162 (nmW _) (fun _ => rfl) (fun v5_15 hv5_15 => ?_)
            refine Rk.inc (pc := 164) 6 (fun v6_16 => [some (vr 172), some (vi a1), none, some (vi v3_6), none, some (vi v5_15), some (vi v6_16)]) rfl (Nat.le_of_ble_eq_true rfl) rfl dX9_split_164 (fun _ => rfl) (fun v6_16 hv6_16 => ?_)
            refine Rk.sp (G_goto (pc := 167) (tgt := 138) dX9_split_167 rfl) ?_
            exact Rk.end_ (fun h => h ⟨hv5_15, hv6_16⟩)
          · refine Rk.sp (G_iconst (pc := 160) dX9_split_160) ?_
            refine Rk.sp (G_iadd (pc := 161) dX9_split_161) ?_
            refine Rk.ist_w (pc := 162) 5 (fun v5_17 => [some (vr 172), some (vi a1), none, some (vi v3_6), none, some (vi v5_17), some (vi v6_11)]) (Nat.le_of_ble_eq_true rfl) rfl dX9_split_162 (nmW _) (fun _ => rfl) (fun v5_17 hv5_17 => ?_)
            refine Rk.inc (pc := 164) 6 (fun v6_18 => [some (vr 172), some (vi a1), none, some (vi v3_6), none, some (vi v5_17), some (vi v6_18)]) rfl (Nat.le_of_ble_eq_true rfl) rfl dX9_split_164 (fun _ => rfl) (fun v6_18 hv6_18 => ?_)
            refine Rk.sp (G_goto (pc := 167) (tgt := 138) dX9_split_167 rfl) ?_
            exact Rk.end_ (fun h => h ⟨hv5_17, hv6_18⟩)
        · refine Rk.sp (G_iload_n (pc := 170) 1 rfl rfl dX9_split_170) ?_
          refine Rk.sp (G_iconst (pc := 171) dX9_split_171) ?_
          refine Rk.icmp_ne (pc := 172) (tgt := 180) dX9_split_172 (nmI ha1) (nmI (inRk 1 rfl)) rfl (fun hc19 => ?_) (fun hc19 => ?_)
          · refine Rk.sp (G_iload_w (pc := 175) 5 rfl dX9_split_175) ?_
            refine Rk.sp (G_goto (pc := 177) (tgt := 198) dX9_split_177 rfl) ?_
            exact Rk.end_ (fun h => G_ireturn (pc := 198) rfl dX9_split_198 (q_I h hv5_10 hσ4))
          · refine Rk.sp (G_iload_n (pc := 180) 3 rfl rfl dX9_split_180) ?_
            refine Rk.if_ne (pc := 181) (tgt := 188) dX9_split_181 (nmI hv3_6) rfl (fun hc20 => ?_) (fun hc20 => ?_)
            · refine Rk.sp (G_iconst (pc := 184) dX9_split_184) ?_
              refine Rk.sp (G_goto (pc := 185) (tgt := 198) dX9_split_185 rfl) ?_
              exact Rk.end_ (fun h => G_ireturn (pc := 198) rfl dX9_split_198 (q_I h (inRk 1 rfl) hσ4))
            · refine Rk.sp (G_aload_n (pc := 188) 0 rfl rfl dX9_split_188) ?_
              refine Rk.gR (pc := 189) 186 flX9_56 cl9 rfl lb172 dX9_split_189 ?_
              refine Rk.sp (G_iload_n (pc := 192) 3 rfl rfl dX9_split_192) ?_
              refine Rk.sp (G_iconst (pc := 193) dX9_split_193) ?_
              refine Rk.sp (G_isub (pc := 194) dX9_split_194) ?_
              refine Rk.al (pc := 195) lb186 dX9_split_195 (fun hi21 => ?_)
              refine Rk.sp (G_iconst (pc := 196) dX9_split_196) ?_
              refine Rk.sp (G_iadd (pc := 197) dX9_split_197) ?_
              refine Rk.sp (Go.n0 (nmW _)) ?_
              exact Rk.end_ (fun h => G_ireturn (pc := 198) rfl dX9_split_198 (q_I h (wrR _) hσ4))
      · refine Rk.sp (G_iload_w (pc := 39) 5 rfl dX9_split_39) ?_
        refine Rk.sel (A := 69) (B := 126) (st' := []) ?_ ?_ ?_
        · refine Rk.if_le (pc := 41) (tgt := 69) dX9_split_41 (nmI hv5_8) rfl (fun hc22 => ?_) (fun hc22 => ?_)
          · refine Rk.sp (G_iload_w (pc := 44) 5 rfl dX9_split_44) ?_
            refine Rk.sp (G_iload_n (pc := 46) 2 rfl rfl dX9_split_46) ?_
            refine Rk.icmp_ge (pc := 47) (tgt := 69) dX9_split_47 (nmI hv5_8) (nmI hr3) rfl (fun hc23 => ?_) (fun hc23 => ?_)
            · refine Rk.sp (G_aload_n (pc := 50) 0 rfl rfl dX9_split_50) ?_
              refine Rk.gR (pc := 51) 186 flX9_56 cl9 rfl lb172 dX9_split_51 ?_
              refine Rk.sp (G_iload_w (pc := 54) 5 rfl dX9_split_54) ?_
              refine Rk.al (pc := 56) lb186 dX9_split_56 (fun hi24 => ?_)
              refine Rk.sp (G_aload_n (pc := 57) 0 rfl rfl dX9_split_57) ?_
              refine Rk.gR (pc := 58) 186 flX9_56 cl9 rfl lb172 dX9_split_58 ?_
              refine Rk.sp (G_iload_w (pc := 61) 5 rfl dX9_split_61) ?_
              refine Rk.sp (G_iconst (pc := 63) dX9_split_63) ?_
              refine Rk.sp (G_isub (pc := 64) dX9_split_64) ?_
              refine Rk.al (pc := 65) lb186 dX9_split_65 (fun hi25 => ?_)
              refine Rk.icmp_eq (pc := 66) (tgt := 126) dX9_split_66 (nmI (hσ4 _ _)) (nmI (hσ4 _ _)) rfl (fun hc26 => ?_) (fun hc26 => ?_)
              · exact Rk.end_ (fun h => h inZ0)
              · exact Rk.end_ (fun h => h inZ1)
            · exact Rk.end_ (fun h => h inZ1)
          · exact Rk.end_ (fun h => h inZ1)
        · refine Rk.inc (pc := 126) 5 (fun v5_38 => [some (vr 172), some (vi a1), some (vi r3), some (vi v3_6), some (vi v4_7), some (vi v5_38), none]) rfl (Nat.le_of_ble_eq_true rfl) rfl dX9_split_126 (fun _ => rfl) (fun v5_38 hv5_38 => ?_)
          refine Rk.sp (G_goto (pc := 129) (tgt := 33) dX9_split_129 rfl) ?_
          exact Rk.end_ (fun h => h ⟨hv3_6, hv4_7, hv5_38⟩)
        · refine Rk.sp (G_iload_w (pc := 69) 5 rfl dX9_split_69) ?_
          refine Rk.sel (A := 92) (B := 89) (st' := []) ?_ ?_ ?_
          · refine Rk.if_le (pc := 71) (tgt := 92) dX9_split_71 (nmI hv5_8) rfl (fun hc27 => ?_) (fun hc27 => ?_)
            · refine Rk.sp (G_aload_n (pc := 74) 0 rfl rfl dX9_split_74) ?_
              refine Rk.gR (pc := 75) 186 flX9_56 cl9 rfl lb172 dX9_split_75 ?_
              refine Rk.sp (G_iload_w (pc := 78) 5 rfl dX9_split_78) ?_
              refine Rk.sp (G_iconst (pc := 80) dX9_split_80) ?_
              refine Rk.sp (G_isub (pc := 81) dX9_split_81) ?_
              refine Rk.al (pc := 82) lb186 dX9_split_82 (fun hi28 => ?_)
              refine Rk.sp (G_sipush (pc := 83) dX9_split_83 rfl) ?_
              refine Rk.icmp_lt (pc := 86) (tgt := 92) dX9_split_86 (nmI (hσ4 _ _)) (nmI (inRk 9999 rfl)) rfl (fun hc29 => ?_) (fun hc29 => ?_)
              · exact Rk.end_ (fun h => h inZ1)
              · exact Rk.end_ (fun h => h inZ0)
            · exact Rk.end_ (fun h => h inZ1)
          · refine Rk.sp (G_goto (pc := 89) (tgt := 126) dX9_split_89 rfl) ?_
            refine Rk.inc (pc := 126) 5 (fun v5_36 => [some (vr 172), some (vi a1), some (vi r3), some (vi v3_6), some (vi v4_7), some (vi v5_36), none]) rfl (Nat.le_of_ble_eq_true rfl) rfl dX9_split_126 (fun _ => rfl) (fun v5_36 hv5_36 => ?_)
            refine Rk.sp (G_goto (pc := 129) (tgt := 33) dX9_split_129 rfl) ?_
            exact Rk.end_ (fun h => h ⟨hv3_6, hv4_7, hv5_36⟩)
          · refine Rk.sp (G_aload_n (pc := 92) 0 rfl rfl dX9_split_92) ?_
            refine Rk.sp (G_iconst (pc := 93) dX9_split_93) ?_
            refine Rk.sp (G_iload_w (pc := 94) 5 rfl dX9_split_94) ?_
            refine Rk.cRI (pc := 96) (Cl.v [vi 0, vi v5_8] [] dX9_split_96 ckX9_451 lb172 rfl rfl rfl (Nat.le_of_ble_eq_true rfl) (Nat.le_of_ble_eq_true rfl)) (k_Mo_farFromMiddle 0 v5_8 σ4 (inRk 0 rfl) hv5_8 hσ4) (fun r30 hr30 => ?_)
            refine Rk.sp (G_aload_n (pc := 99) 0 rfl rfl dX9_split_99) ?_
            refine Rk.sp (G_iload_w (pc := 100) 5 rfl dX9_split_100) ?_
            refine Rk.sp (G_iload_n (pc := 102) 2 rfl rfl dX9_split_102) ?_
            refine Rk.cRI (pc := 103) (Cl.v [vi v5_8, vi r3] [vi r30] dX9_split_103 ckX9_451 lb172 rfl rfl rfl (Nat.le_of_ble_eq_true rfl) (Nat.le_of_ble_eq_true rfl)) (k_Mo_farFromMiddle v5_8 r3 σ4 hv5_8 hr3 hσ4) (fun r31 hr31 => ?_)
            refine Rk.sp (G_iadd (pc := 106) dX9_split_106) ?_
            refine Rk.ist_w (pc := 107) 6 (fun v6_32 => [some (vr 172), some (vi a1), some (vi r3), some (vi v3_6), some (vi v4_7), some (vi v5_8), some (vi v6_32)]) (Nat.le_of_ble_eq_true rfl) rfl dX9_split_107 (nmW _) (fun _ => rfl) (fun v6_32 hv6_32 => ?_)
            refine Rk.sp (G_iload_w (pc := 109) 6 rfl dX9_split_109) ?_
            refine Rk.sp (G_iload_w (pc := 111) 4 rfl dX9_split_111) ?_
            refine Rk.icmp_lt (pc := 113) (tgt := 119) dX9_split_113 (nmI hv6_32) (nmI hv4_7) rfl (fun hc33 => ?_) (fun hc33 => ?_)
            · refine Rk.sp (G_iload_w (pc := 119) 6 rfl dX9_split_119) ?_
              refine Rk.isa_w (pc := 121) 4 (L' := [some (vr 172), some (vi a1), some (vi r3), some (vi v3_6), some (vi v6_32), some (vi v5_8), some (vi v6_32)]) (Nat.le_of_ble_eq_true rfl) rfl dX9_split_121 rfl ?_
              refine Rk.sp (G_iload_w (pc := 123) 5 rfl dX9_split_123) ?_
              refine Rk.isa_n (pc := 125) 3 (L' := [some (vr 172), some (vi a1), some (vi r3), some (vi v5_8), some (vi v6_32), some (vi v5_8), some (vi v6_32)]) rfl (Nat.le_of_ble_eq_true rfl) rfl dX9_split_125 rfl ?_
              refine Rk.inc (pc := 126) 5 (fun v5_34 => [some (vr 172), some (vi a1), some (vi r3), some (vi v5_8), some (vi v6_32), some (vi v5_34), some (vi v6_32)]) rfl (Nat.le_of_ble_eq_true rfl) rfl dX9_split_126 (fun _ => rfl) (fun v5_34 hv5_34 => ?_)
              refine Rk.sp (G_goto (pc := 129) (tgt := 33) dX9_split_129 rfl) ?_
              refine Rk.fg [true, true, true, true, true, true, false] (L' := [some (vr 172), some (vi a1), some (vi r3), some (vi v5_8), some (vi v6_32), some (vi v5_34), none]) rfl ?_
              exact Rk.end_ (fun h => h ⟨hv5_8, hv6_32, hv5_34⟩)
            · refine Rk.sp (G_goto (pc := 116) (tgt := 126) dX9_split_116 rfl) ?_
              refine Rk.inc (pc := 126) 5 (fun v5_35 => [some (vr 172), some (vi a1), some (vi r3), some (vi v3_6), some (vi v4_7), some (vi v5_35), some (vi v6_32)]) rfl (Nat.le_of_ble_eq_true rfl) rfl dX9_split_126 (fun _ => rfl) (fun v5_35 hv5_35 => ?_)
              refine Rk.sp (G_goto (pc := 129) (tgt := 33) dX9_split_129 rfl) ?_
              refine Rk.fg [true, true, true, true, true, true, false] (L' := [some (vr 172), some (vi a1), some (vi r3), some (vi v3_6), some (vi v4_7), some (vi v5_35), none]) rfl ?_
              exact Rk.end_ (fun h => h ⟨hv3_6, hv4_7, hv5_35⟩)
theorem k_Mo_state {κ : Kx} {μ : Sg} (a1 : Int) (σ : Sg) (ha1 : inR a1) (hok : okS σ) : CtI κ mX9_state 1 [vr 172, vi a1] true μ σ (Mo_state a1 σ) := by
  intro r τ h
  refine con_of (by decide) (Nat.le_of_ble_eq_true rfl) 1 ?_
  refine (?_ : Rk κ mX9_state _ 0 [some (vr 172), some (vi a1), none] [] (ms true μ σ) (Mo_state a1 σ) (fun a => a = (r, τ))) _ h rfl
  unfold Mo_state
  refine Rk.sp (G_aload_n (pc := 0) 0 rfl rfl dX9_state_0) ?_
  refine Rk.gR (pc := 1) 173 flX9_7 cl9 rfl lb172 dX9_state_1 ?_
  refine Rk.sp (G_iconst (pc := 4) dX9_state_4) ?_
  refine Rk.alc (pc := 5) 1 rfl (Nat.le_of_ble_eq_true rfl) lb173 dX9_state_5 ?_
  refine Rk.ist_n (pc := 6) 2 (fun v2_1 => [some (vr 172), some (vi a1), some (vi v2_1)]) rfl (Nat.le_of_ble_eq_true rfl) rfl dX9_state_6 (nmI (hok _ _)) (fun _ => rfl) (fun v2_1 hv2_1 => ?_)
  refine Rk.sp (G_aload_n (pc := 7) 0 rfl rfl dX9_state_7) ?_
  refine Rk.gR (pc := 8) 173 flX9_7 cl9 rfl lb172 dX9_state_8 ?_
  refine Rk.sp (G_iconst (pc := 11) dX9_state_11) ?_
  refine Rk.sp (G_iload_n (pc := 12) 1 rfl rfl dX9_state_12) ?_
  refine Rk.asc (pc := 13) hok (nmI ha1) 1 rfl (Nat.le_of_ble_eq_true rfl) lb173 dX9_state_13 (fun σ2 hσ2 => ?_)
  refine Rk.sp (G_aload_n (pc := 14) 0 rfl rfl dX9_state_14) ?_
  refine Rk.cV (pc := 15) (Cl.v [] [] dX9_state_15 ckX9_86 lb172 rfl rfl rfl (Nat.le_of_ble_eq_true rfl) (Nat.le_of_ble_eq_true rfl)) (k_Mo_forgets σ2 hσ2) (fun σ3 hσ3 => ?_)
  refine Rk.sp (G_iload_n (pc := 18) 2 rfl rfl dX9_state_18) ?_
  exact Rk.end_ (fun h => G_ireturn (pc := 19) rfl dX9_state_19 (q_I h hv2_1 hσ3))
theorem k_Mo_sure {κ : Kx} {μ : Sg} (a1 : Int) (a2 : Int) (a3 : Int) (σ : Sg) (ha1 : inR a1) (ha2 : inR a2) (ha3 : inR a3) (hok : okS σ) : CtRI κ mX9_sure 2 [vr 172, vi a1, vi a2, vi a3] true μ σ (Mo_sure a1 a2 a3 σ) := by
  intro r h
  refine con_of (by decide) (Nat.le_of_ble_eq_true rfl) 3 ?_
  refine (?_ : Rk κ mX9_sure _ 0 [some (vr 172), some (vi a1), some (vi a2), some (vi a3), none, none, none] [] (ms true μ σ) (Mo_sure a1 a2 a3 σ) (fun a => a = r)) _ h rfl
  unfold Mo_sure
  refine Rk.sp (G_iload_n (pc := 0) 1 rfl rfl dX9_sure_0) ?_
  refine Rk.sp (G_iconst (pc := 1) dX9_sure_1) ?_
  refine Rk.sp (G_sipush (pc := 2) dX9_sure_2 rfl) ?_
  refine Rk.cRZ (pc := 5) (Cl.s [vi a1, vi 0, vi 1000] [] dX9_sure_5 ckX9_72 rfl rfl (Nat.le_of_ble_eq_true rfl) (Nat.le_of_ble_eq_true rfl)) (k_Mo_isIn a1 0 1000 ha1 (inRk 0 rfl) (inRk 1000 rfl)) (fun r1 hr1 => ?_)
  refine Rk.if_eq (pc := 8) (tgt := 33) dX9_sure_8 (nmI (inZ.R hr1)) rfl (fun hc2 => ?_) (fun hc2 => ?_)
  · refine Rk.sp (G_iconst (pc := 33) dX9_sure_33) ?_
    exact Rk.end_ (fun h => G_ireturn (pc := 34) rfl dX9_sure_34 (q_RI h (inRk (-1) rfl)))
  · refine Rk.sp (G_aload_n (pc := 11) 0 rfl rfl dX9_sure_11) ?_
    refine Rk.sp (G_iload_n (pc := 12) 2 rfl rfl dX9_sure_12) ?_
    refine Rk.cRZ (pc := 13) (Cl.v [vi a2] [] dX9_sure_13 ckX9_420 lb172 rfl rfl rfl (Nat.le_of_ble_eq_true rfl) (Nat.le_of_ble_eq_true rfl)) (k_Mo_areSigns a2 σ ha2 hok) (fun r3 hr3 => ?_)
    refine Rk.if_eq (pc := 16) (tgt := 33) dX9_sure_16 (nmI (inZ.R hr3)) rfl (fun hc4 => ?_) (fun hc4 => ?_)
    · refine Rk.sp (G_iconst (pc := 33) dX9_sure_33) ?_
      exact Rk.end_ (fun h => G_ireturn (pc := 34) rfl dX9_sure_34 (q_RI h (inRk (-1) rfl)))
    · refine Rk.sp (G_aload_n (pc := 19) 0 rfl rfl dX9_sure_19) ?_
      refine Rk.sp (G_iload_n (pc := 20) 3 rfl rfl dX9_sure_20) ?_
      refine Rk.cRZ (pc := 21) (Cl.v [vi a3] [] dX9_sure_21 ckX9_420 lb172 rfl rfl rfl (Nat.le_of_ble_eq_true rfl) (Nat.le_of_ble_eq_true rfl)) (k_Mo_areSigns a3 σ ha3 hok) (fun r5 hr5 => ?_)
      refine Rk.if_eq (pc := 24) (tgt := 33) dX9_sure_24 (nmI (inZ.R hr5)) rfl (fun hc6 => ?_) (fun hc6 => ?_)
      · refine Rk.sp (G_iconst (pc := 33) dX9_sure_33) ?_
        exact Rk.end_ (fun h => G_ireturn (pc := 34) rfl dX9_sure_34 (q_RI h (inRk (-1) rfl)))
      · refine Rk.sp (G_iload_n (pc := 27) 2 rfl rfl dX9_sure_27) ?_
        refine Rk.sp (G_iload_n (pc := 28) 3 rfl rfl dX9_sure_28) ?_
        refine Rk.sp (G_iand (pc := 29) dX9_sure_29) ?_
        refine Rk.if_eq (pc := 30) (tgt := 35) dX9_sure_30 (nmI (bAnd_R _ _)) rfl (fun hc7 => ?_) (fun hc7 => ?_)
        · refine Rk.sp (G_ldc2 (pc := 35) (n := 1000) dX9_sure_35 conjX9_423 (by decide)) ?_
          refine Rk.sp (G_iload_n (pc := 38) 1 rfl rfl dX9_sure_38) ?_
          refine Rk.sp (G_i2l (pc := 39) dX9_sure_39 (nmI ha1)) ?_
          refine Rk.sp (G_lmul (pc := 40) dX9_sure_40) ?_
          refine Rk.lst_w (pc := 41) 4 (fun v4_8 => [some (vr 172), some (vi a1), some (vi a2), some (vi a3), some (vl v4_8), none, none]) (Nat.le_of_ble_eq_true rfl) rfl dX9_sure_41 (nmjW _) (fun _ => rfl) (fun v4_8 hv4_8 => ?_)
          refine Rk.sp (G_iconst (pc := 43) dX9_sure_43) ?_
          refine Rk.isa_w (pc := 44) 6 (L' := [some (vr 172), some (vi a1), some (vi a2), some (vi a3), some (vl v4_8), none, some (vi 0)]) (Nat.le_of_ble_eq_true rfl) rfl dX9_sure_44 rfl ?_
          refine Rk.fg [true, false, true, true, true, false, true] (L' := [some (vr 172), none, some (vi a2), some (vi a3), some (vl v4_8), none, some (vi 0)]) rfl ?_
          refine Rk.loop (pc := 46) (B := (fun p => Mo_sure_46_b σ a2 a3 p.1 p.2)) (fun p => inJ p.1 ∧ inR p.2) (fun p => [some (vr 172), none, some (vi a2), some (vi a3), some (vl p.1), none, some (vi p.2)]) (fun p => (ms true μ σ)) (fun p hp => ?_) (v4_8, 0) ⟨hv4_8, (inRk 0 rfl)⟩
          obtain ⟨v4_9, v6_10⟩ := p
          obtain ⟨hv4_9, hv6_10⟩ := hp
          try dsimp only
          unfold Mo_sure_46_b
          refine Rk.sp (G_iload_w (pc := 46) 6 rfl dX9_sure_46) ?_
          refine Rk.sp (G_aload_n (pc := 48) 0 rfl rfl dX9_sure_48) ?_
          refine Rk.gR (pc := 49) 173 flX9_7 cl9 rfl lb172 dX9_sure_49 ?_
          refine Rk.sp (G_sipush (pc := 52) dX9_sure_52 rfl) ?_
          refine Rk.alc (pc := 55) 553 rfl (Nat.le_of_ble_eq_true rfl) lb173 dX9_sure_55 ?_
          refine Rk.icmp_ge (pc := 56) (tgt := 102) dX9_sure_56 (nmI hv6_10) (nmI (hok _ _)) rfl (fun hc11 => ?_) (fun hc11 => ?_)
          · refine Rk.sp (G_iload_n (pc := 59) 2 rfl rfl dX9_sure_59) ?_
            refine Rk.sp (G_iload_n (pc := 60) 3 rfl rfl dX9_sure_60) ?_
            refine Rk.sp (G_ior (pc := 61) dX9_sure_61) ?_
            refine Rk.sp (G_iload_w (pc := 62) 6 rfl dX9_sure_62) ?_
            refine Rk.sp (G_ishr (pc := 64) dX9_sure_64) ?_
            refine Rk.sp (G_iconst (pc := 65) dX9_sure_65) ?_
            refine Rk.sp (G_iand (pc := 66) dX9_sure_66) ?_
            refine Rk.sp (G_iconst (pc := 67) dX9_sure_67) ?_
            refine Rk.icmp_ne (pc := 68) (tgt := 96) dX9_sure_68 (nmI (bAnd_R _ _)) (nmI (inRk 1 rfl)) rfl (fun hc12 => ?_) (fun hc12 => ?_)
            · refine Rk.sp (G_aload_n (pc := 71) 0 rfl rfl dX9_sure_71) ?_
              refine Rk.sp (G_lload_w (pc := 72) 4 rfl dX9_sure_72) ?_
              refine Rk.sp (G_iload_w (pc := 74) 6 rfl dX9_sure_74) ?_
              refine Rk.sp (G_iload_n (pc := 76) 2 rfl rfl dX9_sure_76) ?_
              refine Rk.sp (G_iload_w (pc := 77) 6 rfl dX9_sure_77) ?_
              refine Rk.sp (G_ishr (pc := 79) dX9_sure_79) ?_
              refine Rk.sp (G_iconst (pc := 80) dX9_sure_80) ?_
              refine Rk.sp (G_iand (pc := 81) dX9_sure_81) ?_
              refine Rk.sp (G_iconst (pc := 82) dX9_sure_82) ?_
              refine Rk.join (P := fun p => inR p) (pcj := 91) (fun p => [some (vr 172), none, some (vi a2), some (vi a3), none, none, some (vi v6_10)]) (fun p => [vi p, vi v6_10, vl v4_9, vr 172]) (fun p => (ms true μ σ)) ?_ (fun p hp => ?_)
              · refine Rk.icmp_ne (pc := 83) (tgt := 90) dX9_sure_83 (nmI (bAnd_R _ _)) (nmI (inRk 1 rfl)) rfl (fun hc13 => ?_) (fun hc13 => ?_)
                · refine Rk.sp (G_iconst (pc := 86) dX9_sure_86) ?_
                  refine Rk.sp (G_goto (pc := 87) (tgt := 91) dX9_sure_87 rfl) ?_
                  refine Rk.fg [true, false, true, true, false, false, true] (L' := [some (vr 172), none, some (vi a2), some (vi a3), none, none, some (vi v6_10)]) rfl ?_
                  exact Rk.end_ (fun h => h (inRk 1 rfl))
                · refine Rk.sp (G_iconst (pc := 90) dX9_sure_90) ?_
                  refine Rk.fg [true, false, true, true, false, false, true] (L' := [some (vr 172), none, some (vi a2), some (vi a3), none, none, some (vi v6_10)]) rfl ?_
                  exact Rk.end_ (fun h => h (inRk 0 rfl))
              · revert hp; revert p; intro t14 ht14
                try dsimp only
                refine Rk.cRJ (pc := 91) (Cl.v [vl v4_9, vi v6_10, vi t14] [] dX9_sure_91 ckX9_425 lb172 rfl rfl rfl (Nat.le_of_ble_eq_true rfl) (Nat.le_of_ble_eq_true rfl)) (k_Mo_bySign v4_9 v6_10 t14 σ hv4_9 hv6_10 ht14 hok) (fun r15 hr15 => ?_)
                refine Rk.lst_w (pc := 94) 4 (fun v4_16 => [some (vr 172), none, some (vi a2), some (vi a3), some (vl v4_16), none, some (vi v6_10)]) (Nat.le_of_ble_eq_true rfl) rfl dX9_sure_94 (nmjI hr15) (fun _ => rfl) (fun v4_16 hv4_16 => ?_)
                refine Rk.inc (pc := 96) 6 (fun v6_17 => [some (vr 172), none, some (vi a2), some (vi a3), some (vl v4_16), none, some (vi v6_17)]) rfl (Nat.le_of_ble_eq_true rfl) rfl dX9_sure_96 (fun _ => rfl) (fun v6_17 hv6_17 => ?_)
                refine Rk.sp (G_goto (pc := 99) (tgt := 46) dX9_sure_99 rfl) ?_
                exact Rk.end_ (fun h => h ⟨hv4_16, hv6_17⟩)
            · refine Rk.inc (pc := 96) 6 (fun v6_18 => [some (vr 172), none, some (vi a2), some (vi a3), some (vl v4_9), none, some (vi v6_18)]) rfl (Nat.le_of_ble_eq_true rfl) rfl dX9_sure_96 (fun _ => rfl) (fun v6_18 hv6_18 => ?_)
              refine Rk.sp (G_goto (pc := 99) (tgt := 46) dX9_sure_99 rfl) ?_
              exact Rk.end_ (fun h => h ⟨hv4_9, hv6_18⟩)
          · refine Rk.sp (G_lload_w (pc := 102) 4 rfl dX9_sure_102) ?_
            refine Rk.sp (G_l2i (pc := 104) dX9_sure_104) ?_
            refine Rk.sp (Go.n0 (nmW _)) ?_
            exact Rk.end_ (fun h => G_ireturn (pc := 105) rfl dX9_sure_105 (q_RI h (wrR _)))
        · refine Rk.sp (G_iconst (pc := 33) dX9_sure_33) ?_
          exact Rk.end_ (fun h => G_ireturn (pc := 34) rfl dX9_sure_34 (q_RI h (inRk (-1) rfl)))
theorem k_Mo_table {κ : Kx} {μ : Sg} (a1 : Int) (a2 : Int) (a3 : Int) (σ : Sg) (ha1 : inR a1) (ha2 : inR a2) (ha3 : inR a3) (hok : okS σ) : CtZ κ mX9_table 1 [vr 172, vi a1, vi a2, vi a3] true μ σ (Mo_table a1 a2 a3 σ) := by
  intro r τ h
  refine con_of (by decide) (Nat.le_of_ble_eq_true rfl) 0 ?_
  refine (?_ : Rk κ mX9_table _ 0 [some (vr 172), some (vi a1), some (vi a2), some (vi a3)] [] (ms true μ σ) (Mo_table a1 a2 a3 σ) (fun a => a = (r, τ))) _ h rfl
  unfold Mo_table
  refine Rk.sp (G_iload_n (pc := 0) 1 rfl rfl dX9_table_0) ?_
  refine Rk.sp (G_iconst (pc := 1) dX9_table_1) ?_
  refine Rk.sp (G_iconst (pc := 2) dX9_table_2) ?_
  refine Rk.cRZ (pc := 3) (Cl.s [vi a1, vi 0, vi 3] [] dX9_table_3 ckX9_72 rfl rfl (Nat.le_of_ble_eq_true rfl) (Nat.le_of_ble_eq_true rfl)) (k_Mo_isIn a1 0 3 ha1 (inRk 0 rfl) (inRk 3 rfl)) (fun r1 hr1 => ?_)
  refine Rk.if_eq (pc := 6) (tgt := 29) dX9_table_6 (nmI (inZ.R hr1)) rfl (fun hc2 => ?_) (fun hc2 => ?_)
  · refine Rk.sp (G_iconst (pc := 29) dX9_table_29) ?_
    exact Rk.end_ (fun h => G_zreturn (pc := 30) rfl (nz inZ0) dX9_table_30 (q_Z h inZ0 hok))
  · refine Rk.sp (G_iload_n (pc := 9) 2 rfl rfl dX9_table_9) ?_
    refine Rk.sp (G_iconst (pc := 10) dX9_table_10) ?_
    refine Rk.sp (G_bipush (pc := 11) dX9_table_11 rfl) ?_
    refine Rk.cRZ (pc := 13) (Cl.s [vi a2, vi 0, vi 99] [] dX9_table_13 ckX9_72 rfl rfl (Nat.le_of_ble_eq_true rfl) (Nat.le_of_ble_eq_true rfl)) (k_Mo_isIn a2 0 99 ha2 (inRk 0 rfl) (inRk 99 rfl)) (fun r3 hr3 => ?_)
    refine Rk.if_eq (pc := 16) (tgt := 29) dX9_table_16 (nmI (inZ.R hr3)) rfl (fun hc4 => ?_) (fun hc4 => ?_)
    · refine Rk.sp (G_iconst (pc := 29) dX9_table_29) ?_
      exact Rk.end_ (fun h => G_zreturn (pc := 30) rfl (nz inZ0) dX9_table_30 (q_Z h inZ0 hok))
    · refine Rk.sp (G_iload_n (pc := 19) 3 rfl rfl dX9_table_19) ?_
      refine Rk.sp (G_iconst (pc := 20) dX9_table_20) ?_
      refine Rk.sp (G_bipush (pc := 21) dX9_table_21 rfl) ?_
      refine Rk.cRZ (pc := 23) (Cl.s [vi a3, vi 0, vi 99] [] dX9_table_23 ckX9_72 rfl rfl (Nat.le_of_ble_eq_true rfl) (Nat.le_of_ble_eq_true rfl)) (k_Mo_isIn a3 0 99 ha3 (inRk 0 rfl) (inRk 99 rfl)) (fun r5 hr5 => ?_)
      refine Rk.if_ne (pc := 26) (tgt := 31) dX9_table_26 (nmI (inZ.R hr5)) rfl (fun hc6 => ?_) (fun hc6 => ?_)
      · refine Rk.sp (G_iconst (pc := 29) dX9_table_29) ?_
        exact Rk.end_ (fun h => G_zreturn (pc := 30) rfl (nz inZ0) dX9_table_30 (q_Z h inZ0 hok))
      · refine Rk.sp (G_aload_n (pc := 31) 0 rfl rfl dX9_table_31) ?_
        refine Rk.gR (pc := 32) 173 flX9_7 cl9 rfl lb172 dX9_table_32 ?_
        refine Rk.sp (G_sipush (pc := 35) dX9_table_35 rfl) ?_
        refine Rk.sp (G_iconst (pc := 38) dX9_table_38) ?_
        refine Rk.sp (G_iload_n (pc := 39) 1 rfl rfl dX9_table_39) ?_
        refine Rk.sp (G_imul (pc := 40) dX9_table_40) ?_
        refine Rk.sp (G_iadd (pc := 41) dX9_table_41) ?_
        refine Rk.sp (G_iload_n (pc := 42) 2 rfl rfl dX9_table_42) ?_
        refine Rk.as (pc := 43) hok (nmI ha2) lb173 dX9_table_43 (fun hi8 σ7 hσ7 => ?_)
        refine Rk.sp (G_aload_n (pc := 44) 0 rfl rfl dX9_table_44) ?_
        refine Rk.gR (pc := 45) 173 flX9_7 cl9 rfl lb172 dX9_table_45 ?_
        refine Rk.sp (G_sipush (pc := 48) dX9_table_48 rfl) ?_
        refine Rk.sp (G_iconst (pc := 51) dX9_table_51) ?_
        refine Rk.sp (G_iload_n (pc := 52) 1 rfl rfl dX9_table_52) ?_
        refine Rk.sp (G_imul (pc := 53) dX9_table_53) ?_
        refine Rk.sp (G_iadd (pc := 54) dX9_table_54) ?_
        refine Rk.sp (G_iconst (pc := 55) dX9_table_55) ?_
        refine Rk.sp (G_iadd (pc := 56) dX9_table_56) ?_
        refine Rk.sp (G_iload_n (pc := 57) 3 rfl rfl dX9_table_57) ?_
        refine Rk.as (pc := 58) hσ7 (nmI ha3) lb173 dX9_table_58 (fun hi10 σ9 hσ9 => ?_)
        refine Rk.sp (G_iconst (pc := 59) dX9_table_59) ?_
        exact Rk.end_ (fun h => G_zreturn (pc := 60) rfl (nz inZ1) dX9_table_60 (q_Z h inZ1 hσ9))
theorem k_Mo_takeBack {κ : Kx} {μ : Sg} (a1 : Int) (σ : Sg) (ha1 : inR a1) (hok : okS σ) : CtZ κ mX9_takeBack 3 [vr 172, vi a1] true μ σ (Mo_takeBack a1 σ) := by
  intro r τ h
  refine con_of (by decide) (Nat.le_of_ble_eq_true rfl) 0 ?_
  refine (?_ : Rk κ mX9_takeBack _ 0 [some (vr 172), some (vi a1)] [] (ms true μ σ) (Mo_takeBack a1 σ) (fun a => a = (r, τ))) _ h rfl
  unfold Mo_takeBack
  refine Rk.sp (G_aload_n (pc := 0) 0 rfl rfl dX9_takeBack_0) ?_
  refine Rk.sp (G_iload_n (pc := 1) 1 rfl rfl dX9_takeBack_1) ?_
  refine Rk.cRZ (pc := 2) (Cl.v [vi a1] [] dX9_takeBack_2 ckX9_351 lb172 rfl rfl rfl (Nat.le_of_ble_eq_true rfl) (Nat.le_of_ble_eq_true rfl)) (k_Mo_isMessage a1 σ ha1 hok) (fun r1 hr1 => ?_)
  refine Rk.if_eq (pc := 5) (tgt := 16) dX9_takeBack_5 (nmI (inZ.R hr1)) rfl (fun hc2 => ?_) (fun hc2 => ?_)
  · refine Rk.sp (G_iconst (pc := 16) dX9_takeBack_16) ?_
    exact Rk.end_ (fun h => G_zreturn (pc := 17) rfl (nz inZ0) dX9_takeBack_17 (q_Z h inZ0 hok))
  · refine Rk.sp (G_aload_n (pc := 8) 0 rfl rfl dX9_takeBack_8) ?_
    refine Rk.sp (G_iload_n (pc := 9) 1 rfl rfl dX9_takeBack_9) ?_
    refine Rk.cRZ (pc := 10) (Cl.v [vi a1] [] dX9_takeBack_10 ckX9_354 lb172 rfl rfl rfl (Nat.le_of_ble_eq_true rfl) (Nat.le_of_ble_eq_true rfl)) (k_Mo_isUnread a1 σ ha1 hok) (fun r3 hr3 => ?_)
    refine Rk.if_ne (pc := 13) (tgt := 18) dX9_takeBack_13 (nmI (inZ.R hr3)) rfl (fun hc4 => ?_) (fun hc4 => ?_)
    · refine Rk.sp (G_iconst (pc := 16) dX9_takeBack_16) ?_
      exact Rk.end_ (fun h => G_zreturn (pc := 17) rfl (nz inZ0) dX9_takeBack_17 (q_Z h inZ0 hok))
    · refine Rk.sp (G_aload_n (pc := 18) 0 rfl rfl dX9_takeBack_18) ?_
      refine Rk.cV (pc := 19) (Cl.v [] [] dX9_takeBack_19 ckX9_345 lb172 rfl rfl rfl (Nat.le_of_ble_eq_true rfl) (Nat.le_of_ble_eq_true rfl)) (k_Mo_keeps σ hok) (fun σ5 hσ5 => ?_)
      refine Rk.sp (G_aload_n (pc := 22) 0 rfl rfl dX9_takeBack_22) ?_
      refine Rk.sp (G_iload_n (pc := 23) 1 rfl rfl dX9_takeBack_23) ?_
      refine Rk.cV (pc := 24) (Cl.v [vi a1] [] dX9_takeBack_24 ckX9_357 lb172 rfl rfl rfl (Nat.le_of_ble_eq_true rfl) (Nat.le_of_ble_eq_true rfl)) (k_Mo_takesBack a1 σ5 ha1 hσ5) (fun σ6 hσ6 => ?_)
      refine Rk.sp (G_iconst (pc := 27) dX9_takeBack_27) ?_
      exact Rk.end_ (fun h => G_zreturn (pc := 28) rfl (nz inZ1) dX9_takeBack_28 (q_Z h inZ1 hσ6))
theorem k_Mo_text {κ : Kx} {μ : Sg} (a1 : Int) (σ : Sg) (ha1 : inR a1) (hok : okS σ) : CtI κ mX9_text 47 [vr 172, vi a1] true μ σ (Mo_text a1 σ) := by
  intro r τ h
  refine con_of (by decide) (Nat.le_of_ble_eq_true rfl) 1 ?_
  refine (?_ : Rk κ mX9_text _ 0 [some (vr 172), some (vi a1), none] [] (ms true μ σ) (Mo_text a1 σ) (fun a => a = (r, τ))) _ h rfl
  unfold Mo_text
  refine Rk.sp (G_aload_n (pc := 0) 0 rfl rfl dX9_text_0) ?_
  refine Rk.sp (G_iconst (pc := 1) dX9_text_1) ?_
  refine Rk.pI (pc := 2) hok (nmI (inRk 0 rfl)) flX9_290 cl9 rfl rfl lb172 dX9_text_2 (fun σ1 hσ1 => ?_)
  refine Rk.sp (G_aload_n (pc := 5) 0 rfl rfl dX9_text_5) ?_
  refine Rk.sp (G_iconst (pc := 6) dX9_text_6) ?_
  refine Rk.pI (pc := 7) hσ1 (nmI (inRk (-1) rfl)) flX9_40 cl9 rfl rfl lb172 dX9_text_7 (fun σ2 hσ2 => ?_)
  refine Rk.sp (G_iload_n (pc := 10) 1 rfl rfl dX9_text_10) ?_
  refine Rk.sp (G_iconst (pc := 11) dX9_text_11) ?_
  refine Rk.sp (G_iconst (pc := 12) dX9_text_12) ?_
  refine Rk.cRZ (pc := 13) (Cl.s [vi a1, vi 0, vi 3] [] dX9_text_13 ckX9_72 rfl rfl (Nat.le_of_ble_eq_true rfl) (Nat.le_of_ble_eq_true rfl)) (k_Mo_isIn a1 0 3 ha1 (inRk 0 rfl) (inRk 3 rfl)) (fun r3 hr3 => ?_)
  refine Rk.if_ne (pc := 16) (tgt := 26) dX9_text_16 (nmI (inZ.R hr3)) rfl (fun hc4 => ?_) (fun hc4 => ?_)
  · refine Rk.sp (G_aload_n (pc := 19) 0 rfl rfl dX9_text_19) ?_
    refine Rk.sp (G_iconst (pc := 20) dX9_text_20) ?_
    refine Rk.pI (pc := 21) hσ2 (nmI (inRk 0 rfl)) flX9_94 cl9 rfl rfl lb172 dX9_text_21 (fun σ5 hσ5 => ?_)
    refine Rk.sp (G_iconst (pc := 24) dX9_text_24) ?_
    exact Rk.end_ (fun h => G_ireturn (pc := 25) rfl dX9_text_25 (q_I h (inRk (-1) rfl) hσ5))
  · refine Rk.sp (G_aload_n (pc := 26) 0 rfl rfl dX9_text_26) ?_
    refine Rk.sp (G_iconst (pc := 27) dX9_text_27) ?_
    refine Rk.pI (pc := 28) hσ2 (nmI (inRk 0 rfl)) flX9_208 cl9 rfl rfl lb172 dX9_text_28 (fun σ6 hσ6 => ?_)
    refine Rk.sp (G_aload_n (pc := 31) 0 rfl rfl dX9_text_31) ?_
    refine Rk.sp (G_iconst (pc := 32) dX9_text_32) ?_
    refine Rk.pI (pc := 33) hσ6 (nmI (inRk 0 rfl)) flX9_97 cl9 rfl rfl lb172 dX9_text_33 (fun σ7 hσ7 => ?_)
    refine Rk.sp (G_aload_n (pc := 36) 0 rfl rfl dX9_text_36) ?_
    refine Rk.sp (G_iload_n (pc := 37) 1 rfl rfl dX9_text_37) ?_
    refine Rk.pI (pc := 38) hσ7 (nmI ha1) flX9_173 cl9 rfl rfl lb172 dX9_text_38 (fun σ8 hσ8 => ?_)
    refine Rk.sp (G_aload_n (pc := 41) 0 rfl rfl dX9_text_41) ?_
    refine Rk.cV (pc := 42) (Cl.v [] [] dX9_text_42 ckX9_217 lb172 rfl rfl rfl (Nat.le_of_ble_eq_true rfl) (Nat.le_of_ble_eq_true rfl)) (k_Mo_next0 σ8 hσ8) (fun σ9 hσ9 => ?_)
    refine Rk.sp (G_iload_n (pc := 45) 1 rfl rfl dX9_text_45) ?_
    refine Rk.join (P := fun p => inR p.1 ∧ okS p.2) (pcj := 60) (fun p => [some (vr 172), some (vi a1), none]) (fun p => [vi p.1]) (fun p => (ms true μ p.2)) ?_ (fun p hp => ?_)
    · refine Rk.if_ne (pc := 46) (tgt := 56) dX9_text_46 (nmI ha1) rfl (fun hc10 => ?_) (fun hc10 => ?_)
      · refine Rk.sp (G_aload_n (pc := 49) 0 rfl rfl dX9_text_49) ?_
        refine Rk.cZ (pc := 50) (Cl.v [] [] dX9_text_50 ckX9_293 lb172 rfl rfl rfl (Nat.le_of_ble_eq_true rfl) (Nat.le_of_ble_eq_true rfl)) (k_Mo_readsLaw σ9 hσ9) (fun r13 σ14 hr13 hσ14 => ?_)
        refine Rk.sp (G_goto (pc := 53) (tgt := 60) dX9_text_53 rfl) ?_
        exact Rk.end_ (fun h => h ⟨(inZ.R hr13), hσ14⟩)
      · refine Rk.sp (G_aload_n (pc := 56) 0 rfl rfl dX9_text_56) ?_
        refine Rk.cZ (pc := 57) (Cl.v [] [] dX9_text_57 ckX9_296 lb172 rfl rfl rfl (Nat.le_of_ble_eq_true rfl) (Nat.le_of_ble_eq_true rfl)) (k_Mo_readsRows σ9 hσ9) (fun r15 σ16 hr15 hσ16 => ?_)
        exact Rk.end_ (fun h => h ⟨(inZ.R hr15), hσ16⟩)
    · obtain ⟨t11, σ12⟩ := p
      obtain ⟨ht11, hσ12⟩ := hp
      try dsimp only
      refine Rk.isa_n (pc := 60) 2 (L' := [some (vr 172), some (vi a1), some (vi t11)]) rfl (Nat.le_of_ble_eq_true rfl) rfl dX9_text_60 rfl ?_
      refine Rk.sp (G_aload_n (pc := 61) 0 rfl rfl dX9_text_61) ?_
      refine Rk.sp (G_iconst (pc := 62) dX9_text_62) ?_
      refine Rk.pI (pc := 63) hσ12 (nmI (inRk 0 rfl)) flX9_94 cl9 rfl rfl lb172 dX9_text_63 (fun σ17 hσ17 => ?_)
      refine Rk.sp (G_iload_n (pc := 66) 2 rfl rfl dX9_text_66) ?_
      refine Rk.if_eq (pc := 67) (tgt := 76) dX9_text_67 (nmI ht11) rfl (fun hc18 => ?_) (fun hc18 => ?_)
      · refine Rk.sp (G_aload_n (pc := 76) 0 rfl rfl dX9_text_76) ?_
        refine Rk.sp (G_aload_n (pc := 77) 0 rfl rfl dX9_text_77) ?_
        refine Rk.gI (pc := 78) flX9_208 cl9 rfl lb172 dX9_text_78 ?_
        refine Rk.pI (pc := 81) hσ17 (nmI (hσ17 _ _)) flX9_290 cl9 rfl rfl lb172 dX9_text_81 (fun σ19 hσ19 => ?_)
        refine Rk.sp (G_aload_n (pc := 84) 0 rfl rfl dX9_text_84) ?_
        refine Rk.sp (G_aload_n (pc := 85) 0 rfl rfl dX9_text_85) ?_
        refine Rk.gI (pc := 86) flX9_211 cl9 rfl lb172 dX9_text_86 ?_
        refine Rk.pI (pc := 89) hσ19 (nmI (hσ19 _ _)) flX9_40 cl9 rfl rfl lb172 dX9_text_89 (fun σ20 hσ20 => ?_)
        refine Rk.sp (G_iconst (pc := 92) dX9_text_92) ?_
        exact Rk.end_ (fun h => G_ireturn (pc := 93) rfl dX9_text_93 (q_I h (inRk (-1) rfl) hσ20))
      · refine Rk.sp (G_aload_n (pc := 70) 0 rfl rfl dX9_text_70) ?_
        refine Rk.sp (G_iload_n (pc := 71) 1 rfl rfl dX9_text_71) ?_
        refine Rk.cI (pc := 72) (Cl.v [vi a1] [] dX9_text_72 ckX9_299 lb172 rfl rfl rfl (Nat.le_of_ble_eq_true rfl) (Nat.le_of_ble_eq_true rfl)) (k_Mo_putsText a1 σ17 ha1 hσ17) (fun r21 σ22 hr21 hσ22 => ?_)
        exact Rk.end_ (fun h => G_ireturn (pc := 75) rfl dX9_text_75 (q_I h hr21 hσ22))
theorem k_Mo_thread {κ : Kx} {μ : Sg} (a1 : Int) (σ : Sg) (ha1 : inR a1) (hok : okS σ) : CtI κ mX9_thread 2 [vr 172, vi a1] true μ σ (Mo_thread a1 σ) := by
  intro r τ h
  refine con_of (by decide) (Nat.le_of_ble_eq_true rfl) 4 ?_
  refine (?_ : Rk κ mX9_thread _ 0 [some (vr 172), some (vi a1), none, none, none, none] [] (ms true μ σ) (Mo_thread a1 σ) (fun a => a = (r, τ))) _ h rfl
  unfold Mo_thread
  refine Rk.sp (G_iload_n (pc := 0) 1 rfl rfl dX9_thread_0) ?_
  refine Rk.sp (G_iconst (pc := 1) dX9_thread_1) ?_
  refine Rk.sp (G_iconst (pc := 2) dX9_thread_2) ?_
  refine Rk.cRZ (pc := 3) (Cl.s [vi a1, vi 0, vi 1] [] dX9_thread_3 ckX9_72 rfl rfl (Nat.le_of_ble_eq_true rfl) (Nat.le_of_ble_eq_true rfl)) (k_Mo_isIn a1 0 1 ha1 (inRk 0 rfl) (inRk 1 rfl)) (fun r1 hr1 => ?_)
  refine Rk.if_ne (pc := 6) (tgt := 11) dX9_thread_6 (nmI (inZ.R hr1)) rfl (fun hc2 => ?_) (fun hc2 => ?_)
  · refine Rk.sp (G_iconst (pc := 9) dX9_thread_9) ?_
    exact Rk.end_ (fun h => G_ireturn (pc := 10) rfl dX9_thread_10 (q_I h (inRk (-1) rfl) hok))
  · refine Rk.sp (G_iconst (pc := 11) dX9_thread_11) ?_
    refine Rk.isa_n (pc := 12) 2 (L' := [some (vr 172), some (vi a1), some (vi (-1)), none, none, none]) rfl (Nat.le_of_ble_eq_true rfl) rfl dX9_thread_12 rfl ?_
    refine Rk.sp (G_aload_n (pc := 13) 0 rfl rfl dX9_thread_13) ?_
    refine Rk.gR (pc := 14) 173 flX9_7 cl9 rfl lb172 dX9_thread_14 ?_
    refine Rk.sp (G_iconst (pc := 17) dX9_thread_17) ?_
    refine Rk.alc (pc := 18) 3 rfl (Nat.le_of_ble_eq_true rfl) lb173 dX9_thread_18 ?_
    refine Rk.sp (G_iconst (pc := 19) dX9_thread_19) ?_
    refine Rk.sp (G_isub (pc := 20) dX9_thread_20) ?_
    refine Rk.ist_n (pc := 21) 3 (fun v3_3 => [some (vr 172), some (vi a1), some (vi (-1)), some (vi v3_3), none, none]) rfl (Nat.le_of_ble_eq_true rfl) rfl dX9_thread_21 (nmW _) (fun _ => rfl) (fun v3_3 hv3_3 => ?_)
    refine Rk.loop (pc := 22) (B := (fun p => Mo_thread_22_b a1 p.1 p.2.1 p.2.2)) (fun p => inR p.1 ∧ inR p.2.1 ∧ okS p.2.2) (fun p => [some (vr 172), some (vi a1), some (vi p.1), some (vi p.2.1), none, none]) (fun p => (ms true μ p.2.2)) (fun p hp => ?_) ((-1), v3_3, σ) ⟨(inRk (-1) rfl), hv3_3, hok⟩
    obtain ⟨v2_4, v3_5, σ6⟩ := p
    obtain ⟨hv2_4, hv3_5, hσ6⟩ := hp
    try dsimp only
    unfold Mo_thread_22_b
    refine Rk.sp (G_iload_n (pc := 22) 3 rfl rfl dX9_thread_22) ?_
    refine Rk.if_lt (pc := 23) (tgt := 149) dX9_thread_23 (nmI hv3_5) rfl (fun hc7 => ?_) (fun hc7 => ?_)
    · refine Rk.sp (G_iload_n (pc := 149) 2 rfl rfl dX9_thread_149) ?_
      refine Rk.sp (G_iconst (pc := 150) dX9_thread_150) ?_
      refine Rk.icmp_eq (pc := 151) (tgt := 159) dX9_thread_151 (nmI hv2_4) (nmI (inRk (-1) rfl)) rfl (fun hc8 => ?_) (fun hc8 => ?_)
      · refine Rk.sp (G_iload_n (pc := 159) 2 rfl rfl dX9_thread_159) ?_
        refine Rk.sp (G_goto (pc := 160) (tgt := 169) dX9_thread_160 rfl) ?_
        exact Rk.end_ (fun h => G_ireturn (pc := 169) rfl dX9_thread_169 (q_I h hv2_4 hσ6))
      · refine Rk.sp (G_iload_n (pc := 154) 1 rfl rfl dX9_thread_154) ?_
        refine Rk.sp (G_iconst (pc := 155) dX9_thread_155) ?_
        refine Rk.icmp_ne (pc := 156) (tgt := 163) dX9_thread_156 (nmI ha1) (nmI (inRk 1 rfl)) rfl (fun hc9 => ?_) (fun hc9 => ?_)
        · refine Rk.sp (G_iload_n (pc := 159) 2 rfl rfl dX9_thread_159) ?_
          refine Rk.sp (G_goto (pc := 160) (tgt := 169) dX9_thread_160 rfl) ?_
          exact Rk.end_ (fun h => G_ireturn (pc := 169) rfl dX9_thread_169 (q_I h hv2_4 hσ6))
        · refine Rk.sp (G_aload_n (pc := 163) 0 rfl rfl dX9_thread_163) ?_
          refine Rk.gR (pc := 164) 188 flX9_62 cl9 rfl lb172 dX9_thread_164 ?_
          refine Rk.sp (G_iload_n (pc := 167) 2 rfl rfl dX9_thread_167) ?_
          refine Rk.al (pc := 168) lb188 dX9_thread_168 (fun hi10 => ?_)
          exact Rk.end_ (fun h => G_ireturn (pc := 169) rfl dX9_thread_169 (q_I h (hσ6 _ _) hσ6))
    · refine Rk.sp (G_aload_n (pc := 26) 0 rfl rfl dX9_thread_26) ?_
      refine Rk.sp (G_iload_n (pc := 27) 3 rfl rfl dX9_thread_27) ?_
      refine Rk.cRZ (pc := 28) (Cl.v [vi v3_5] [] dX9_thread_28 ckX9_79 lb172 rfl rfl rfl (Nat.le_of_ble_eq_true rfl) (Nat.le_of_ble_eq_true rfl)) (k_Mo_isBack v3_5 σ6 hv3_5 hσ6) (fun r11 hr11 => ?_)
      refine Rk.if_eq (pc := 31) (tgt := 37) dX9_thread_31 (nmI (inZ.R hr11)) rfl (fun hc12 => ?_) (fun hc12 => ?_)
      · refine Rk.sp (G_iconst (pc := 37) dX9_thread_37) ?_
        refine Rk.isa_w (pc := 38) 4 (L' := [some (vr 172), some (vi a1), some (vi v2_4), some (vi v3_5), some (vi 0), none]) (Nat.le_of_ble_eq_true rfl) rfl dX9_thread_38 rfl ?_
        refine Rk.sp (G_iload_n (pc := 40) 3 rfl rfl dX9_thread_40) ?_
        refine Rk.sp (G_iconst (pc := 41) dX9_thread_41) ?_
        refine Rk.sp (G_iadd (pc := 42) dX9_thread_42) ?_
        refine Rk.ist_w (pc := 43) 5 (fun v5_13 => [some (vr 172), some (vi a1), some (vi v2_4), some (vi v3_5), some (vi 0), some (vi v5_13)]) (Nat.le_of_ble_eq_true rfl) rfl dX9_thread_43 (nmW _) (fun _ => rfl) (fun v5_13 hv5_13 => ?_)
        refine Rk.loop (pc := 45) (B := (fun p => Mo_thread_45_b σ6 v3_5 v2_4 p.1 p.2)) (fun p => inR p.1 ∧ inR p.2) (fun p => [some (vr 172), some (vi a1), some (vi v2_4), some (vi v3_5), some (vi p.1), some (vi p.2)]) (fun p => (ms true μ σ6)) (fun p hp => ?_) (0, v5_13) ⟨(inRk 0 rfl), hv5_13⟩
        obtain ⟨v4_14, v5_15⟩ := p
        obtain ⟨hv4_14, hv5_15⟩ := hp
        try dsimp only
        unfold Mo_thread_45_b
        refine Rk.sp (G_iload_w (pc := 45) 5 rfl dX9_thread_45) ?_
        refine Rk.sp (G_aload_n (pc := 47) 0 rfl rfl dX9_thread_47) ?_
        refine Rk.gR (pc := 48) 173 flX9_7 cl9 rfl lb172 dX9_thread_48 ?_
        refine Rk.sp (G_iconst (pc := 51) dX9_thread_51) ?_
        refine Rk.alc (pc := 52) 3 rfl (Nat.le_of_ble_eq_true rfl) lb173 dX9_thread_52 ?_
        refine Rk.icmp_ge (pc := 53) (tgt := 102) dX9_thread_53 (nmI hv5_15) (nmI (hσ6 _ _)) rfl (fun hc16 => ?_) (fun hc16 => ?_)
        · refine Rk.sp (G_aload_n (pc := 56) 0 rfl rfl dX9_thread_56) ?_
          refine Rk.sp (G_iload_w (pc := 57) 5 rfl dX9_thread_57) ?_
          refine Rk.sp (G_bipush (pc := 59) dX9_thread_59 rfl) ?_
          refine Rk.cRI (pc := 61) (Cl.v [vi v5_15, vi 6] [] dX9_thread_61 ckX9_76 lb172 rfl rfl rfl (Nat.le_of_ble_eq_true rfl) (Nat.le_of_ble_eq_true rfl)) (k_Mo_of0 v5_15 6 σ6 hv5_15 (inRk 6 rfl) hσ6) (fun r17 hr17 => ?_)
          refine Rk.sp (G_iload_n (pc := 64) 3 rfl rfl dX9_thread_64) ?_
          refine Rk.icmp_ne (pc := 65) (tgt := 92) dX9_thread_65 (nmI hr17) (nmI hv3_5) rfl (fun hc18 => ?_) (fun hc18 => ?_)
          · refine Rk.sp (G_aload_n (pc := 68) 0 rfl rfl dX9_thread_68) ?_
            refine Rk.sp (G_iload_w (pc := 69) 5 rfl dX9_thread_69) ?_
            refine Rk.cRZ (pc := 71) (Cl.v [vi v5_15] [] dX9_thread_71 ckX9_79 lb172 rfl rfl rfl (Nat.le_of_ble_eq_true rfl) (Nat.le_of_ble_eq_true rfl)) (k_Mo_isBack v5_15 σ6 hv5_15 hσ6) (fun r19 hr19 => ?_)
            refine Rk.if_ne (pc := 74) (tgt := 92) dX9_thread_74 (nmI (inZ.R hr19)) rfl (fun hc20 => ?_) (fun hc20 => ?_)
            · refine Rk.sp (G_iload_w (pc := 77) 4 rfl dX9_thread_77) ?_
              refine Rk.sp (G_aload_n (pc := 79) 0 rfl rfl dX9_thread_79) ?_
              refine Rk.gR (pc := 80) 188 flX9_62 cl9 rfl lb172 dX9_thread_80 ?_
              refine Rk.sp (G_iload_w (pc := 83) 5 rfl dX9_thread_83) ?_
              refine Rk.al (pc := 85) lb188 dX9_thread_85 (fun hi21 => ?_)
              refine Rk.cRI (pc := 86) (Cl.s [vi v4_14, vi (σ6 188 (v5_15).toNat)] [] dX9_thread_86 ckX9_69 rfl rfl (Nat.le_of_ble_eq_true rfl) (Nat.le_of_ble_eq_true rfl)) (k_Mo_greater v4_14 (σ6 188 (v5_15).toNat) hv4_14 (hσ6 _ _)) (fun r22 hr22 => ?_)
              refine Rk.sp (G_goto (pc := 89) (tgt := 94) dX9_thread_89 rfl) ?_
              refine Rk.isa_w (pc := 94) 4 (L' := [some (vr 172), some (vi a1), some (vi v2_4), some (vi v3_5), some (vi r22), some (vi v5_15)]) (Nat.le_of_ble_eq_true rfl) rfl dX9_thread_94 rfl ?_
              refine Rk.inc (pc := 96) 5 (fun v5_23 => [some (vr 172), some (vi a1), some (vi v2_4), some (vi v3_5), some (vi r22), some (vi v5_23)]) rfl (Nat.le_of_ble_eq_true rfl) rfl dX9_thread_96 (fun _ => rfl) (fun v5_23 hv5_23 => ?_)
              refine Rk.sp (G_goto (pc := 99) (tgt := 45) dX9_thread_99 rfl) ?_
              exact Rk.end_ (fun h => h ⟨hr22, hv5_23⟩)
            · refine Rk.sp (G_iload_w (pc := 92) 4 rfl dX9_thread_92) ?_
              refine Rk.isa_w (pc := 94) 4 (L' := [some (vr 172), some (vi a1), some (vi v2_4), some (vi v3_5), some (vi v4_14), some (vi v5_15)]) (Nat.le_of_ble_eq_true rfl) rfl dX9_thread_94 rfl ?_
              refine Rk.inc (pc := 96) 5 (fun v5_24 => [some (vr 172), some (vi a1), some (vi v2_4), some (vi v3_5), some (vi v4_14), some (vi v5_24)]) rfl (Nat.le_of_ble_eq_true rfl) rfl dX9_thread_96 (fun _ => rfl) (fun v5_24 hv5_24 => ?_)
              refine Rk.sp (G_goto (pc := 99) (tgt := 45) dX9_thread_99 rfl) ?_
              exact Rk.end_ (fun h => h ⟨hv4_14, hv5_24⟩)
          · refine Rk.sp (G_iload_w (pc := 92) 4 rfl dX9_thread_92) ?_
            refine Rk.isa_w (pc := 94) 4 (L' := [some (vr 172), some (vi a1), some (vi v2_4), some (vi v3_5), some (vi v4_14), some (vi v5_15)]) (Nat.le_of_ble_eq_true rfl) rfl dX9_thread_94 rfl ?_
            refine Rk.inc (pc := 96) 5 (fun v5_25 => [some (vr 172), some (vi a1), some (vi v2_4), some (vi v3_5), some (vi v4_14), some (vi v5_25)]) rfl (Nat.le_of_ble_eq_true rfl) rfl dX9_thread_96 (fun _ => rfl) (fun v5_25 hv5_25 => ?_)
            refine Rk.sp (G_goto (pc := 99) (tgt := 45) dX9_thread_99 rfl) ?_
            exact Rk.end_ (fun h => h ⟨hv4_14, hv5_25⟩)
        · refine Rk.sp (G_aload_n (pc := 102) 0 rfl rfl dX9_thread_102) ?_
          refine Rk.gR (pc := 103) 188 flX9_62 cl9 rfl lb172 dX9_thread_103 ?_
          refine Rk.sp (G_iload_n (pc := 106) 3 rfl rfl dX9_thread_106) ?_
          refine Rk.sp (G_aload_n (pc := 107) 0 rfl rfl dX9_thread_107) ?_
          refine Rk.sp (G_iload_n (pc := 108) 3 rfl rfl dX9_thread_108) ?_
          refine Rk.sp (G_iconst (pc := 109) dX9_thread_109) ?_
          refine Rk.cRI (pc := 110) (Cl.v [vi v3_5, vi 4] [vi v3_5, vr 188] dX9_thread_110 ckX9_76 lb172 rfl rfl rfl (Nat.le_of_ble_eq_true rfl) (Nat.le_of_ble_eq_true rfl)) (k_Mo_of0 v3_5 4 σ6 hv3_5 (inRk 4 rfl) hσ6) (fun r26 hr26 => ?_)
          refine Rk.sp (G_iload_w (pc := 113) 4 rfl dX9_thread_113) ?_
          refine Rk.sp (G_iadd (pc := 115) dX9_thread_115) ?_
          refine Rk.as (pc := 116) hσ6 (nmW _) lb188 dX9_thread_116 (fun hi28 σ27 hσ27 => ?_)
          refine Rk.sp (G_iload_n (pc := 117) 2 rfl rfl dX9_thread_117) ?_
          refine Rk.sp (G_iconst (pc := 118) dX9_thread_118) ?_
          refine Rk.icmp_eq (pc := 119) (tgt := 137) dX9_thread_119 (nmI hv2_4) (nmI (inRk (-1) rfl)) rfl (fun hc29 => ?_) (fun hc29 => ?_)
          · refine Rk.sp (G_iload_n (pc := 137) 3 rfl rfl dX9_thread_137) ?_
            refine Rk.sp (G_goto (pc := 138) (tgt := 142) dX9_thread_138 rfl) ?_
            refine Rk.isa_n (pc := 142) 2 (L' := [some (vr 172), some (vi a1), some (vi v3_5), some (vi v3_5), some (vi v4_14), some (vi v5_15)]) rfl (Nat.le_of_ble_eq_true rfl) rfl dX9_thread_142 rfl ?_
            refine Rk.inc (pc := 143) 3 (fun v3_30 => [some (vr 172), some (vi a1), some (vi v3_5), some (vi v3_30), some (vi v4_14), some (vi v5_15)]) rfl (Nat.le_of_ble_eq_true rfl) rfl dX9_thread_143 (fun _ => rfl) (fun v3_30 hv3_30 => ?_)
            refine Rk.sp (G_goto (pc := 146) (tgt := 22) dX9_thread_146 rfl) ?_
            refine Rk.fg [true, true, true, true, false, false] (L' := [some (vr 172), some (vi a1), some (vi v3_5), some (vi v3_30), none, none]) rfl ?_
            exact Rk.end_ (fun h => h ⟨hv3_5, hv3_30, hσ27⟩)
          · refine Rk.sp (G_aload_n (pc := 122) 0 rfl rfl dX9_thread_122) ?_
            refine Rk.gR (pc := 123) 188 flX9_62 cl9 rfl lb172 dX9_thread_123 ?_
            refine Rk.sp (G_iload_n (pc := 126) 3 rfl rfl dX9_thread_126) ?_
            refine Rk.al (pc := 127) lb188 dX9_thread_127 (fun hi31 => ?_)
            refine Rk.sp (G_aload_n (pc := 128) 0 rfl rfl dX9_thread_128) ?_
            refine Rk.gR (pc := 129) 188 flX9_62 cl9 rfl lb172 dX9_thread_129 ?_
            refine Rk.sp (G_iload_n (pc := 132) 2 rfl rfl dX9_thread_132) ?_
            refine Rk.al (pc := 133) lb188 dX9_thread_133 (fun hi32 => ?_)
            refine Rk.icmp_lt (pc := 134) (tgt := 141) dX9_thread_134 (nmI (hσ27 _ _)) (nmI (hσ27 _ _)) rfl (fun hc33 => ?_) (fun hc33 => ?_)
            · refine Rk.sp (G_iload_n (pc := 141) 2 rfl rfl dX9_thread_141) ?_
              refine Rk.isa_n (pc := 142) 2 (L' := [some (vr 172), some (vi a1), some (vi v2_4), some (vi v3_5), some (vi v4_14), some (vi v5_15)]) rfl (Nat.le_of_ble_eq_true rfl) rfl dX9_thread_142 rfl ?_
              refine Rk.inc (pc := 143) 3 (fun v3_34 => [some (vr 172), some (vi a1), some (vi v2_4), some (vi v3_34), some (vi v4_14), some (vi v5_15)]) rfl (Nat.le_of_ble_eq_true rfl) rfl dX9_thread_143 (fun _ => rfl) (fun v3_34 hv3_34 => ?_)
              refine Rk.sp (G_goto (pc := 146) (tgt := 22) dX9_thread_146 rfl) ?_
              refine Rk.fg [true, true, true, true, false, false] (L' := [some (vr 172), some (vi a1), some (vi v2_4), some (vi v3_34), none, none]) rfl ?_
              exact Rk.end_ (fun h => h ⟨hv2_4, hv3_34, hσ27⟩)
            · refine Rk.sp (G_iload_n (pc := 137) 3 rfl rfl dX9_thread_137) ?_
              refine Rk.sp (G_goto (pc := 138) (tgt := 142) dX9_thread_138 rfl) ?_
              refine Rk.isa_n (pc := 142) 2 (L' := [some (vr 172), some (vi a1), some (vi v3_5), some (vi v3_5), some (vi v4_14), some (vi v5_15)]) rfl (Nat.le_of_ble_eq_true rfl) rfl dX9_thread_142 rfl ?_
              refine Rk.inc (pc := 143) 3 (fun v3_35 => [some (vr 172), some (vi a1), some (vi v3_5), some (vi v3_35), some (vi v4_14), some (vi v5_15)]) rfl (Nat.le_of_ble_eq_true rfl) rfl dX9_thread_143 (fun _ => rfl) (fun v3_35 hv3_35 => ?_)
              refine Rk.sp (G_goto (pc := 146) (tgt := 22) dX9_thread_146 rfl) ?_
              refine Rk.fg [true, true, true, true, false, false] (L' := [some (vr 172), some (vi a1), some (vi v3_5), some (vi v3_35), none, none]) rfl ?_
              exact Rk.end_ (fun h => h ⟨hv3_5, hv3_35, hσ27⟩)
      · refine Rk.sp (G_goto (pc := 34) (tgt := 143) dX9_thread_34 rfl) ?_
        refine Rk.inc (pc := 143) 3 (fun v3_36 => [some (vr 172), some (vi a1), some (vi v2_4), some (vi v3_36), none, none]) rfl (Nat.le_of_ble_eq_true rfl) rfl dX9_thread_143 (fun _ => rfl) (fun v3_36 hv3_36 => ?_)
        refine Rk.sp (G_goto (pc := 146) (tgt := 22) dX9_thread_146 rfl) ?_
        exact Rk.end_ (fun h => h ⟨hv2_4, hv3_36, hσ6⟩)
theorem k_Mo_time {κ : Kx} {μ : Sg} (a1 : Int) (σ : Sg) (ha1 : inR a1) (hok : okS σ) : CtI κ mX9_time 1 [vr 172, vi a1] true μ σ (Mo_time a1 σ) := by
  intro r τ h
  refine con_of (by decide) (Nat.le_of_ble_eq_true rfl) 0 ?_
  refine (?_ : Rk κ mX9_time _ 0 [some (vr 172), some (vi a1)] [] (ms true μ σ) (Mo_time a1 σ) (fun a => a = (r, τ))) _ h rfl
  unfold Mo_time
  refine Rk.sp (G_iload_n (pc := 0) 1 rfl rfl dX9_time_0) ?_
  refine Rk.sp (G_iconst (pc := 1) dX9_time_1) ?_
  refine Rk.icmp_ne (pc := 2) (tgt := 16) dX9_time_2 (nmI ha1) (nmI (inRk (-1) rfl)) rfl (fun hc1 => ?_) (fun hc1 => ?_)
  · refine Rk.sp (G_aload_n (pc := 5) 0 rfl rfl dX9_time_5) ?_
    refine Rk.gR (pc := 6) 173 flX9_7 cl9 rfl lb172 dX9_time_6 ?_
    refine Rk.sp (G_sipush (pc := 9) dX9_time_9 rfl) ?_
    refine Rk.sp (G_iconst (pc := 12) dX9_time_12) ?_
    refine Rk.asc (pc := 13) hok (nmI (inRk 0 rfl)) 554 rfl (Nat.le_of_ble_eq_true rfl) lb173 dX9_time_13 (fun σ2 hσ2 => ?_)
    refine Rk.sp (G_iconst (pc := 14) dX9_time_14) ?_
    exact Rk.end_ (fun h => G_ireturn (pc := 15) rfl dX9_time_15 (q_I h (inRk 0 rfl) hσ2))
  · refine Rk.sp (G_iload_n (pc := 16) 1 rfl rfl dX9_time_16) ?_
    refine Rk.sp (G_iconst (pc := 17) dX9_time_17) ?_
    refine Rk.sp (G_sipush (pc := 18) dX9_time_18 rfl) ?_
    refine Rk.cRZ (pc := 21) (Cl.s [vi a1, vi 0, vi 1439] [] dX9_time_21 ckX9_72 rfl rfl (Nat.le_of_ble_eq_true rfl) (Nat.le_of_ble_eq_true rfl)) (k_Mo_isIn a1 0 1439 ha1 (inRk 0 rfl) (inRk 1439 rfl)) (fun r3 hr3 => ?_)
    refine Rk.if_eq (pc := 24) (tgt := 40) dX9_time_24 (nmI (inZ.R hr3)) rfl (fun hc4 => ?_) (fun hc4 => ?_)
    · refine Rk.sp (G_iconst (pc := 40) dX9_time_40) ?_
      exact Rk.end_ (fun h => G_ireturn (pc := 41) rfl dX9_time_41 (q_I h (inRk (-1) rfl) hok))
    · refine Rk.sp (G_aload_n (pc := 27) 0 rfl rfl dX9_time_27) ?_
      refine Rk.gR (pc := 28) 173 flX9_7 cl9 rfl lb172 dX9_time_28 ?_
      refine Rk.sp (G_sipush (pc := 31) dX9_time_31 rfl) ?_
      refine Rk.alc (pc := 34) 554 rfl (Nat.le_of_ble_eq_true rfl) lb173 dX9_time_34 ?_
      refine Rk.sp (G_bipush (pc := 35) dX9_time_35 rfl) ?_
      refine Rk.icmp_ne (pc := 37) (tgt := 42) dX9_time_37 (nmI (hok _ _)) (nmI (inRk 10 rfl)) rfl (fun hc5 => ?_) (fun hc5 => ?_)
      · refine Rk.sp (G_iconst (pc := 40) dX9_time_40) ?_
        exact Rk.end_ (fun h => G_ireturn (pc := 41) rfl dX9_time_41 (q_I h (inRk (-1) rfl) hok))
      · refine Rk.sp (G_aload_n (pc := 42) 0 rfl rfl dX9_time_42) ?_
        refine Rk.gR (pc := 43) 173 flX9_7 cl9 rfl lb172 dX9_time_43 ?_
        refine Rk.sp (G_sipush (pc := 46) dX9_time_46 rfl) ?_
        refine Rk.sp (G_aload_n (pc := 49) 0 rfl rfl dX9_time_49) ?_
        refine Rk.gR (pc := 50) 173 flX9_7 cl9 rfl lb172 dX9_time_50 ?_
        refine Rk.sp (G_sipush (pc := 53) dX9_time_53 rfl) ?_
        refine Rk.alc (pc := 56) 554 rfl (Nat.le_of_ble_eq_true rfl) lb173 dX9_time_56 ?_
        refine Rk.sp (G_iadd (pc := 57) dX9_time_57) ?_
        refine Rk.sp (G_iload_n (pc := 58) 1 rfl rfl dX9_time_58) ?_
        refine Rk.as (pc := 59) hok (nmI ha1) lb173 dX9_time_59 (fun hi7 σ6 hσ6 => ?_)
        refine Rk.sp (G_aload_n (pc := 60) 0 rfl rfl dX9_time_60) ?_
        refine Rk.gR (pc := 61) 173 flX9_7 cl9 rfl lb172 dX9_time_61 ?_
        refine Rk.sp (G_sipush (pc := 64) dX9_time_64 rfl) ?_
        refine Rk.sp (G_dup2 (pc := 67) dX9_time_67 (fun _ h => by cases h) (fun _ h => by cases h)) ?_
        refine Rk.alc (pc := 68) 554 rfl (Nat.le_of_ble_eq_true rfl) lb173 dX9_time_68 ?_
        refine Rk.sp (G_iconst (pc := 69) dX9_time_69) ?_
        refine Rk.sp (G_iadd (pc := 70) dX9_time_70) ?_
        refine Rk.asc (pc := 71) hσ6 (nmW _) 554 rfl (Nat.le_of_ble_eq_true rfl) lb173 dX9_time_71 (fun σ8 hσ8 => ?_)
        refine Rk.sp (G_aload_n (pc := 72) 0 rfl rfl dX9_time_72) ?_
        refine Rk.gR (pc := 73) 173 flX9_7 cl9 rfl lb172 dX9_time_73 ?_
        refine Rk.sp (G_sipush (pc := 76) dX9_time_76 rfl) ?_
        refine Rk.alc (pc := 79) 554 rfl (Nat.le_of_ble_eq_true rfl) lb173 dX9_time_79 ?_
        exact Rk.end_ (fun h => G_ireturn (pc := 80) rfl dX9_time_80 (q_I h (hσ8 _ _) hσ8))
theorem k_Mo_undo {κ : Kx} {μ : Sg} (σ : Sg) (hok : okS σ) : CtZ κ mX9_undo 0 [vr 172] true μ σ (Mo_undo σ) := by
  intro r τ h
  refine con_of (by decide) (Nat.le_of_ble_eq_true rfl) 1 ?_
  refine (?_ : Rk κ mX9_undo _ 0 [some (vr 172), none] [] (ms true μ σ) (Mo_undo σ) (fun a => a = (r, τ))) _ h rfl
  unfold Mo_undo
  refine Rk.sp (G_aload_n (pc := 0) 0 rfl rfl dX9_undo_0) ?_
  refine Rk.gI (pc := 1) flX9_83 cl9 rfl lb172 dX9_undo_1 ?_
  refine Rk.if_ne (pc := 4) (tgt := 9) dX9_undo_4 (nmI (hok _ _)) rfl (fun hc1 => ?_) (fun hc1 => ?_)
  · refine Rk.sp (G_iconst (pc := 7) dX9_undo_7) ?_
    exact Rk.end_ (fun h => G_zreturn (pc := 8) rfl (nz inZ0) dX9_undo_8 (q_Z h inZ0 hok))
  · refine Rk.sp (G_aload_n (pc := 9) 0 rfl rfl dX9_undo_9) ?_
    refine Rk.sp (G_dup (pc := 10) dX9_undo_10 (fun _ h => by cases h)) ?_
    refine Rk.gI (pc := 11) flX9_83 cl9 rfl lb172 dX9_undo_11 ?_
    refine Rk.sp (G_iconst (pc := 14) dX9_undo_14) ?_
    refine Rk.sp (G_isub (pc := 15) dX9_undo_15) ?_
    refine Rk.pI (pc := 16) hok (nmW _) flX9_83 cl9 rfl rfl lb172 dX9_undo_16 (fun σ2 hσ2 => ?_)
    refine Rk.sp (G_iconst (pc := 19) dX9_undo_19) ?_
    refine Rk.isa_n (pc := 20) 1 (L' := [some (vr 172), some (vi 0)]) rfl (Nat.le_of_ble_eq_true rfl) rfl dX9_undo_20 rfl ?_
    refine Rk.loop (pc := 21) (B := (fun p => Mo_undo_21_b p.1 p.2)) (fun p => inR p.1 ∧ okS p.2) (fun p => [some (vr 172), some (vi p.1)]) (fun p => (ms true μ p.2)) (fun p hp => ?_) (0, σ2) ⟨(inRk 0 rfl), hσ2⟩
    obtain ⟨v1_3, σ4⟩ := p
    obtain ⟨hv1_3, hσ4⟩ := hp
    try dsimp only
    unfold Mo_undo_21_b
    refine Rk.sp (G_iload_n (pc := 21) 1 rfl rfl dX9_undo_21) ?_
    refine Rk.sp (G_sipush (pc := 22) dX9_undo_22 rfl) ?_
    refine Rk.icmp_ge (pc := 25) (tgt := 55) dX9_undo_25 (nmI hv1_3) (nmI (inRk 548 rfl)) rfl (fun hc5 => ?_) (fun hc5 => ?_)
    · refine Rk.sp (G_aload_n (pc := 28) 0 rfl rfl dX9_undo_28) ?_
      refine Rk.gR (pc := 29) 173 flX9_7 cl9 rfl lb172 dX9_undo_29 ?_
      refine Rk.sp (G_iload_n (pc := 32) 1 rfl rfl dX9_undo_32) ?_
      refine Rk.sp (G_aload_n (pc := 33) 0 rfl rfl dX9_undo_33) ?_
      refine Rk.gR (pc := 34) 175 flX9_16 cl9 rfl lb172 dX9_undo_34 ?_
      refine Rk.sp (G_sipush (pc := 37) dX9_undo_37 rfl) ?_
      refine Rk.sp (G_aload_n (pc := 40) 0 rfl rfl dX9_undo_40) ?_
      refine Rk.gI (pc := 41) flX9_83 cl9 rfl lb172 dX9_undo_41 ?_
      refine Rk.sp (G_imul (pc := 44) dX9_undo_44) ?_
      refine Rk.sp (G_iload_n (pc := 45) 1 rfl rfl dX9_undo_45) ?_
      refine Rk.sp (G_iadd (pc := 46) dX9_undo_46) ?_
      refine Rk.al (pc := 47) lb175 dX9_undo_47 (fun hi6 => ?_)
      refine Rk.as (pc := 48) hσ4 (nmI (hσ4 _ _)) lb173 dX9_undo_48 (fun hi8 σ7 hσ7 => ?_)
      refine Rk.inc (pc := 49) 1 (fun v1_9 => [some (vr 172), some (vi v1_9)]) rfl (Nat.le_of_ble_eq_true rfl) rfl dX9_undo_49 (fun _ => rfl) (fun v1_9 hv1_9 => ?_)
      refine Rk.sp (G_goto (pc := 52) (tgt := 21) dX9_undo_52 rfl) ?_
      exact Rk.end_ (fun h => h ⟨hv1_9, hσ7⟩)
    · refine Rk.sp (G_iconst (pc := 55) dX9_undo_55) ?_
      exact Rk.end_ (fun h => G_zreturn (pc := 56) rfl (nz inZ1) dX9_undo_56 (q_Z h inZ1 hσ4))
theorem k_Mo_waits {κ : Kx} {μ : Sg} (a1 : Int) (σ : Sg) (ha1 : inR a1) (hok : okS σ) : CtRI κ mX9_waits 1 [vr 172, vi a1] true μ σ (Mo_waits a1 σ) := by
  intro r h
  refine con_of (by decide) (Nat.le_of_ble_eq_true rfl) 6 ?_
  refine (?_ : Rk κ mX9_waits _ 0 [some (vr 172), some (vi a1), none, none, none, none, none, none] [] (ms true μ σ) (Mo_waits a1 σ) (fun a => a = r)) _ h rfl
  unfold Mo_waits
  refine Rk.sp (G_iload_n (pc := 0) 1 rfl rfl dX9_waits_0) ?_
  refine Rk.sp (G_iconst (pc := 1) dX9_waits_1) ?_
  refine Rk.sp (G_sipush (pc := 2) dX9_waits_2 rfl) ?_
  refine Rk.cRZ (pc := 5) (Cl.s [vi a1, vi 0, vi 1000] [] dX9_waits_5 ckX9_72 rfl rfl (Nat.le_of_ble_eq_true rfl) (Nat.le_of_ble_eq_true rfl)) (k_Mo_isIn a1 0 1000 ha1 (inRk 0 rfl) (inRk 1000 rfl)) (fun r1 hr1 => ?_)
  refine Rk.if_ne (pc := 8) (tgt := 13) dX9_waits_8 (nmI (inZ.R hr1)) rfl (fun hc2 => ?_) (fun hc2 => ?_)
  · refine Rk.sp (G_iconst (pc := 11) dX9_waits_11) ?_
    exact Rk.end_ (fun h => G_ireturn (pc := 12) rfl dX9_waits_12 (q_RI h (inRk (-1) rfl)))
  · refine Rk.sp (G_iconst (pc := 13) dX9_waits_13) ?_
    refine Rk.isa_n (pc := 14) 2 (L' := [some (vr 172), some (vi a1), some (vi (-1)), none, none, none, none, none]) rfl (Nat.le_of_ble_eq_true rfl) rfl dX9_waits_14 rfl ?_
    refine Rk.sp (G_ldc2 (pc := 15) (n := (-1)) dX9_waits_15 conjX9_431 (by decide)) ?_
    refine Rk.lst_n (pc := 18) 3 (fun v3_3 => [some (vr 172), some (vi a1), some (vi (-1)), some (vl v3_3), none, none, none, none]) rfl (Nat.le_of_ble_eq_true rfl) rfl dX9_waits_18 (nmjI (inJk (-1) rfl)) (fun _ => rfl) (fun v3_3 hv3_3 => ?_)
    refine Rk.sp (G_iconst (pc := 19) dX9_waits_19) ?_
    refine Rk.isa_w (pc := 20) 5 (L' := [some (vr 172), some (vi a1), some (vi (-1)), some (vl v3_3), none, some (vi 0), none, none]) (Nat.le_of_ble_eq_true rfl) rfl dX9_waits_20 rfl ?_
    refine Rk.loop (pc := 22) (B := (fun p => Mo_waits_22_b σ a1 p.1 p.2.1 p.2.2)) (fun p => inR p.1 ∧ inJ p.2.1 ∧ inR p.2.2) (fun p => [some (vr 172), some (vi a1), some (vi p.1), some (vl p.2.1), none, some (vi p.2.2), none, none]) (fun p => (ms true μ σ)) (fun p hp => ?_) ((-1), v3_3, 0) ⟨(inRk (-1) rfl), hv3_3, (inRk 0 rfl)⟩
    obtain ⟨v2_4, v3_5, v5_6⟩ := p
    obtain ⟨hv2_4, hv3_5, hv5_6⟩ := hp
    try dsimp only
    unfold Mo_waits_22_b
    refine Rk.sp (G_iload_w (pc := 22) 5 rfl dX9_waits_22) ?_
    refine Rk.sp (G_aload_n (pc := 24) 0 rfl rfl dX9_waits_24) ?_
    refine Rk.gR (pc := 25) 173 flX9_7 cl9 rfl lb172 dX9_waits_25 ?_
    refine Rk.sp (G_sipush (pc := 28) dX9_waits_28 rfl) ?_
    refine Rk.alc (pc := 31) 553 rfl (Nat.le_of_ble_eq_true rfl) lb173 dX9_waits_31 ?_
    refine Rk.icmp_ge (pc := 32) (tgt := 103) dX9_waits_32 (nmI hv5_6) (nmI (hok _ _)) rfl (fun hc7 => ?_) (fun hc7 => ?_)
    · refine Rk.sp (G_aload_n (pc := 35) 0 rfl rfl dX9_waits_35) ?_
      refine Rk.sp (G_ldc2 (pc := 36) (n := 1000) dX9_waits_36 conjX9_423 (by decide)) ?_
      refine Rk.sp (G_iload_n (pc := 39) 1 rfl rfl dX9_waits_39) ?_
      refine Rk.sp (G_i2l (pc := 40) dX9_waits_40 (nmI ha1)) ?_
      refine Rk.sp (G_lmul (pc := 41) dX9_waits_41) ?_
      refine Rk.sp (G_iload_w (pc := 42) 5 rfl dX9_waits_42) ?_
      refine Rk.sp (G_iconst (pc := 44) dX9_waits_44) ?_
      refine Rk.sp (Go.j2 (nmjW _)) ?_
      refine Rk.cRJ (pc := 45) (Cl.v [vl (wrJ (1000 * a1)), vi v5_6, vi 1] [] dX9_waits_45 ckX9_425 lb172 rfl rfl rfl (Nat.le_of_ble_eq_true rfl) (Nat.le_of_ble_eq_true rfl)) (k_Mo_bySign (wrJ (1000 * a1)) v5_6 1 σ (wrJR _) hv5_6 (inRk 1 rfl) hok) (fun r8 hr8 => ?_)
      refine Rk.sp (G_aload_n (pc := 48) 0 rfl rfl dX9_waits_48) ?_
      refine Rk.sp (G_ldc2 (pc := 49) (n := 1000) dX9_waits_49 conjX9_423 (by decide)) ?_
      refine Rk.sp (G_iload_n (pc := 52) 1 rfl rfl dX9_waits_52) ?_
      refine Rk.sp (G_i2l (pc := 53) dX9_waits_53 (nmI ha1)) ?_
      refine Rk.sp (G_lmul (pc := 54) dX9_waits_54) ?_
      refine Rk.sp (G_iload_w (pc := 55) 5 rfl dX9_waits_55) ?_
      refine Rk.sp (G_iconst (pc := 57) dX9_waits_57) ?_
      refine Rk.sp (Go.j2 (nmjW _)) ?_
      refine Rk.cRJ (pc := 58) (Cl.v [vl (wrJ (1000 * a1)), vi v5_6, vi 0] [vl r8] dX9_waits_58 ckX9_425 lb172 rfl rfl rfl (Nat.le_of_ble_eq_true rfl) (Nat.le_of_ble_eq_true rfl)) (k_Mo_bySign (wrJ (1000 * a1)) v5_6 0 σ (wrJR _) hv5_6 (inRk 0 rfl) hok) (fun r9 hr9 => ?_)
      refine Rk.sp (G_lsub (pc := 61) dX9_waits_61) ?_
      refine Rk.lst_w (pc := 62) 6 (fun v6_10 => [some (vr 172), some (vi a1), some (vi v2_4), some (vl v3_5), none, some (vi v5_6), some (vl v6_10), none]) (Nat.le_of_ble_eq_true rfl) rfl dX9_waits_62 (nmjW _) (fun _ => rfl) (fun v6_10 hv6_10 => ?_)
      refine Rk.sp (G_lload_w (pc := 64) 6 rfl dX9_waits_64) ?_
      refine Rk.sp (G_lconst (pc := 66) dX9_waits_66) ?_
      refine Rk.sp (G_lcmp (pc := 67) dX9_waits_67 (nmjI hv6_10) (nmjI (inJk 0 rfl))) ?_
      refine Rk.join (P := fun p => inJ p) (pcj := 79) (fun p => [some (vr 172), some (vi a1), some (vi v2_4), some (vl v3_5), none, some (vi v5_6), none, none]) (fun p => [vl p]) (fun p => (ms true μ σ)) ?_ (fun p hp => ?_)
      · refine Rk.if_ge (pc := 68) (tgt := 77) dX9_waits_68 (nmI (cmpJ_R _ _)) rfl (fun hc11 => ?_) (fun hc11 => ?_)
        · refine Rk.sp (G_lload_w (pc := 71) 6 rfl dX9_waits_71) ?_
          refine Rk.sp (G_lneg (pc := 73) dX9_waits_73) ?_
          refine Rk.sp (G_goto (pc := 74) (tgt := 79) dX9_waits_74 rfl) ?_
          refine Rk.sp (Go.j0 (nmjW _)) ?_
          refine Rk.fg [true, true, true, true, false, true, false, false] (L' := [some (vr 172), some (vi a1), some (vi v2_4), some (vl v3_5), none, some (vi v5_6), none, none]) rfl ?_
          exact Rk.end_ (fun h => h (wrJR _))
        · refine Rk.sp (G_lload_w (pc := 77) 6 rfl dX9_waits_77) ?_
          refine Rk.fg [true, true, true, true, false, true, false, false] (L' := [some (vr 172), some (vi a1), some (vi v2_4), some (vl v3_5), none, some (vi v5_6), none, none]) rfl ?_
          exact Rk.end_ (fun h => h hv6_10)
      · revert hp; revert p; intro t12 ht12
        try dsimp only
        refine Rk.lst_w (pc := 79) 6 (fun v6_13 => [some (vr 172), some (vi a1), some (vi v2_4), some (vl v3_5), none, some (vi v5_6), some (vl v6_13), none]) (Nat.le_of_ble_eq_true rfl) rfl dX9_waits_79 (nmjI ht12) (fun _ => rfl) (fun v6_13 hv6_13 => ?_)
        refine Rk.sp (G_lload_w (pc := 81) 6 rfl dX9_waits_81) ?_
        refine Rk.sp (G_lload_n (pc := 83) 3 rfl rfl dX9_waits_83) ?_
        refine Rk.sp (G_lcmp (pc := 84) dX9_waits_84 (nmjI hv6_13) (nmjI hv3_5)) ?_
        refine Rk.if_gt (pc := 85) (tgt := 91) dX9_waits_85 (nmI (cmpJ_R _ _)) rfl (fun hc14 => ?_) (fun hc14 => ?_)
        · refine Rk.sp (G_lload_w (pc := 91) 6 rfl dX9_waits_91) ?_
          refine Rk.lst_n (pc := 93) 3 (fun v3_15 => [some (vr 172), some (vi a1), some (vi v2_4), some (vl v3_15), none, some (vi v5_6), some (vl v6_13), none]) rfl (Nat.le_of_ble_eq_true rfl) rfl dX9_waits_93 (nmjI hv6_13) (fun _ => rfl) (fun v3_15 hv3_15 => ?_)
          refine Rk.sp (G_iload_w (pc := 94) 5 rfl dX9_waits_94) ?_
          refine Rk.isa_n (pc := 96) 2 (L' := [some (vr 172), some (vi a1), some (vi v5_6), some (vl v3_15), none, some (vi v5_6), some (vl v6_13), none]) rfl (Nat.le_of_ble_eq_true rfl) rfl dX9_waits_96 rfl ?_
          refine Rk.inc (pc := 97) 5 (fun v5_16 => [some (vr 172), some (vi a1), some (vi v5_6), some (vl v3_15), none, some (vi v5_16), some (vl v6_13), none]) rfl (Nat.le_of_ble_eq_true rfl) rfl dX9_waits_97 (fun _ => rfl) (fun v5_16 hv5_16 => ?_)
          refine Rk.sp (G_goto (pc := 100) (tgt := 22) dX9_waits_100 rfl) ?_
          refine Rk.fg [true, true, true, true, false, true, false, false] (L' := [some (vr 172), some (vi a1), some (vi v5_6), some (vl v3_15), none, some (vi v5_16), none, none]) rfl ?_
          exact Rk.end_ (fun h => h ⟨hv5_6, hv3_15, hv5_16⟩)
        · refine Rk.sp (G_goto (pc := 88) (tgt := 97) dX9_waits_88 rfl) ?_
          refine Rk.inc (pc := 97) 5 (fun v5_17 => [some (vr 172), some (vi a1), some (vi v2_4), some (vl v3_5), none, some (vi v5_17), some (vl v6_13), none]) rfl (Nat.le_of_ble_eq_true rfl) rfl dX9_waits_97 (fun _ => rfl) (fun v5_17 hv5_17 => ?_)
          refine Rk.sp (G_goto (pc := 100) (tgt := 22) dX9_waits_100 rfl) ?_
          refine Rk.fg [true, true, true, true, false, true, false, false] (L' := [some (vr 172), some (vi a1), some (vi v2_4), some (vl v3_5), none, some (vi v5_17), none, none]) rfl ?_
          exact Rk.end_ (fun h => h ⟨hv2_4, hv3_5, hv5_17⟩)
    · refine Rk.sp (G_iload_n (pc := 103) 2 rfl rfl dX9_waits_103) ?_
      exact Rk.end_ (fun h => G_ireturn (pc := 104) rfl dX9_waits_104 (q_RI h hv2_4))
theorem k_Mo_which {κ : Kx} {μ : Sg} (a1 : Int) (σ : Sg) (ha1 : inR a1) (hok : okS σ) : CtRI κ mX9_which 4 [vr 172, vi a1] true μ σ (Mo_which a1 σ) := by
  intro r h
  refine con_of (by decide) (Nat.le_of_ble_eq_true rfl) 4 ?_
  refine (?_ : Rk κ mX9_which _ 0 [some (vr 172), some (vi a1), none, none, none, none] [] (ms true μ σ) (Mo_which a1 σ) (fun a => a = r)) _ h rfl
  unfold Mo_which
  refine Rk.sp (G_iconst (pc := 0) dX9_which_0) ?_
  refine Rk.isa_n (pc := 1) 2 (L' := [some (vr 172), some (vi a1), some (vi (-1)), none, none, none]) rfl (Nat.le_of_ble_eq_true rfl) rfl dX9_which_1 rfl ?_
  refine Rk.sp (G_iconst (pc := 2) dX9_which_2) ?_
  refine Rk.isa_n (pc := 3) 3 (L' := [some (vr 172), some (vi a1), some (vi (-1)), some (vi (-1)), none, none]) rfl (Nat.le_of_ble_eq_true rfl) rfl dX9_which_3 rfl ?_
  refine Rk.sp (G_iconst (pc := 4) dX9_which_4) ?_
  refine Rk.isa_w (pc := 5) 4 (L' := [some (vr 172), some (vi a1), some (vi (-1)), some (vi (-1)), some (vi 0), none]) (Nat.le_of_ble_eq_true rfl) rfl dX9_which_5 rfl ?_
  refine Rk.loop (pc := 7) (B := (fun p => Mo_which_7_b σ a1 p.1 p.2.1 p.2.2)) (fun p => inR p.1 ∧ inR p.2.1 ∧ inR p.2.2) (fun p => [some (vr 172), some (vi a1), some (vi p.1), some (vi p.2.1), some (vi p.2.2), none]) (fun p => (ms true μ σ)) (fun p hp => ?_) ((-1), (-1), 0) ⟨(inRk (-1) rfl), (inRk (-1) rfl), (inRk 0 rfl)⟩
  obtain ⟨v2_1, v3_2, v4_3⟩ := p
  obtain ⟨hv2_1, hv3_2, hv4_3⟩ := hp
  try dsimp only
  unfold Mo_which_7_b
  refine Rk.sp (G_iload_w (pc := 7) 4 rfl dX9_which_7) ?_
  refine Rk.sp (G_aload_n (pc := 9) 0 rfl rfl dX9_which_9) ?_
  refine Rk.gR (pc := 10) 173 flX9_7 cl9 rfl lb172 dX9_which_10 ?_
  refine Rk.sp (G_iconst (pc := 13) dX9_which_13) ?_
  refine Rk.alc (pc := 14) 3 rfl (Nat.le_of_ble_eq_true rfl) lb173 dX9_which_14 ?_
  refine Rk.icmp_ge (pc := 15) (tgt := 86) dX9_which_15 (nmI hv4_3) (nmI (hok _ _)) rfl (fun hc4 => ?_) (fun hc4 => ?_)
  · refine Rk.sp (G_iload_n (pc := 18) 1 rfl rfl dX9_which_18) ?_
    refine Rk.cRZ (pc := 19) (Cl.s [vi a1] [] dX9_which_19 ckX9_91 rfl rfl (Nat.le_of_ble_eq_true rfl) (Nat.le_of_ble_eq_true rfl)) (k_Mo_isOne a1 ha1) (fun r5 hr5 => ?_)
    refine Rk.if_eq (pc := 22) (tgt := 86) dX9_which_22 (nmI (inZ.R hr5)) rfl (fun hc6 => ?_) (fun hc6 => ?_)
    · refine Rk.sp (G_iload_n (pc := 86) 2 rfl rfl dX9_which_86) ?_
      exact Rk.end_ (fun h => G_ireturn (pc := 87) rfl dX9_which_87 (q_RI h hv2_1))
    · refine Rk.sp (G_aload_n (pc := 25) 0 rfl rfl dX9_which_25) ?_
      refine Rk.sp (G_iload_w (pc := 26) 4 rfl dX9_which_26) ?_
      refine Rk.sp (G_iload_n (pc := 28) 1 rfl rfl dX9_which_28) ?_
      refine Rk.cRZ (pc := 29) (Cl.v [vi v4_3, vi a1] [] dX9_which_29 ckX9_436 lb172 rfl rfl rfl (Nat.le_of_ble_eq_true rfl) (Nat.le_of_ble_eq_true rfl)) (k_Mo_isWaiting v4_3 a1 σ hv4_3 ha1 hok) (fun r7 hr7 => ?_)
      refine Rk.join (P := fun p => inR p) (pcj := 57) (fun p => [some (vr 172), some (vi a1), some (vi v2_1), some (vi v3_2), some (vi v4_3), none]) (fun p => [vi p]) (fun p => (ms true μ σ)) ?_ (fun p hp => ?_)
      · refine Rk.if_eq (pc := 32) (tgt := 56) dX9_which_32 (nmI (inZ.R hr7)) rfl (fun hc8 => ?_) (fun hc8 => ?_)
        · refine Rk.sp (G_iconst (pc := 56) dX9_which_56) ?_
          exact Rk.end_ (fun h => h (inRk (-1) rfl))
        · refine Rk.sp (G_aload_n (pc := 35) 0 rfl rfl dX9_which_35) ?_
          refine Rk.sp (G_iload_w (pc := 36) 4 rfl dX9_which_36) ?_
          refine Rk.sp (G_iconst (pc := 38) dX9_which_38) ?_
          refine Rk.cRI (pc := 39) (Cl.v [vi v4_3, vi 3] [] dX9_which_39 ckX9_76 lb172 rfl rfl rfl (Nat.le_of_ble_eq_true rfl) (Nat.le_of_ble_eq_true rfl)) (k_Mo_of0 v4_3 3 σ hv4_3 (inRk 3 rfl) hok) (fun r10 hr10 => ?_)
          refine Rk.sp (G_bipush (pc := 42) dX9_which_42 rfl) ?_
          refine Rk.sp (G_aload_n (pc := 44) 0 rfl rfl dX9_which_44) ?_
          refine Rk.sp (G_iload_w (pc := 45) 4 rfl dX9_which_45) ?_
          refine Rk.sp (G_iconst (pc := 47) dX9_which_47) ?_
          refine Rk.cRI (pc := 48) (Cl.v [vi v4_3, vi 4] [vi 10, vi r10] dX9_which_48 ckX9_76 lb172 rfl rfl rfl (Nat.le_of_ble_eq_true rfl) (Nat.le_of_ble_eq_true rfl)) (k_Mo_of0 v4_3 4 σ hv4_3 (inRk 4 rfl) hok) (fun r11 hr11 => ?_)
          refine Rk.sp (G_imul (pc := 51) dX9_which_51) ?_
          refine Rk.sp (G_iadd (pc := 52) dX9_which_52) ?_
          refine Rk.sp (G_goto (pc := 53) (tgt := 57) dX9_which_53 rfl) ?_
          refine Rk.sp (Go.n0 (nmW _)) ?_
          exact Rk.end_ (fun h => h (wrR _))
      · revert hp; revert p; intro t9 ht9
        try dsimp only
        refine Rk.isa_w (pc := 57) 5 (L' := [some (vr 172), some (vi a1), some (vi v2_1), some (vi v3_2), some (vi v4_3), some (vi t9)]) (Nat.le_of_ble_eq_true rfl) rfl dX9_which_57 rfl ?_
        refine Rk.sp (G_iload_w (pc := 59) 5 rfl dX9_which_59) ?_
        refine Rk.sp (G_iload_n (pc := 61) 3 rfl rfl dX9_which_61) ?_
        refine Rk.icmp_lt (pc := 62) (tgt := 80) dX9_which_62 (nmI ht9) (nmI hv3_2) rfl (fun hc12 => ?_) (fun hc12 => ?_)
        · refine Rk.inc (pc := 80) 4 (fun v4_13 => [some (vr 172), some (vi a1), some (vi v2_1), some (vi v3_2), some (vi v4_13), some (vi t9)]) rfl (Nat.le_of_ble_eq_true rfl) rfl dX9_which_80 (fun _ => rfl) (fun v4_13 hv4_13 => ?_)
          refine Rk.sp (G_goto (pc := 83) (tgt := 7) dX9_which_83 rfl) ?_
          refine Rk.fg [true, true, true, true, true, false] (L' := [some (vr 172), some (vi a1), some (vi v2_1), some (vi v3_2), some (vi v4_13), none]) rfl ?_
          exact Rk.end_ (fun h => h ⟨hv2_1, hv3_2, hv4_13⟩)
        · refine Rk.sp (G_iload_w (pc := 65) 5 rfl dX9_which_65) ?_
          refine Rk.sp (G_iconst (pc := 67) dX9_which_67) ?_
          refine Rk.icmp_ne (pc := 68) (tgt := 74) dX9_which_68 (nmI ht9) (nmI (inRk (-1) rfl)) rfl (fun hc14 => ?_) (fun hc14 => ?_)
          · refine Rk.sp (G_goto (pc := 71) (tgt := 80) dX9_which_71 rfl) ?_
            refine Rk.inc (pc := 80) 4 (fun v4_15 => [some (vr 172), some (vi a1), some (vi v2_1), some (vi v3_2), some (vi v4_15), some (vi t9)]) rfl (Nat.le_of_ble_eq_true rfl) rfl dX9_which_80 (fun _ => rfl) (fun v4_15 hv4_15 => ?_)
            refine Rk.sp (G_goto (pc := 83) (tgt := 7) dX9_which_83 rfl) ?_
            refine Rk.fg [true, true, true, true, true, false] (L' := [some (vr 172), some (vi a1), some (vi v2_1), some (vi v3_2), some (vi v4_15), none]) rfl ?_
            exact Rk.end_ (fun h => h ⟨hv2_1, hv3_2, hv4_15⟩)
          · refine Rk.sp (G_iload_w (pc := 74) 5 rfl dX9_which_74) ?_
            refine Rk.isa_n (pc := 76) 3 (L' := [some (vr 172), some (vi a1), some (vi v2_1), some (vi t9), some (vi v4_3), some (vi t9)]) rfl (Nat.le_of_ble_eq_true rfl) rfl dX9_which_76 rfl ?_
            refine Rk.sp (G_iload_w (pc := 77) 4 rfl dX9_which_77) ?_
            refine Rk.isa_n (pc := 79) 2 (L' := [some (vr 172), some (vi a1), some (vi v4_3), some (vi t9), some (vi v4_3), some (vi t9)]) rfl (Nat.le_of_ble_eq_true rfl) rfl dX9_which_79 rfl ?_
            refine Rk.inc (pc := 80) 4 (fun v4_16 => [some (vr 172), some (vi a1), some (vi v4_3), some (vi t9), some (vi v4_16), some (vi t9)]) rfl (Nat.le_of_ble_eq_true rfl) rfl dX9_which_80 (fun _ => rfl) (fun v4_16 hv4_16 => ?_)
            refine Rk.sp (G_goto (pc := 83) (tgt := 7) dX9_which_83 rfl) ?_
            refine Rk.fg [true, true, true, true, true, false] (L' := [some (vr 172), some (vi a1), some (vi v4_3), some (vi t9), some (vi v4_16), none]) rfl ?_
            exact Rk.end_ (fun h => h ⟨hv4_3, ht9, hv4_16⟩)
  · refine Rk.sp (G_iload_n (pc := 86) 2 rfl rfl dX9_which_86) ?_
    exact Rk.end_ (fun h => G_ireturn (pc := 87) rfl dX9_which_87 (q_RI h hv2_1))
