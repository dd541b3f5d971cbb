theorem k_Mo_awake {κ : Kx} {μ : Sg} (a1 : Int) (a2 : Int) (σ : Sg) (ha1 : inR a1) (ha2 : inR a2) (hok : okS σ) : CtRI κ mX9_awake 2 [vr 172, vi a1, vi a2] true μ σ (Mo_awake a1 a2 σ) := by
  intro r h
  refine con_of (by decide) (Nat.le_of_ble_eq_true rfl) 7 ?_
  refine (?_ : Rk κ mX9_awake _ 0 [some (vr 172), some (vi a1), some (vi a2), none, none, none, none, none, none, none] [] (ms true μ σ) (Mo_awake a1 a2 σ) (fun a => a = r)) _ h rfl
  unfold Mo_awake
  refine Rk.sp (G_iload_n (pc := 0) 1 rfl rfl dX9_awake_0) ?_
  refine Rk.sp (G_iconst (pc := 1) dX9_awake_1) ?_
  refine Rk.sp (G_bipush (pc := 2) dX9_awake_2 rfl) ?_
  refine Rk.cRZ (pc := 4) (Cl.s [vi a1, vi 1, vi 48] [] dX9_awake_4 ckX9_72 rfl rfl (Nat.le_of_ble_eq_true rfl) (Nat.le_of_ble_eq_true rfl)) (k_Mo_isIn a1 1 48 ha1 (inRk 1 rfl) (inRk 48 rfl)) (fun r1 hr1 => ?_)
  refine Rk.if_eq (pc := 7) (tgt := 19) dX9_awake_7 (nmI (inZ.R hr1)) rfl (fun hc2 => ?_) (fun hc2 => ?_)
  · refine Rk.sp (G_iconst (pc := 19) dX9_awake_19) ?_
    exact Rk.end_ (fun h => G_ireturn (pc := 20) rfl dX9_awake_20 (q_RI h (inRk (-1) rfl)))
  · refine Rk.sp (G_iload_n (pc := 10) 2 rfl rfl dX9_awake_10) ?_
    refine Rk.sp (G_iconst (pc := 11) dX9_awake_11) ?_
    refine Rk.sp (G_iconst (pc := 12) dX9_awake_12) ?_
    refine Rk.cRZ (pc := 13) (Cl.s [vi a2, vi 0, vi 2] [] dX9_awake_13 ckX9_72 rfl rfl (Nat.le_of_ble_eq_true rfl) (Nat.le_of_ble_eq_true rfl)) (k_Mo_isIn a2 0 2 ha2 (inRk 0 rfl) (inRk 2 rfl)) (fun r3 hr3 => ?_)
    refine Rk.if_ne (pc := 16) (tgt := 21) dX9_awake_16 (nmI (inZ.R hr3)) rfl (fun hc4 => ?_) (fun hc4 => ?_)
    · refine Rk.sp (G_iconst (pc := 19) dX9_awake_19) ?_
      exact Rk.end_ (fun h => G_ireturn (pc := 20) rfl dX9_awake_20 (q_RI h (inRk (-1) rfl)))
    · refine Rk.sp (G_iconst (pc := 21) dX9_awake_21) ?_
      refine Rk.isa_n (pc := 22) 3 (L' := [some (vr 172), some (vi a1), some (vi a2), some (vi 0), none, none, none, none, none, none]) rfl (Nat.le_of_ble_eq_true rfl) rfl dX9_awake_22 rfl ?_
      refine Rk.sp (G_iconst (pc := 23) dX9_awake_23) ?_
      refine Rk.isa_w (pc := 24) 4 (L' := [some (vr 172), some (vi a1), some (vi a2), some (vi 0), some (vi (-1)), none, none, none, none, none]) (Nat.le_of_ble_eq_true rfl) rfl dX9_awake_24 rfl ?_
      refine Rk.sp (G_iconst (pc := 26) dX9_awake_26) ?_
      refine Rk.isa_w (pc := 27) 5 (L' := [some (vr 172), some (vi a1), some (vi a2), some (vi 0), some (vi (-1)), some (vi 0), none, none, none, none]) (Nat.le_of_ble_eq_true rfl) rfl dX9_awake_27 rfl ?_
      refine Rk.sp (G_iconst (pc := 29) dX9_awake_29) ?_
      refine Rk.isa_w (pc := 30) 6 (L' := [some (vr 172), some (vi a1), some (vi a2), some (vi 0), some (vi (-1)), some (vi 0), some (vi 0), none, none, none]) (Nat.le_of_ble_eq_true rfl) rfl dX9_awake_30 rfl ?_
      refine Rk.sp (G_iconst (pc := 32) dX9_awake_32) ?_
      refine Rk.isa_w (pc := 33) 7 (L' := [some (vr 172), some (vi a1), some (vi a2), some (vi 0), some (vi (-1)), some (vi 0), some (vi 0), some (vi 0), none, none]) (Nat.le_of_ble_eq_true rfl) rfl dX9_awake_33 rfl ?_
      refine Rk.loop (pc := 35) (B := (fun p => Mo_awake_35_b a1 σ a2 p.1 p.2.1 p.2.2.1 p.2.2.2.1 p.2.2.2.2)) (fun p => inR p.1 ∧ inR p.2.1 ∧ inR p.2.2.1 ∧ inR p.2.2.2.1 ∧ inR p.2.2.2.2) (fun p => [some (vr 172), some (vi a1), some (vi a2), some (vi p.1), some (vi p.2.1), some (vi p.2.2.1), some (vi p.2.2.2.1), some (vi p.2.2.2.2), none, none]) (fun p => (ms true μ σ)) (fun p hp => ?_) (0, (-1), 0, 0, 0) ⟨(inRk 0 rfl), (inRk (-1) rfl), (inRk 0 rfl), (inRk 0 rfl), (inRk 0 rfl)⟩
      obtain ⟨v3_5, v4_6, v5_7, v6_8, v7_9⟩ := p
      obtain ⟨hv3_5, hv4_6, hv5_7, hv6_8, hv7_9⟩ := hp
      try dsimp only
      unfold Mo_awake_35_b
      refine Rk.sp (G_iload_w (pc := 35) 7 rfl dX9_awake_35) ?_
      refine Rk.sp (G_iload_n (pc := 37) 1 rfl rfl dX9_awake_37) ?_
      refine Rk.icmp_ge (pc := 38) (tgt := 143) dX9_awake_38 (nmI hv7_9) (nmI ha1) rfl (fun hc10 => ?_) (fun hc10 => ?_)
      · refine Rk.sp (G_aload_n (pc := 41) 0 rfl rfl dX9_awake_41) ?_
        refine Rk.cRI (pc := 42) (Cl.v [] [] dX9_awake_42 ckX9_317 lb172 rfl rfl rfl (Nat.le_of_ble_eq_true rfl) (Nat.le_of_ble_eq_true rfl)) (k_Mo_hourNow σ hok) (fun r11 hr11 => ?_)
        refine Rk.sp (G_iload_w (pc := 45) 7 rfl dX9_awake_45) ?_
        refine Rk.sp (G_iadd (pc := 47) dX9_awake_47) ?_
        refine Rk.sp (G_bipush (pc := 48) dX9_awake_48 rfl) ?_
        refine Rk.sp (G_irem (pc := 50) dX9_awake_50 (nmW _) (nmI (inRk 24 rfl)) (by decide)) ?_
        refine Rk.ist_w (pc := 51) 8 (fun v8_12 => [some (vr 172), some (vi a1), some (vi a2), some (vi v3_5), some (vi v4_6), some (vi v5_7), some (vi v6_8), some (vi v7_9), some (vi v8_12), none]) (Nat.le_of_ble_eq_true rfl) rfl dX9_awake_51 (nmI (tmodR (wrR _))) (fun _ => rfl) (fun v8_12 hv8_12 => ?_)
        refine Rk.sp (G_aload_n (pc := 53) 0 rfl rfl dX9_awake_53) ?_
        refine Rk.sp (G_iconst (pc := 54) dX9_awake_54) ?_
        refine Rk.sp (G_iload_w (pc := 55) 8 rfl dX9_awake_55) ?_
        refine Rk.cRZ (pc := 57) (Cl.v [vi 0, vi v8_12] [] dX9_awake_57 ckX9_391 lb172 rfl rfl rfl (Nat.le_of_ble_eq_true rfl) (Nat.le_of_ble_eq_true rfl)) (k_Mo_canRead 0 v8_12 σ (inRk 0 rfl) hv8_12 hok) (fun r13 hr13 => ?_)
        refine Rk.join (P := fun p => inR p) (pcj := 78) (fun p => [some (vr 172), some (vi a1), some (vi a2), some (vi v3_5), some (vi v4_6), some (vi v5_7), some (vi v6_8), some (vi v7_9), none, none]) (fun p => [vi p]) (fun p => (ms true μ σ)) ?_ (fun p hp => ?_)
        · refine Rk.if_eq (pc := 60) (tgt := 77) dX9_awake_60 (nmI (inZ.R hr13)) rfl (fun hc14 => ?_) (fun hc14 => ?_)
          · refine Rk.sp (G_iconst (pc := 77) dX9_awake_77) ?_
            refine Rk.fg [true, true, true, true, true, true, true, true, false, false] (L' := [some (vr 172), some (vi a1), some (vi a2), some (vi v3_5), some (vi v4_6), some (vi v5_7), some (vi v6_8), some (vi v7_9), none, none]) rfl ?_
            exact Rk.end_ (fun h => h (inRk 0 rfl))
          · refine Rk.sp (G_aload_n (pc := 63) 0 rfl rfl dX9_awake_63) ?_
            refine Rk.sp (G_iconst (pc := 64) dX9_awake_64) ?_
            refine Rk.sp (G_iload_w (pc := 65) 8 rfl dX9_awake_65) ?_
            refine Rk.cRZ (pc := 67) (Cl.v [vi 1, vi v8_12] [] dX9_awake_67 ckX9_391 lb172 rfl rfl rfl (Nat.le_of_ble_eq_true rfl) (Nat.le_of_ble_eq_true rfl)) (k_Mo_canRead 1 v8_12 σ (inRk 1 rfl) hv8_12 hok) (fun r16 hr16 => ?_)
            refine Rk.if_eq (pc := 70) (tgt := 77) dX9_awake_70 (nmI (inZ.R hr16)) rfl (fun hc17 => ?_) (fun hc17 => ?_)
            · refine Rk.sp (G_iconst (pc := 77) dX9_awake_77) ?_
              refine Rk.fg [true, true, true, true, true, true, true, true, false, false] (L' := [some (vr 172), some (vi a1), some (vi a2), some (vi v3_5), some (vi v4_6), some (vi v5_7), some (vi v6_8), some (vi v7_9), none, none]) rfl ?_
              exact Rk.end_ (fun h => h (inRk 0 rfl))
            · refine Rk.sp (G_iconst (pc := 73) dX9_awake_73) ?_
              refine Rk.sp (G_goto (pc := 74) (tgt := 78) dX9_awake_74 rfl) ?_
              refine Rk.fg [true, true, true, true, true, true, true, true, false, false] (L' := [some (vr 172), some (vi a1), some (vi a2), some (vi v3_5), some (vi v4_6), some (vi v5_7), some (vi v6_8), some (vi v7_9), none, none]) rfl ?_
              exact Rk.end_ (fun h => h (inRk 1 rfl))
        · revert hp; revert p; intro t15 ht15
          try dsimp only
          refine Rk.isa_w (pc := 78) 9 (L' := [some (vr 172), some (vi a1), some (vi a2), some (vi v3_5), some (vi v4_6), some (vi v5_7), some (vi v6_8), some (vi v7_9), none, some (vi t15)]) (Nat.le_of_ble_eq_true rfl) rfl dX9_awake_78 rfl ?_
          refine Rk.sp (G_iload_w (pc := 80) 9 rfl dX9_awake_80) ?_
          refine Rk.join (P := fun p => inR p) (pcj := 93) (fun p => [some (vr 172), some (vi a1), some (vi a2), some (vi v3_5), some (vi v4_6), none, some (vi v6_8), some (vi v7_9), none, some (vi t15)]) (fun p => [vi p]) (fun p => (ms true μ σ)) ?_ (fun p hp => ?_)
          · refine Rk.if_eq (pc := 82) (tgt := 92) dX9_awake_82 (nmI ht15) rfl (fun hc18 => ?_) (fun hc18 => ?_)
            · refine Rk.sp (G_iconst (pc := 92) dX9_awake_92) ?_
              refine Rk.fg [true, true, true, true, true, false, true, true, false, true] (L' := [some (vr 172), some (vi a1), some (vi a2), some (vi v3_5), some (vi v4_6), none, some (vi v6_8), some (vi v7_9), none, some (vi t15)]) rfl ?_
              exact Rk.end_ (fun h => h (inRk 0 rfl))
            · refine Rk.sp (G_iload_w (pc := 85) 5 rfl dX9_awake_85) ?_
              refine Rk.sp (G_iconst (pc := 87) dX9_awake_87) ?_
              refine Rk.sp (G_iadd (pc := 88) dX9_awake_88) ?_
              refine Rk.sp (G_goto (pc := 89) (tgt := 93) dX9_awake_89 rfl) ?_
              refine Rk.sp (Go.n0 (nmW _)) ?_
              refine Rk.fg [true, true, true, true, true, false, true, true, false, true] (L' := [some (vr 172), some (vi a1), some (vi a2), some (vi v3_5), some (vi v4_6), none, some (vi v6_8), some (vi v7_9), none, some (vi t15)]) rfl ?_
              exact Rk.end_ (fun h => h (wrR _))
          · revert hp; revert p; intro t19 ht19
            try dsimp only
            refine Rk.isa_w (pc := 93) 5 (L' := [some (vr 172), some (vi a1), some (vi a2), some (vi v3_5), some (vi v4_6), some (vi t19), some (vi v6_8), some (vi v7_9), none, some (vi t15)]) (Nat.le_of_ble_eq_true rfl) rfl dX9_awake_93 rfl ?_
            refine Rk.sp (G_iload_w (pc := 95) 6 rfl dX9_awake_95) ?_
            refine Rk.sp (G_iload_w (pc := 97) 5 rfl dX9_awake_97) ?_
            refine Rk.cRI (pc := 99) (Cl.s [vi v6_8, vi t19] [] dX9_awake_99 ckX9_69 rfl rfl (Nat.le_of_ble_eq_true rfl) (Nat.le_of_ble_eq_true rfl)) (k_Mo_greater v6_8 t19 hv6_8 ht19) (fun r20 hr20 => ?_)
            refine Rk.isa_w (pc := 102) 6 (L' := [some (vr 172), some (vi a1), some (vi a2), some (vi v3_5), some (vi v4_6), some (vi t19), some (vi r20), some (vi v7_9), none, some (vi t15)]) (Nat.le_of_ble_eq_true rfl) rfl dX9_awake_102 rfl ?_
            refine Rk.sp (G_iload_w (pc := 104) 9 rfl dX9_awake_104) ?_
            refine Rk.join (P := fun p => inR p) (pcj := 122) (fun p => [some (vr 172), some (vi a1), some (vi a2), some (vi v3_5), none, some (vi t19), some (vi r20), some (vi v7_9), none, some (vi t15)]) (fun p => [vi p]) (fun p => (ms true μ σ)) ?_ (fun p hp => ?_)
            · refine Rk.if_eq (pc := 106) (tgt := 120) dX9_awake_106 (nmI ht15) rfl (fun hc21 => ?_) (fun hc21 => ?_)
              · refine Rk.sp (G_iload_w (pc := 120) 4 rfl dX9_awake_120) ?_
                refine Rk.fg [true, true, true, true, false, true, true, true, false, true] (L' := [some (vr 172), some (vi a1), some (vi a2), some (vi v3_5), none, some (vi t19), some (vi r20), some (vi v7_9), none, some (vi t15)]) rfl ?_
                exact Rk.end_ (fun h => h hv4_6)
              · refine Rk.sp (G_iload_w (pc := 109) 4 rfl dX9_awake_109) ?_
                refine Rk.sp (G_iconst (pc := 111) dX9_awake_111) ?_
                refine Rk.icmp_ne (pc := 112) (tgt := 120) dX9_awake_112 (nmI hv4_6) (nmI (inRk (-1) rfl)) rfl (fun hc23 => ?_) (fun hc23 => ?_)
                · refine Rk.sp (G_iload_w (pc := 115) 7 rfl dX9_awake_115) ?_
                  refine Rk.sp (G_goto (pc := 117) (tgt := 122) dX9_awake_117 rfl) ?_
                  refine Rk.fg [true, true, true, true, false, true, true, true, false, true] (L' := [some (vr 172), some (vi a1), some (vi a2), some (vi v3_5), none, some (vi t19), some (vi r20), some (vi v7_9), none, some (vi t15)]) rfl ?_
                  exact Rk.end_ (fun h => h hv7_9)
                · refine Rk.sp (G_iload_w (pc := 120) 4 rfl dX9_awake_120) ?_
                  refine Rk.fg [true, true, true, true, false, true, true, true, false, true] (L' := [some (vr 172), some (vi a1), some (vi a2), some (vi v3_5), none, some (vi t19), some (vi r20), some (vi v7_9), none, some (vi t15)]) rfl ?_
                  exact Rk.end_ (fun h => h hv4_6)
            · revert hp; revert p; intro t22 ht22
              try dsimp only
              refine Rk.isa_w (pc := 122) 4 (L' := [some (vr 172), some (vi a1), some (vi a2), some (vi v3_5), some (vi t22), some (vi t19), some (vi r20), some (vi v7_9), none, some (vi t15)]) (Nat.le_of_ble_eq_true rfl) rfl dX9_awake_122 rfl ?_
              refine Rk.sp (G_iload_n (pc := 124) 3 rfl rfl dX9_awake_124) ?_
              refine Rk.sp (G_iload_w (pc := 125) 9 rfl dX9_awake_125) ?_
              refine Rk.if_eq (pc := 127) (tgt := 134) dX9_awake_127 (nmI ht15) rfl (fun hc24 => ?_) (fun hc24 => ?_)
              · refine Rk.sp (G_iconst (pc := 134) dX9_awake_134) ?_
                refine Rk.sp (G_iadd (pc := 135) dX9_awake_135) ?_
                refine Rk.ist_n (pc := 136) 3 (fun v3_25 => [some (vr 172), some (vi a1), some (vi a2), some (vi v3_25), some (vi t22), some (vi t19), some (vi r20), some (vi v7_9), none, some (vi t15)]) rfl (Nat.le_of_ble_eq_true rfl) rfl dX9_awake_136 (nmW _) (fun _ => rfl) (fun v3_25 hv3_25 => ?_)
                refine Rk.inc (pc := 137) 7 (fun v7_26 => [some (vr 172), some (vi a1), some (vi a2), some (vi v3_25), some (vi t22), some (vi t19), some (vi r20), some (vi v7_26), none, some (vi t15)]) rfl (Nat.le_of_ble_eq_true rfl) rfl dX9_awake_137 (fun _ => rfl) (fun v7_26 hv7_26 => ?_)
                refine Rk.sp (G_goto (pc := 140) (tgt := 35) dX9_awake_140 rfl) ?_
                refine Rk.fg [true, true, true, true, true, true, true, true, false, false] (L' := [some (vr 172), some (vi a1), some (vi a2), some (vi v3_25), some (vi t22), some (vi t19), some (vi r20), some (vi v7_26), none, none]) rfl ?_
                exact Rk.end_ (fun h => h ⟨hv3_25, ht22, ht19, hr20, hv7_26⟩)
              · refine Rk.sp (G_iconst (pc := 130) dX9_awake_130) ?_
                refine Rk.sp (G_goto (pc := 131) (tgt := 135) dX9_awake_131 rfl) ?_
                refine Rk.sp (G_iadd (pc := 135) dX9_awake_135) ?_
                refine Rk.ist_n (pc := 136) 3 (fun v3_27 => [some (vr 172), some (vi a1), some (vi a2), some (vi v3_27), some (vi t22), some (vi t19), some (vi r20), some (vi v7_9), none, some (vi t15)]) rfl (Nat.le_of_ble_eq_true rfl) rfl dX9_awake_136 (nmW _) (fun _ => rfl) (fun v3_27 hv3_27 => ?_)
                refine Rk.inc (pc := 137) 7 (fun v7_28 => [some (vr 172), some (vi a1), some (vi a2), some (vi v3_27), some (vi t22), some (vi t19), some (vi r20), some (vi v7_28), none, some (vi t15)]) rfl (Nat.le_of_ble_eq_true rfl) rfl dX9_awake_137 (fun _ => rfl) (fun v7_28 hv7_28 => ?_)
                refine Rk.sp (G_goto (pc := 140) (tgt := 35) dX9_awake_140 rfl) ?_
                refine Rk.fg [true, true, true, true, true, true, true, true, false, false] (L' := [some (vr 172), some (vi a1), some (vi a2), some (vi v3_27), some (vi t22), some (vi t19), some (vi r20), some (vi v7_28), none, none]) rfl ?_
                exact Rk.end_ (fun h => h ⟨hv3_27, ht22, ht19, hr20, hv7_28⟩)
      · refine Rk.sp (G_iload_n (pc := 143) 2 rfl rfl dX9_awake_143) ?_
        refine Rk.if_ne (pc := 144) (tgt := 151) dX9_awake_144 (nmI ha2) rfl (fun hc29 => ?_) (fun hc29 => ?_)
        · refine Rk.sp (G_iload_n (pc := 147) 3 rfl rfl dX9_awake_147) ?_
          refine Rk.sp (G_goto (pc := 148) (tgt := 163) dX9_awake_148 rfl) ?_
          exact Rk.end_ (fun h => G_ireturn (pc := 163) rfl dX9_awake_163 (q_RI h hv3_5))
        · refine Rk.sp (G_iload_n (pc := 151) 2 rfl rfl dX9_awake_151) ?_
          refine Rk.sp (G_iconst (pc := 152) dX9_awake_152) ?_
          refine Rk.icmp_ne (pc := 153) (tgt := 161) dX9_awake_153 (nmI ha2) (nmI (inRk 1 rfl)) rfl (fun hc30 => ?_) (fun hc30 => ?_)
          · refine Rk.sp (G_iload_w (pc := 156) 4 rfl dX9_awake_156) ?_
            refine Rk.sp (G_goto (pc := 158) (tgt := 163) dX9_awake_158 rfl) ?_
            exact Rk.end_ (fun h => G_ireturn (pc := 163) rfl dX9_awake_163 (q_RI h hv4_6))
          · refine Rk.sp (G_iload_w (pc := 161) 6 rfl dX9_awake_161) ?_
            exact Rk.end_ (fun h => G_ireturn (pc := 163) rfl dX9_awake_163 (q_RI h hv6_8))
theorem k_Mo_book {κ : Kx} {μ : Sg} (a1 : Int) (a2 : Int) (σ : Sg) (ha1 : inR a1) (ha2 : inR a2) (hok : okS σ) : CtRI κ mX9_book 1 [vr 172, vi a1, vi a2] true μ σ (Mo_book a1 a2 σ) := by
  intro r h
  refine con_of (by decide) (Nat.le_of_ble_eq_true rfl) 0 ?_
  refine (?_ : Rk κ mX9_book _ 0 [some (vr 172), some (vi a1), some (vi a2)] [] (ms true μ σ) (Mo_book a1 a2 σ) (fun a => a = r)) _ h rfl
  unfold Mo_book
  refine Rk.sp (G_iload_n (pc := 0) 1 rfl rfl dX9_book_0) ?_
  refine Rk.sp (G_iconst (pc := 1) dX9_book_1) ?_
  refine Rk.sp (G_aload_n (pc := 2) 0 rfl rfl dX9_book_2) ?_
  refine Rk.gR (pc := 3) 173 flX9_7 cl9 rfl lb172 dX9_book_3 ?_
  refine Rk.sp (G_iconst (pc := 6) dX9_book_6) ?_
  refine Rk.alc (pc := 7) 2 rfl (Nat.le_of_ble_eq_true rfl) lb173 dX9_book_7 ?_
  refine Rk.sp (G_iconst (pc := 8) dX9_book_8) ?_
  refine Rk.sp (G_isub (pc := 9) dX9_book_9) ?_
  refine Rk.sp (Go.n0 (nmW _)) ?_
  refine Rk.cRZ (pc := 10) (Cl.s [vi a1, vi 0, vi (wr ((σ 173 2) - 1))] [] dX9_book_10 ckX9_72 rfl rfl (Nat.le_of_ble_eq_true rfl) (Nat.le_of_ble_eq_true rfl)) (k_Mo_isIn a1 0 (wr ((σ 173 2) - 1)) ha1 (inRk 0 rfl) (wrR _)) (fun r1 hr1 => ?_)
  refine Rk.if_eq (pc := 13) (tgt := 42) dX9_book_13 (nmI (inZ.R hr1)) rfl (fun hc2 => ?_) (fun hc2 => ?_)
  · refine Rk.sp (G_bipush (pc := 42) dX9_book_42 rfl) ?_
    exact Rk.end_ (fun h => G_ireturn (pc := 44) rfl dX9_book_44 (q_RI h (inRk (-2) rfl)))
  · refine Rk.sp (G_iload_n (pc := 16) 2 rfl rfl dX9_book_16) ?_
    refine Rk.sp (G_iconst (pc := 17) dX9_book_17) ?_
    refine Rk.sp (G_iconst (pc := 18) dX9_book_18) ?_
    refine Rk.cRZ (pc := 19) (Cl.s [vi a2, vi 0, vi 3] [] dX9_book_19 ckX9_72 rfl rfl (Nat.le_of_ble_eq_true rfl) (Nat.le_of_ble_eq_true rfl)) (k_Mo_isIn a2 0 3 ha2 (inRk 0 rfl) (inRk 3 rfl)) (fun r3 hr3 => ?_)
    refine Rk.if_eq (pc := 22) (tgt := 42) dX9_book_22 (nmI (inZ.R hr3)) rfl (fun hc4 => ?_) (fun hc4 => ?_)
    · refine Rk.sp (G_bipush (pc := 42) dX9_book_42 rfl) ?_
      exact Rk.end_ (fun h => G_ireturn (pc := 44) rfl dX9_book_44 (q_RI h (inRk (-2) rfl)))
    · refine Rk.sp (G_aload_n (pc := 25) 0 rfl rfl dX9_book_25) ?_
      refine Rk.gR (pc := 26) 173 flX9_7 cl9 rfl lb172 dX9_book_26 ?_
      refine Rk.sp (G_sipush (pc := 29) dX9_book_29 rfl) ?_
      refine Rk.sp (G_iconst (pc := 32) dX9_book_32) ?_
      refine Rk.sp (G_iload_n (pc := 33) 1 rfl rfl dX9_book_33) ?_
      refine Rk.sp (G_imul (pc := 34) dX9_book_34) ?_
      refine Rk.sp (G_iadd (pc := 35) dX9_book_35) ?_
      refine Rk.sp (G_iload_n (pc := 36) 2 rfl rfl dX9_book_36) ?_
      refine Rk.sp (G_iadd (pc := 37) dX9_book_37) ?_
      refine Rk.al (pc := 38) lb173 dX9_book_38 (fun hi5 => ?_)
      refine Rk.sp (G_goto (pc := 39) (tgt := 44) dX9_book_39 rfl) ?_
      exact Rk.end_ (fun h => G_ireturn (pc := 44) rfl dX9_book_44 (q_RI h (hok _ _)))
theorem k_Mo_bySign {κ : Kx} {μ : Sg} (a1 : Int) (a2 : Int) (a3 : Int) (σ : Sg) (ha1 : inJ a1) (ha2 : inR a2) (ha3 : inR a3) (hok : okS σ) : CtRJ κ mX9_bySign 0 [vr 172, vl a1, vi a2, vi a3] true μ σ (Mo_bySign a1 a2 a3 σ) := by
  intro r h
  refine con_of (by decide) (Nat.le_of_ble_eq_true rfl) 4 ?_
  refine (?_ : Rk κ mX9_bySign _ 0 [some (vr 172), some (vl a1), none, some (vi a2), some (vi a3), none, none, none, none] [] (ms true μ σ) (Mo_bySign a1 a2 a3 σ) (fun a => a = r)) _ h rfl
  unfold Mo_bySign
  refine Rk.sp (G_iload_w (pc := 0) 4 rfl dX9_bySign_0) ?_
  refine Rk.join (P := fun p => inJ p) (pcj := 38) (fun p => [some (vr 172), some (vl a1), none, some (vi a2), some (vi a3), none, none, none, none]) (fun p => [vl p]) (fun p => (ms true μ σ)) ?_ (fun p hp => ?_)
  · refine Rk.if_eq (pc := 2) (tgt := 21) dX9_bySign_2 (nmI ha3) rfl (fun hc1 => ?_) (fun hc1 => ?_)
    · refine Rk.sp (G_sipush (pc := 21) dX9_bySign_21 rfl) ?_
      refine Rk.sp (G_aload_n (pc := 24) 0 rfl rfl dX9_bySign_24) ?_
      refine Rk.gR (pc := 25) 173 flX9_7 cl9 rfl lb172 dX9_bySign_25 ?_
      refine Rk.sp (G_sipush (pc := 28) dX9_bySign_28 rfl) ?_
      refine Rk.sp (G_iconst (pc := 31) dX9_bySign_31) ?_
      refine Rk.sp (G_iload_n (pc := 32) 3 rfl rfl dX9_bySign_32) ?_
      refine Rk.sp (G_imul (pc := 33) dX9_bySign_33) ?_
      refine Rk.sp (G_iadd (pc := 34) dX9_bySign_34) ?_
      refine Rk.al (pc := 35) lb173 dX9_bySign_35 (fun hi3 => ?_)
      refine Rk.sp (G_isub (pc := 36) dX9_bySign_36) ?_
      refine Rk.sp (G_i2l (pc := 37) dX9_bySign_37 (nmW _)) ?_
      exact Rk.end_ (fun h => h (inR.J (wrR _)))
    · refine Rk.sp (G_aload_n (pc := 5) 0 rfl rfl dX9_bySign_5) ?_
      refine Rk.gR (pc := 6) 173 flX9_7 cl9 rfl lb172 dX9_bySign_6 ?_
      refine Rk.sp (G_sipush (pc := 9) dX9_bySign_9 rfl) ?_
      refine Rk.sp (G_iconst (pc := 12) dX9_bySign_12) ?_
      refine Rk.sp (G_iload_n (pc := 13) 3 rfl rfl dX9_bySign_13) ?_
      refine Rk.sp (G_imul (pc := 14) dX9_bySign_14) ?_
      refine Rk.sp (G_iadd (pc := 15) dX9_bySign_15) ?_
      refine Rk.al (pc := 16) lb173 dX9_bySign_16 (fun hi4 => ?_)
      refine Rk.sp (G_i2l (pc := 17) dX9_bySign_17 (nmI (hok _ _))) ?_
      refine Rk.sp (G_goto (pc := 18) (tgt := 38) dX9_bySign_18 rfl) ?_
      exact Rk.end_ (fun h => h (inR.J (hok _ _)))
  · revert hp; revert p; intro t2 ht2
    try dsimp only
    refine Rk.lst_w (pc := 38) 5 (fun v5_5 => [some (vr 172), some (vl a1), none, some (vi a2), some (vi a3), some (vl v5_5), none, none, none]) (Nat.le_of_ble_eq_true rfl) rfl dX9_bySign_38 (nmjI ht2) (fun _ => rfl) (fun v5_5 hv5_5 => ?_)
    refine Rk.sp (G_iload_w (pc := 40) 4 rfl dX9_bySign_40) ?_
    refine Rk.join (P := fun p => inJ p) (pcj := 82) (fun p => [none, some (vl a1), none, none, none, some (vl v5_5), none, none, none]) (fun p => [vl p]) (fun p => (ms true μ σ)) ?_ (fun p hp => ?_)
    · refine Rk.if_eq (pc := 42) (tgt := 63) dX9_bySign_42 (nmI ha3) rfl (fun hc6 => ?_) (fun hc6 => ?_)
      · refine Rk.sp (G_sipush (pc := 63) dX9_bySign_63 rfl) ?_
        refine Rk.sp (G_aload_n (pc := 66) 0 rfl rfl dX9_bySign_66) ?_
        refine Rk.gR (pc := 67) 173 flX9_7 cl9 rfl lb172 dX9_bySign_67 ?_
        refine Rk.sp (G_sipush (pc := 70) dX9_bySign_70 rfl) ?_
        refine Rk.sp (G_iconst (pc := 73) dX9_bySign_73) ?_
        refine Rk.sp (G_iload_n (pc := 74) 3 rfl rfl dX9_bySign_74) ?_
        refine Rk.sp (G_imul (pc := 75) dX9_bySign_75) ?_
        refine Rk.sp (G_iadd (pc := 76) dX9_bySign_76) ?_
        refine Rk.sp (G_iconst (pc := 77) dX9_bySign_77) ?_
        refine Rk.sp (G_iadd (pc := 78) dX9_bySign_78) ?_
        refine Rk.al (pc := 79) lb173 dX9_bySign_79 (fun hi8 => ?_)
        refine Rk.sp (G_isub (pc := 80) dX9_bySign_80) ?_
        refine Rk.sp (G_i2l (pc := 81) dX9_bySign_81 (nmW _)) ?_
        refine Rk.fg [false, true, false, false, false, true, false, false, false] (L' := [none, some (vl a1), none, none, none, some (vl v5_5), none, none, none]) rfl ?_
        exact Rk.end_ (fun h => h (inR.J (wrR _)))
      · refine Rk.sp (G_aload_n (pc := 45) 0 rfl rfl dX9_bySign_45) ?_
        refine Rk.gR (pc := 46) 173 flX9_7 cl9 rfl lb172 dX9_bySign_46 ?_
        refine Rk.sp (G_sipush (pc := 49) dX9_bySign_49 rfl) ?_
        refine Rk.sp (G_iconst (pc := 52) dX9_bySign_52) ?_
        refine Rk.sp (G_iload_n (pc := 53) 3 rfl rfl dX9_bySign_53) ?_
        refine Rk.sp (G_imul (pc := 54) dX9_bySign_54) ?_
        refine Rk.sp (G_iadd (pc := 55) dX9_bySign_55) ?_
        refine Rk.sp (G_iconst (pc := 56) dX9_bySign_56) ?_
        refine Rk.sp (G_iadd (pc := 57) dX9_bySign_57) ?_
        refine Rk.al (pc := 58) lb173 dX9_bySign_58 (fun hi9 => ?_)
        refine Rk.sp (G_i2l (pc := 59) dX9_bySign_59 (nmI (hok _ _))) ?_
        refine Rk.sp (G_goto (pc := 60) (tgt := 82) dX9_bySign_60 rfl) ?_
        refine Rk.fg [false, true, false, false, false, true, false, false, false] (L' := [none, some (vl a1), none, none, none, some (vl v5_5), none, none, none]) rfl ?_
        exact Rk.end_ (fun h => h (inR.J (hok _ _)))
    · revert hp; revert p; intro t7 ht7
      try dsimp only
      refine Rk.lst_w (pc := 82) 7 (fun v7_10 => [none, some (vl a1), none, none, none, some (vl v5_5), none, some (vl v7_10), none]) (Nat.le_of_ble_eq_true rfl) rfl dX9_bySign_82 (nmjI ht7) (fun _ => rfl) (fun v7_10 hv7_10 => ?_)
      refine Rk.sp (G_ldc2 (pc := 84) (n := 1000000) dX9_bySign_84 conjX9_418 (by decide)) ?_
      refine Rk.sp (G_lload_n (pc := 87) 1 rfl rfl dX9_bySign_87) ?_
      refine Rk.sp (G_lload_w (pc := 88) 7 rfl dX9_bySign_88) ?_
      refine Rk.sp (G_lmul (pc := 90) dX9_bySign_90) ?_
      refine Rk.sp (G_lmul (pc := 91) dX9_bySign_91) ?_
      refine Rk.sp (G_lload_n (pc := 92) 1 rfl rfl dX9_bySign_92) ?_
      refine Rk.sp (G_lload_w (pc := 93) 7 rfl dX9_bySign_93) ?_
      refine Rk.sp (G_lmul (pc := 95) dX9_bySign_95) ?_
      refine Rk.sp (G_ldc2 (pc := 96) (n := 1000000) dX9_bySign_96 conjX9_418 (by decide)) ?_
      refine Rk.sp (G_lload_n (pc := 99) 1 rfl rfl dX9_bySign_99) ?_
      refine Rk.sp (G_lsub (pc := 100) dX9_bySign_100) ?_
      refine Rk.sp (G_lload_w (pc := 101) 5 rfl dX9_bySign_101) ?_
      refine Rk.sp (G_lmul (pc := 103) dX9_bySign_103) ?_
      refine Rk.sp (G_ladd (pc := 104) dX9_bySign_104) ?_
      refine Rk.qnz (fun hz11 => ?_)
      refine Rk.sp (G_ldiv (pc := 105) dX9_bySign_105 (nmjW _) (nmjW _) hz11) ?_
      refine Rk.sp (Go.j0 (nmjW _)) ?_
      exact Rk.end_ (fun h => G_lreturn (pc := 106) rfl dX9_bySign_106 (q_RJ h (wrJR _)))
theorem k_Mo_copies {κ : Kx} {μ : Sg} (a1 : Int) (a2 : Int) (a3 : Int) (σ : Sg) (ha1 : inR a1) (ha2 : inR a2) (ha3 : inR a3) (hok : okS σ) : CtI κ mX9_copies 5 [vr 172, vi a1, vi a2, vi a3] true μ σ (Mo_copies a1 a2 a3 σ) := by
  intro r τ h
  refine con_of (by decide) (Nat.le_of_ble_eq_true rfl) 5 ?_
  refine (?_ : Rk κ mX9_copies _ 0 [some (vr 172), some (vi a1), some (vi a2), some (vi a3), none, none, none, none, none] [] (ms true μ σ) (Mo_copies a1 a2 a3 σ) (fun a => a = (r, τ))) _ h rfl
  unfold Mo_copies
  refine Rk.sp (G_iload_n (pc := 0) 1 rfl rfl dX9_copies_0) ?_
  refine Rk.sp (G_iconst (pc := 1) dX9_copies_1) ?_
  refine Rk.sp (G_sipush (pc := 2) dX9_copies_2 rfl) ?_
  refine Rk.cRZ (pc := 5) (Cl.s [vi a1, vi 0, vi 999] [] dX9_copies_5 ckX9_72 rfl rfl (Nat.le_of_ble_eq_true rfl) (Nat.le_of_ble_eq_true rfl)) (k_Mo_isIn a1 0 999 ha1 (inRk 0 rfl) (inRk 999 rfl)) (fun r1 hr1 => ?_)
  refine Rk.if_eq (pc := 8) (tgt := 30) dX9_copies_8 (nmI (inZ.R hr1)) rfl (fun hc2 => ?_) (fun hc2 => ?_)
  · refine Rk.sp (G_iconst (pc := 30) dX9_copies_30) ?_
    exact Rk.end_ (fun h => G_ireturn (pc := 31) rfl dX9_copies_31 (q_I h (inRk (-1) rfl) hok))
  · refine Rk.sp (G_iload_n (pc := 11) 2 rfl rfl dX9_copies_11) ?_
    refine Rk.sp (G_iconst (pc := 12) dX9_copies_12) ?_
    refine Rk.sp (G_bipush (pc := 13) dX9_copies_13 rfl) ?_
    refine Rk.cRZ (pc := 15) (Cl.s [vi a2, vi 1, vi 99] [] dX9_copies_15 ckX9_72 rfl rfl (Nat.le_of_ble_eq_true rfl) (Nat.le_of_ble_eq_true rfl)) (k_Mo_isIn a2 1 99 ha2 (inRk 1 rfl) (inRk 99 rfl)) (fun r3 hr3 => ?_)
    refine Rk.if_eq (pc := 18) (tgt := 30) dX9_copies_18 (nmI (inZ.R hr3)) rfl (fun hc4 => ?_) (fun hc4 => ?_)
    · refine Rk.sp (G_iconst (pc := 30) dX9_copies_30) ?_
      exact Rk.end_ (fun h => G_ireturn (pc := 31) rfl dX9_copies_31 (q_I h (inRk (-1) rfl) hok))
    · refine Rk.sp (G_iload_n (pc := 21) 3 rfl rfl dX9_copies_21) ?_
      refine Rk.sp (G_iconst (pc := 22) dX9_copies_22) ?_
      refine Rk.sp (G_iconst (pc := 23) dX9_copies_23) ?_
      refine Rk.cRZ (pc := 24) (Cl.s [vi a3, vi 0, vi 2] [] dX9_copies_24 ckX9_72 rfl rfl (Nat.le_of_ble_eq_true rfl) (Nat.le_of_ble_eq_true rfl)) (k_Mo_isIn a3 0 2 ha3 (inRk 0 rfl) (inRk 2 rfl)) (fun r5 hr5 => ?_)
      refine Rk.if_ne (pc := 27) (tgt := 32) dX9_copies_27 (nmI (inZ.R hr5)) rfl (fun hc6 => ?_) (fun hc6 => ?_)
      · refine Rk.sp (G_iconst (pc := 30) dX9_copies_30) ?_
        exact Rk.end_ (fun h => G_ireturn (pc := 31) rfl dX9_copies_31 (q_I h (inRk (-1) rfl) hok))
      · refine Rk.sp (G_aload_n (pc := 32) 0 rfl rfl dX9_copies_32) ?_
        refine Rk.gR (pc := 33) 184 flX9_50 cl9 rfl lb172 dX9_copies_33 ?_
        refine Rk.sp (G_iconst (pc := 36) dX9_copies_36) ?_
        refine Rk.sp (G_iload_n (pc := 37) 1 rfl rfl dX9_copies_37) ?_
        refine Rk.asc (pc := 38) hok (nmI ha1) 0 rfl (Nat.le_of_ble_eq_true rfl) lb184 dX9_copies_38 (fun σ7 hσ7 => ?_)
        refine Rk.sp (G_iconst (pc := 39) dX9_copies_39) ?_
        refine Rk.isa_w (pc := 40) 4 (L' := [some (vr 172), some (vi a1), some (vi a2), some (vi a3), some (vi 0), none, none, none, none]) (Nat.le_of_ble_eq_true rfl) rfl dX9_copies_40 rfl ?_
        refine Rk.sp (G_iconst (pc := 42) dX9_copies_42) ?_
        refine Rk.isa_w (pc := 43) 5 (L' := [some (vr 172), some (vi a1), some (vi a2), some (vi a3), some (vi 0), some (vi (-1)), none, none, none]) (Nat.le_of_ble_eq_true rfl) rfl dX9_copies_43 rfl ?_
        refine Rk.sp (G_iconst (pc := 45) dX9_copies_45) ?_
        refine Rk.isa_w (pc := 46) 6 (L' := [some (vr 172), some (vi a1), some (vi a2), some (vi a3), some (vi 0), some (vi (-1)), some (vi (-1)), none, none]) (Nat.le_of_ble_eq_true rfl) rfl dX9_copies_46 rfl ?_
        refine Rk.sp (G_iconst (pc := 48) dX9_copies_48) ?_
        refine Rk.isa_w (pc := 49) 7 (L' := [some (vr 172), some (vi a1), some (vi a2), some (vi a3), some (vi 0), some (vi (-1)), some (vi (-1)), some (vi 1), none]) (Nat.le_of_ble_eq_true rfl) rfl dX9_copies_49 rfl ?_
        refine Rk.fg [true, false, true, true, true, true, true, true, false] (L' := [some (vr 172), none, some (vi a2), some (vi a3), some (vi 0), some (vi (-1)), some (vi (-1)), some (vi 1), none]) rfl ?_
        refine Rk.loop (pc := 51) (B := (fun p => Mo_copies_51_b a3 a2 p.1 p.2.1 p.2.2.1 p.2.2.2.1 p.2.2.2.2)) (fun p => inR p.1 ∧ inR p.2.1 ∧ inR p.2.2.1 ∧ inR p.2.2.2.1 ∧ okS p.2.2.2.2) (fun p => [some (vr 172), none, some (vi a2), some (vi a3), some (vi p.1), some (vi p.2.1), some (vi p.2.2.1), some (vi p.2.2.2.1), none]) (fun p => (ms true μ p.2.2.2.2)) (fun p hp => ?_) (0, (-1), (-1), 1, σ7) ⟨(inRk 0 rfl), (inRk (-1) rfl), (inRk (-1) rfl), (inRk 1 rfl), hσ7⟩
        obtain ⟨v4_8, v5_9, v6_10, v7_11, σ12⟩ := p
        obtain ⟨hv4_8, hv5_9, hv6_10, hv7_11, hσ12⟩ := hp
        try dsimp only
        unfold Mo_copies_51_b
        refine Rk.sp (G_iload_w (pc := 51) 7 rfl dX9_copies_51) ?_
        refine Rk.sp (G_bipush (pc := 53) dX9_copies_53 rfl) ?_
        refine Rk.icmp_gt (pc := 55) (tgt := 181) dX9_copies_55 (nmI hv7_11) (nmI (inRk 60 rfl)) rfl (fun hc13 => ?_) (fun hc13 => ?_)
        · refine Rk.sp (G_iload_n (pc := 181) 3 rfl rfl dX9_copies_181) ?_
          refine Rk.if_ne (pc := 182) (tgt := 190) dX9_copies_182 (nmI ha3) rfl (fun hc14 => ?_) (fun hc14 => ?_)
          · refine Rk.sp (G_iload_w (pc := 185) 5 rfl dX9_copies_185) ?_
            refine Rk.sp (G_goto (pc := 187) (tgt := 202) dX9_copies_187 rfl) ?_
            exact Rk.end_ (fun h => G_ireturn (pc := 202) rfl dX9_copies_202 (q_I h hv5_9 hσ12))
          · refine Rk.sp (G_iload_n (pc := 190) 3 rfl rfl dX9_copies_190) ?_
            refine Rk.sp (G_iconst (pc := 191) dX9_copies_191) ?_
            refine Rk.icmp_ne (pc := 192) (tgt := 200) dX9_copies_192 (nmI ha3) (nmI (inRk 1 rfl)) rfl (fun hc15 => ?_) (fun hc15 => ?_)
            · refine Rk.sp (G_iload_w (pc := 195) 6 rfl dX9_copies_195) ?_
              refine Rk.sp (G_goto (pc := 197) (tgt := 202) dX9_copies_197 rfl) ?_
              exact Rk.end_ (fun h => G_ireturn (pc := 202) rfl dX9_copies_202 (q_I h hv6_10 hσ12))
            · refine Rk.sp (G_iload_w (pc := 200) 4 rfl dX9_copies_200) ?_
              exact Rk.end_ (fun h => G_ireturn (pc := 202) rfl dX9_copies_202 (q_I h hv4_8 hσ12))
        · refine Rk.sp (G_aload_n (pc := 58) 0 rfl rfl dX9_copies_58) ?_
          refine Rk.sp (G_iload_w (pc := 59) 7 rfl dX9_copies_59) ?_
          refine Rk.sp (G_iconst (pc := 61) dX9_copies_61) ?_
          refine Rk.sp (G_isub (pc := 62) dX9_copies_62) ?_
          refine Rk.sp (G_iconst (pc := 63) dX9_copies_63) ?_
          refine Rk.sp (G_irem (pc := 64) dX9_copies_64 (nmW _) (nmI (inRk 2 rfl)) (by decide)) ?_
          refine Rk.sp (G_iload_n (pc := 65) 2 rfl rfl dX9_copies_65) ?_
          refine Rk.sp (G_iconst (pc := 66) dX9_copies_66) ?_
          refine Rk.sp (G_iconst (pc := 67) dX9_copies_67) ?_
          refine Rk.cV (pc := 68) (Cl.v [vi (Int.tmod (wr (v7_11 - 1)) 2), vi a2, vi 0, vi 0] [] dX9_copies_68 ckX9_323 lb172 rfl rfl rfl (Nat.le_of_ble_eq_true rfl) (Nat.le_of_ble_eq_true rfl)) (k_Mo_lays (Int.tmod (wr (v7_11 - 1)) 2) a2 0 0 σ12 (tmodR (wrR _)) ha2 (inRk 0 rfl) (inRk 0 rfl) hσ12) (fun σ16 hσ16 => ?_)
          refine Rk.sp (G_aload_n (pc := 71) 0 rfl rfl dX9_copies_71) ?_
          refine Rk.gR (pc := 72) 182 flX9_37 cl9 rfl lb172 dX9_copies_72 ?_
          refine Rk.sp (G_iconst (pc := 75) dX9_copies_75) ?_
          refine Rk.sp (G_aload_n (pc := 76) 0 rfl rfl dX9_copies_76) ?_
          refine Rk.gR (pc := 77) 184 flX9_50 cl9 rfl lb172 dX9_copies_77 ?_
          refine Rk.sp (G_iload_w (pc := 80) 7 rfl dX9_copies_80) ?_
          refine Rk.sp (G_iconst (pc := 82) dX9_copies_82) ?_
          refine Rk.sp (G_isub (pc := 83) dX9_copies_83) ?_
          refine Rk.al (pc := 84) lb184 dX9_copies_84 (fun hi17 => ?_)
          refine Rk.asc (pc := 85) hσ16 (nmI (hσ16 _ _)) 3 rfl (Nat.le_of_ble_eq_true rfl) lb182 dX9_copies_85 (fun σ18 hσ18 => ?_)
          refine Rk.sp (G_aload_n (pc := 86) 0 rfl rfl dX9_copies_86) ?_
          refine Rk.gR (pc := 87) 184 flX9_50 cl9 rfl lb172 dX9_copies_87 ?_
          refine Rk.sp (G_iload_w (pc := 90) 7 rfl dX9_copies_90) ?_
          refine Rk.sp (G_aload_n (pc := 92) 0 rfl rfl dX9_copies_92) ?_
          refine Rk.cI (pc := 93) (Cl.v [] [vi v7_11, vr 184] dX9_copies_93 ckX9_379 lb172 rfl rfl rfl (Nat.le_of_ble_eq_true rfl) (Nat.le_of_ble_eq_true rfl)) (k_Mo_delayNow σ18 hσ18) (fun r19 σ20 hr19 hσ20 => ?_)
          refine Rk.as (pc := 96) hσ20 (nmI hr19) lb184 dX9_copies_96 (fun hi22 σ21 hσ21 => ?_)
          refine Rk.sp (G_iload_w (pc := 97) 4 rfl dX9_copies_97) ?_
          refine Rk.sp (G_aload_n (pc := 99) 0 rfl rfl dX9_copies_99) ?_
          refine Rk.gR (pc := 100) 184 flX9_50 cl9 rfl lb172 dX9_copies_100 ?_
          refine Rk.sp (G_iload_w (pc := 103) 7 rfl dX9_copies_103) ?_
          refine Rk.al (pc := 105) lb184 dX9_copies_105 (fun hi23 => ?_)
          refine Rk.cRI (pc := 106) (Cl.s [vi v4_8, vi (σ21 184 (v7_11).toNat)] [] dX9_copies_106 ckX9_69 rfl rfl (Nat.le_of_ble_eq_true rfl) (Nat.le_of_ble_eq_true rfl)) (k_Mo_greater v4_8 (σ21 184 (v7_11).toNat) hv4_8 (hσ21 _ _)) (fun r24 hr24 => ?_)
          refine Rk.isa_w (pc := 109) 4 (L' := [some (vr 172), none, some (vi a2), some (vi a3), some (vi r24), some (vi v5_9), some (vi v6_10), some (vi v7_11), none]) (Nat.le_of_ble_eq_true rfl) rfl dX9_copies_109 rfl ?_
          refine Rk.sp (G_iconst (pc := 111) dX9_copies_111) ?_
          refine Rk.isa_w (pc := 112) 8 (L' := [some (vr 172), none, some (vi a2), some (vi a3), some (vi r24), some (vi v5_9), some (vi v6_10), some (vi v7_11), some (vi 1)]) (Nat.le_of_ble_eq_true rfl) rfl dX9_copies_112 rfl ?_
          refine Rk.loop (pc := 114) (B := (fun p => Mo_copies_114_b v7_11 σ21 r24 p.1 p.2.1 p.2.2)) (fun p => inR p.1 ∧ inR p.2.1 ∧ inR p.2.2) (fun p => [some (vr 172), none, some (vi a2), some (vi a3), some (vi r24), some (vi p.1), some (vi p.2.1), some (vi v7_11), some (vi p.2.2)]) (fun p => (ms true μ σ21)) (fun p hp => ?_) (v5_9, v6_10, 1) ⟨hv5_9, hv6_10, (inRk 1 rfl)⟩
          obtain ⟨v5_25, v6_26, v8_27⟩ := p
          obtain ⟨hv5_25, hv6_26, hv8_27⟩ := hp
          try dsimp only
          unfold Mo_copies_114_b
          refine Rk.sp (G_iload_w (pc := 114) 8 rfl dX9_copies_114) ?_
          refine Rk.sp (G_iload_w (pc := 116) 7 rfl dX9_copies_116) ?_
          refine Rk.icmp_ge (pc := 118) (tgt := 175) dX9_copies_118 (nmI hv8_27) (nmI hv7_11) rfl (fun hc28 => ?_) (fun hc28 => ?_)
          · refine Rk.sp (G_iload_w (pc := 121) 5 rfl dX9_copies_121) ?_
            refine Rk.sp (G_iconst (pc := 123) dX9_copies_123) ?_
            refine Rk.icmp_ne (pc := 124) (tgt := 175) dX9_copies_124 (nmI hv5_25) (nmI (inRk (-1) rfl)) rfl (fun hc29 => ?_) (fun hc29 => ?_)
            · refine Rk.sp (G_iload_w (pc := 127) 7 rfl dX9_copies_127) ?_
              refine Rk.sp (G_iload_w (pc := 129) 8 rfl dX9_copies_129) ?_
              refine Rk.sp (G_isub (pc := 131) dX9_copies_131) ?_
              refine Rk.sp (G_iconst (pc := 132) dX9_copies_132) ?_
              refine Rk.sp (G_irem (pc := 133) dX9_copies_133 (nmW _) (nmI (inRk 2 rfl)) (by decide)) ?_
              refine Rk.sp (G_iconst (pc := 134) dX9_copies_134) ?_
              refine Rk.icmp_eq (pc := 135) (tgt := 169) dX9_copies_135 (nmI (tmodR (wrR _))) (nmI (inRk 1 rfl)) rfl (fun hc30 => ?_) (fun hc30 => ?_)
              · refine Rk.inc (pc := 169) 8 (fun v8_31 => [some (vr 172), none, some (vi a2), some (vi a3), some (vi r24), some (vi v5_25), some (vi v6_26), some (vi v7_11), some (vi v8_31)]) rfl (Nat.le_of_ble_eq_true rfl) rfl dX9_copies_169 (fun _ => rfl) (fun v8_31 hv8_31 => ?_)
                refine Rk.sp (G_goto (pc := 172) (tgt := 114) dX9_copies_172 rfl) ?_
                exact Rk.end_ (fun h => h ⟨hv5_25, hv6_26, hv8_31⟩)
              · refine Rk.sp (G_aload_n (pc := 138) 0 rfl rfl dX9_copies_138) ?_
                refine Rk.gR (pc := 139) 184 flX9_50 cl9 rfl lb172 dX9_copies_139 ?_
                refine Rk.sp (G_iload_w (pc := 142) 8 rfl dX9_copies_142) ?_
                refine Rk.al (pc := 144) lb184 dX9_copies_144 (fun hi32 => ?_)
                refine Rk.sp (G_aload_n (pc := 145) 0 rfl rfl dX9_copies_145) ?_
                refine Rk.gR (pc := 146) 184 flX9_50 cl9 rfl lb172 dX9_copies_146 ?_
                refine Rk.sp (G_iload_w (pc := 149) 7 rfl dX9_copies_149) ?_
                refine Rk.al (pc := 151) lb184 dX9_copies_151 (fun hi33 => ?_)
                refine Rk.icmp_eq (pc := 152) (tgt := 158) dX9_copies_152 (nmI (hσ21 _ _)) (nmI (hσ21 _ _)) rfl (fun hc34 => ?_) (fun hc34 => ?_)
                · refine Rk.sp (G_iload_w (pc := 158) 7 rfl dX9_copies_158) ?_
                  refine Rk.isa_w (pc := 160) 5 (L' := [some (vr 172), none, some (vi a2), some (vi a3), some (vi r24), some (vi v7_11), some (vi v6_26), some (vi v7_11), some (vi v8_27)]) (Nat.le_of_ble_eq_true rfl) rfl dX9_copies_160 rfl ?_
                  refine Rk.sp (G_iload_w (pc := 162) 7 rfl dX9_copies_162) ?_
                  refine Rk.sp (G_iload_w (pc := 164) 8 rfl dX9_copies_164) ?_
                  refine Rk.sp (G_isub (pc := 166) dX9_copies_166) ?_
                  refine Rk.ist_w (pc := 167) 6 (fun v6_35 => [some (vr 172), none, some (vi a2), some (vi a3), some (vi r24), some (vi v7_11), some (vi v6_35), some (vi v7_11), some (vi v8_27)]) (Nat.le_of_ble_eq_true rfl) rfl dX9_copies_167 (nmW _) (fun _ => rfl) (fun v6_35 hv6_35 => ?_)
                  refine Rk.inc (pc := 169) 8 (fun v8_36 => [some (vr 172), none, some (vi a2), some (vi a3), some (vi r24), some (vi v7_11), some (vi v6_35), some (vi v7_11), some (vi v8_36)]) rfl (Nat.le_of_ble_eq_true rfl) rfl dX9_copies_169 (fun _ => rfl) (fun v8_36 hv8_36 => ?_)
                  refine Rk.sp (G_goto (pc := 172) (tgt := 114) dX9_copies_172 rfl) ?_
                  exact Rk.end_ (fun h => h ⟨hv7_11, hv6_35, hv8_36⟩)
                · refine Rk.sp (G_goto (pc := 155) (tgt := 169) dX9_copies_155 rfl) ?_
                  refine Rk.inc (pc := 169) 8 (fun v8_37 => [some (vr 172), none, some (vi a2), some (vi a3), some (vi r24), some (vi v5_25), some (vi v6_26), some (vi v7_11), some (vi v8_37)]) rfl (Nat.le_of_ble_eq_true rfl) rfl dX9_copies_169 (fun _ => rfl) (fun v8_37 hv8_37 => ?_)
                  refine Rk.sp (G_goto (pc := 172) (tgt := 114) dX9_copies_172 rfl) ?_
                  exact Rk.end_ (fun h => h ⟨hv5_25, hv6_26, hv8_37⟩)
            · refine Rk.inc (pc := 175) 7 (fun v7_38 => [some (vr 172), none, some (vi a2), some (vi a3), some (vi r24), some (vi v5_25), some (vi v6_26), some (vi v7_38), some (vi v8_27)]) rfl (Nat.le_of_ble_eq_true rfl) rfl dX9_copies_175 (fun _ => rfl) (fun v7_38 hv7_38 => ?_)
              refine Rk.sp (G_goto (pc := 178) (tgt := 51) dX9_copies_178 rfl) ?_
              refine Rk.fg [true, false, true, true, true, true, true, true, false] (L' := [some (vr 172), none, some (vi a2), some (vi a3), some (vi r24), some (vi v5_25), some (vi v6_26), some (vi v7_38), none]) rfl ?_
              exact Rk.end_ (fun h => h ⟨hr24, hv5_25, hv6_26, hv7_38, hσ21⟩)
          · refine Rk.inc (pc := 175) 7 (fun v7_39 => [some (vr 172), none, some (vi a2), some (vi a3), some (vi r24), some (vi v5_25), some (vi v6_26), some (vi v7_39), some (vi v8_27)]) rfl (Nat.le_of_ble_eq_true rfl) rfl dX9_copies_175 (fun _ => rfl) (fun v7_39 hv7_39 => ?_)
            refine Rk.sp (G_goto (pc := 178) (tgt := 51) dX9_copies_178 rfl) ?_
            refine Rk.fg [true, false, true, true, true, true, true, true, false] (L' := [some (vr 172), none, some (vi a2), some (vi a3), some (vi r24), some (vi v5_25), some (vi v6_26), some (vi v7_39), none]) rfl ?_
            exact Rk.end_ (fun h => h ⟨hr24, hv5_25, hv6_26, hv7_39, hσ21⟩)
theorem k_Mo_count {κ : Kx} {b : Bool} {μ σ : Sg} (a1 : Int) (ha1 : inR a1) : CtRI κ mX9_count 0 [vi a1] b μ σ (Mo_count a1) := by
  intro r h
  refine con_of (by decide) (Nat.le_of_ble_eq_true rfl) 2 ?_
  refine (?_ : Rk κ mX9_count _ 0 [some (vi a1), none, none] [] (ms b μ σ) (Mo_count a1) (fun a => a = r)) _ h rfl
  unfold Mo_count
  refine Rk.sp (G_iconst (pc := 0) dX9_count_0) ?_
  refine Rk.isa_n (pc := 1) 1 (L' := [some (vi a1), some (vi 0), none]) rfl (Nat.le_of_ble_eq_true rfl) rfl dX9_count_1 rfl ?_
  refine Rk.sp (G_iconst (pc := 2) dX9_count_2) ?_
  refine Rk.isa_n (pc := 3) 2 (L' := [some (vi a1), some (vi 0), some (vi 0)]) rfl (Nat.le_of_ble_eq_true rfl) rfl dX9_count_3 rfl ?_
  refine Rk.loop (pc := 4) (B := (fun p => Mo_count_4_b a1 p.1 p.2)) (fun p => inR p.1 ∧ inR p.2) (fun p => [some (vi a1), some (vi p.1), some (vi p.2)]) (fun p => (ms b μ σ)) (fun p hp => ?_) (0, 0) ⟨(inRk 0 rfl), (inRk 0 rfl)⟩
  obtain ⟨v1_1, v2_2⟩ := p
  obtain ⟨hv1_1, hv2_2⟩ := hp
  try dsimp only
  unfold Mo_count_4_b
  refine Rk.sp (G_iload_n (pc := 4) 2 rfl rfl dX9_count_4) ?_
  refine Rk.sp (G_bipush (pc := 5) dX9_count_5 rfl) ?_
  refine Rk.icmp_ge (pc := 7) (tgt := 24) dX9_count_7 (nmI hv2_2) (nmI (inRk 16 rfl)) rfl (fun hc3 => ?_) (fun hc3 => ?_)
  · refine Rk.sp (G_iload_n (pc := 10) 1 rfl rfl dX9_count_10) ?_
    refine Rk.sp (G_iload_n (pc := 11) 0 rfl rfl dX9_count_11) ?_
    refine Rk.sp (G_iload_n (pc := 12) 2 rfl rfl dX9_count_12) ?_
    refine Rk.sp (G_ishr (pc := 13) dX9_count_13) ?_
    refine Rk.sp (G_iconst (pc := 14) dX9_count_14) ?_
    refine Rk.sp (G_iand (pc := 15) dX9_count_15) ?_
    refine Rk.sp (G_iadd (pc := 16) dX9_count_16) ?_
    refine Rk.ist_n (pc := 17) 1 (fun v1_4 => [some (vi a1), some (vi v1_4), some (vi v2_2)]) rfl (Nat.le_of_ble_eq_true rfl) rfl dX9_count_17 (nmW _) (fun _ => rfl) (fun v1_4 hv1_4 => ?_)
    refine Rk.inc (pc := 18) 2 (fun v2_5 => [some (vi a1), some (vi v1_4), some (vi v2_5)]) rfl (Nat.le_of_ble_eq_true rfl) rfl dX9_count_18 (fun _ => rfl) (fun v2_5 hv2_5 => ?_)
    refine Rk.sp (G_goto (pc := 21) (tgt := 4) dX9_count_21 rfl) ?_
    exact Rk.end_ (fun h => h ⟨hv1_4, hv2_5⟩)
  · refine Rk.sp (G_iload_n (pc := 24) 1 rfl rfl dX9_count_24) ?_
    exact Rk.end_ (fun h => G_ireturn (pc := 25) rfl dX9_count_25 (q_RI h hv1_1))
theorem k_Mo_haveCrossed {κ : Kx} {μ : Sg} (a1 : Int) (a2 : Int) (σ : Sg) (ha1 : inR a1) (ha2 : inR a2) (hok : okS σ) : CtRZ κ mX9_haveCrossed 1 [vr 172, vi a1, vi a2] true μ σ (Mo_haveCrossed a1 a2 σ) := by
  intro r h
  refine con_of (by decide) (Nat.le_of_ble_eq_true rfl) 2 ?_
  refine (?_ : Rk κ mX9_haveCrossed _ 0 [some (vr 172), some (vi a1), some (vi a2), none, none] [] (ms true μ σ) (Mo_haveCrossed a1 a2 σ) (fun a => a = r)) _ h rfl
  unfold Mo_haveCrossed
  refine Rk.sp (G_aload_n (pc := 0) 0 rfl rfl dX9_haveCrossed_0) ?_
  refine Rk.sp (G_iload_n (pc := 1) 1 rfl rfl dX9_haveCrossed_1) ?_
  refine Rk.sp (G_iconst (pc := 2) dX9_haveCrossed_2) ?_
  refine Rk.cRI (pc := 3) (Cl.v [vi a1, vi 1] [] dX9_haveCrossed_3 ckX9_76 lb172 rfl rfl rfl (Nat.le_of_ble_eq_true rfl) (Nat.le_of_ble_eq_true rfl)) (k_Mo_of0 a1 1 σ ha1 (inRk 1 rfl) hok) (fun r1 hr1 => ?_)
  refine Rk.sp (G_aload_n (pc := 6) 0 rfl rfl dX9_haveCrossed_6) ?_
  refine Rk.sp (G_iload_n (pc := 7) 2 rfl rfl dX9_haveCrossed_7) ?_
  refine Rk.sp (G_iconst (pc := 8) dX9_haveCrossed_8) ?_
  refine Rk.cRI (pc := 9) (Cl.v [vi a2, vi 1] [vi r1] dX9_haveCrossed_9 ckX9_76 lb172 rfl rfl rfl (Nat.le_of_ble_eq_true rfl) (Nat.le_of_ble_eq_true rfl)) (k_Mo_of0 a2 1 σ ha2 (inRk 1 rfl) hok) (fun r2 hr2 => ?_)
  refine Rk.join (P := fun p => inR p) (pcj := 20) (fun p => [some (vr 172), some (vi a1), some (vi a2), none, none]) (fun p => [vi p]) (fun p => (ms true μ σ)) ?_ (fun p hp => ?_)
  · refine Rk.icmp_gt (pc := 12) (tgt := 19) dX9_haveCrossed_12 (nmI hr1) (nmI hr2) rfl (fun hc3 => ?_) (fun hc3 => ?_)
    · refine Rk.sp (G_iload_n (pc := 19) 2 rfl rfl dX9_haveCrossed_19) ?_
      exact Rk.end_ (fun h => h ha2)
    · refine Rk.sp (G_iload_n (pc := 15) 1 rfl rfl dX9_haveCrossed_15) ?_
      refine Rk.sp (G_goto (pc := 16) (tgt := 20) dX9_haveCrossed_16 rfl) ?_
      exact Rk.end_ (fun h => h ha1)
  · revert hp; revert p; intro t4 ht4
    try dsimp only
    refine Rk.isa_n (pc := 20) 3 (L' := [some (vr 172), some (vi a1), some (vi a2), some (vi t4), none]) rfl (Nat.le_of_ble_eq_true rfl) rfl dX9_haveCrossed_20 rfl ?_
    refine Rk.sp (G_iload_n (pc := 21) 3 rfl rfl dX9_haveCrossed_21) ?_
    refine Rk.sp (G_iload_n (pc := 22) 1 rfl rfl dX9_haveCrossed_22) ?_
    refine Rk.join (P := fun p => inR p) (pcj := 31) (fun p => [some (vr 172), none, none, some (vi t4), none]) (fun p => [vi p]) (fun p => (ms true μ σ)) ?_ (fun p hp => ?_)
    · refine Rk.icmp_ne (pc := 23) (tgt := 30) dX9_haveCrossed_23 (nmI ht4) (nmI ha1) rfl (fun hc5 => ?_) (fun hc5 => ?_)
      · refine Rk.sp (G_iload_n (pc := 26) 2 rfl rfl dX9_haveCrossed_26) ?_
        refine Rk.sp (G_goto (pc := 27) (tgt := 31) dX9_haveCrossed_27 rfl) ?_
        refine Rk.fg [true, false, false, true, false] (L' := [some (vr 172), none, none, some (vi t4), none]) rfl ?_
        exact Rk.end_ (fun h => h ha2)
      · refine Rk.sp (G_iload_n (pc := 30) 1 rfl rfl dX9_haveCrossed_30) ?_
        refine Rk.fg [true, false, false, true, false] (L' := [some (vr 172), none, none, some (vi t4), none]) rfl ?_
        exact Rk.end_ (fun h => h ha1)
    · revert hp; revert p; intro t6 ht6
      try dsimp only
      refine Rk.isa_w (pc := 31) 4 (L' := [some (vr 172), none, none, some (vi t4), some (vi t6)]) (Nat.le_of_ble_eq_true rfl) rfl dX9_haveCrossed_31 rfl ?_
      refine Rk.sp (G_aload_n (pc := 33) 0 rfl rfl dX9_haveCrossed_33) ?_
      refine Rk.sp (G_iload_n (pc := 34) 3 rfl rfl dX9_haveCrossed_34) ?_
      refine Rk.sp (G_iconst (pc := 35) dX9_haveCrossed_35) ?_
      refine Rk.cRI (pc := 36) (Cl.v [vi t4, vi 2] [] dX9_haveCrossed_36 ckX9_76 lb172 rfl rfl rfl (Nat.le_of_ble_eq_true rfl) (Nat.le_of_ble_eq_true rfl)) (k_Mo_of0 t4 2 σ ht4 (inRk 2 rfl) hok) (fun r7 hr7 => ?_)
      refine Rk.sp (G_iconst (pc := 39) dX9_haveCrossed_39) ?_
      refine Rk.icmp_eq (pc := 40) (tgt := 59) dX9_haveCrossed_40 (nmI hr7) (nmI (inRk (-1) rfl)) rfl (fun hc8 => ?_) (fun hc8 => ?_)
      · refine Rk.sp (G_iconst (pc := 59) dX9_haveCrossed_59) ?_
        refine Rk.sp (G_goto (pc := 60) (tgt := 64) dX9_haveCrossed_60 rfl) ?_
        exact Rk.end_ (fun h => G_zreturn (pc := 64) rfl (nz inZ1) dX9_haveCrossed_64 (q_RZ h inZ1))
      · refine Rk.sp (G_aload_n (pc := 43) 0 rfl rfl dX9_haveCrossed_43) ?_
        refine Rk.sp (G_iload_n (pc := 44) 3 rfl rfl dX9_haveCrossed_44) ?_
        refine Rk.sp (G_iconst (pc := 45) dX9_haveCrossed_45) ?_
        refine Rk.cRI (pc := 46) (Cl.v [vi t4, vi 2] [] dX9_haveCrossed_46 ckX9_76 lb172 rfl rfl rfl (Nat.le_of_ble_eq_true rfl) (Nat.le_of_ble_eq_true rfl)) (k_Mo_of0 t4 2 σ ht4 (inRk 2 rfl) hok) (fun r9 hr9 => ?_)
        refine Rk.sp (G_aload_n (pc := 49) 0 rfl rfl dX9_haveCrossed_49) ?_
        refine Rk.sp (G_iload_w (pc := 50) 4 rfl dX9_haveCrossed_50) ?_
        refine Rk.sp (G_iconst (pc := 52) dX9_haveCrossed_52) ?_
        refine Rk.cRI (pc := 53) (Cl.v [vi t6, vi 1] [vi r9] dX9_haveCrossed_53 ckX9_76 lb172 rfl rfl rfl (Nat.le_of_ble_eq_true rfl) (Nat.le_of_ble_eq_true rfl)) (k_Mo_of0 t6 1 σ ht6 (inRk 1 rfl) hok) (fun r10 hr10 => ?_)
        refine Rk.icmp_lt (pc := 56) (tgt := 63) dX9_haveCrossed_56 (nmI hr9) (nmI hr10) rfl (fun hc11 => ?_) (fun hc11 => ?_)
        · refine Rk.sp (G_iconst (pc := 63) dX9_haveCrossed_63) ?_
          exact Rk.end_ (fun h => G_zreturn (pc := 64) rfl (nz inZ0) dX9_haveCrossed_64 (q_RZ h inZ0))
        · refine Rk.sp (G_iconst (pc := 59) dX9_haveCrossed_59) ?_
          refine Rk.sp (G_goto (pc := 60) (tgt := 64) dX9_haveCrossed_60 rfl) ?_
          exact Rk.end_ (fun h => G_zreturn (pc := 64) rfl (nz inZ1) dX9_haveCrossed_64 (q_RZ h inZ1))
theorem k_Mo_crossed {κ : Kx} {μ : Sg} (σ : Sg) (hok : okS σ) : CtRI κ mX9_crossed 2 [vr 172] true μ σ (Mo_crossed σ) := by
  intro r h
  refine con_of (by decide) (Nat.le_of_ble_eq_true rfl) 3 ?_
  refine (?_ : Rk κ mX9_crossed _ 0 [some (vr 172), none, none, none] [] (ms true μ σ) (Mo_crossed σ) (fun a => a = r)) _ h rfl
  unfold Mo_crossed
  refine Rk.sp (G_iconst (pc := 0) dX9_crossed_0) ?_
  refine Rk.isa_n (pc := 1) 1 (L' := [some (vr 172), some (vi 0), none, none]) rfl (Nat.le_of_ble_eq_true rfl) rfl dX9_crossed_1 rfl ?_
  refine Rk.sp (G_iconst (pc := 2) dX9_crossed_2) ?_
  refine Rk.isa_n (pc := 3) 2 (L' := [some (vr 172), some (vi 0), some (vi 0), none]) rfl (Nat.le_of_ble_eq_true rfl) rfl dX9_crossed_3 rfl ?_
  refine Rk.loop (pc := 4) (B := (fun p => Mo_crossed_4_b σ p.1 p.2)) (fun p => inR p.1 ∧ inR p.2) (fun p => [some (vr 172), some (vi p.1), some (vi p.2), none]) (fun p => (ms true μ σ)) (fun p hp => ?_) (0, 0) ⟨(inRk 0 rfl), (inRk 0 rfl)⟩
  obtain ⟨v1_1, v2_2⟩ := p
  obtain ⟨hv1_1, hv2_2⟩ := hp
  try dsimp only
  unfold Mo_crossed_4_b
  refine Rk.sp (G_iload_n (pc := 4) 2 rfl rfl dX9_crossed_4) ?_
  refine Rk.sp (G_aload_n (pc := 5) 0 rfl rfl dX9_crossed_5) ?_
  refine Rk.gR (pc := 6) 173 flX9_7 cl9 rfl lb172 dX9_crossed_6 ?_
  refine Rk.sp (G_iconst (pc := 9) dX9_crossed_9) ?_
  refine Rk.alc (pc := 10) 3 rfl (Nat.le_of_ble_eq_true rfl) lb173 dX9_crossed_10 ?_
  refine Rk.icmp_ge (pc := 11) (tgt := 90) dX9_crossed_11 (nmI hv2_2) (nmI (hok _ _)) rfl (fun hc3 => ?_) (fun hc3 => ?_)
  · refine Rk.sp (G_iconst (pc := 14) dX9_crossed_14) ?_
    refine Rk.isa_n (pc := 15) 3 (L' := [some (vr 172), some (vi v1_1), some (vi v2_2), some (vi 0)]) rfl (Nat.le_of_ble_eq_true rfl) rfl dX9_crossed_15 rfl ?_
    refine Rk.loop (pc := 16) (B := (fun p => Mo_crossed_16_b σ v2_2 p.1 p.2)) (fun p => inR p.1 ∧ inR p.2) (fun p => [some (vr 172), some (vi p.1), some (vi v2_2), some (vi p.2)]) (fun p => (ms true μ σ)) (fun p hp => ?_) (v1_1, 0) ⟨hv1_1, (inRk 0 rfl)⟩
    obtain ⟨v1_4, v3_5⟩ := p
    obtain ⟨hv1_4, hv3_5⟩ := hp
    try dsimp only
    unfold Mo_crossed_16_b
    refine Rk.sp (G_iload_n (pc := 16) 3 rfl rfl dX9_crossed_16) ?_
    refine Rk.sp (G_aload_n (pc := 17) 0 rfl rfl dX9_crossed_17) ?_
    refine Rk.gR (pc := 18) 173 flX9_7 cl9 rfl lb172 dX9_crossed_18 ?_
    refine Rk.sp (G_iconst (pc := 21) dX9_crossed_21) ?_
    refine Rk.alc (pc := 22) 3 rfl (Nat.le_of_ble_eq_true rfl) lb173 dX9_crossed_22 ?_
    refine Rk.icmp_ge (pc := 23) (tgt := 84) dX9_crossed_23 (nmI hv3_5) (nmI (hok _ _)) rfl (fun hc6 => ?_) (fun hc6 => ?_)
    · refine Rk.sp (G_iload_n (pc := 26) 1 rfl rfl dX9_crossed_26) ?_
      refine Rk.sp (G_aload_n (pc := 27) 0 rfl rfl dX9_crossed_27) ?_
      refine Rk.sp (G_iload_n (pc := 28) 2 rfl rfl dX9_crossed_28) ?_
      refine Rk.sp (G_iconst (pc := 29) dX9_crossed_29) ?_
      refine Rk.cRI (pc := 30) (Cl.v [vi v2_2, vi 0] [vi v1_4] dX9_crossed_30 ckX9_76 lb172 rfl rfl rfl (Nat.le_of_ble_eq_true rfl) (Nat.le_of_ble_eq_true rfl)) (k_Mo_of0 v2_2 0 σ hv2_2 (inRk 0 rfl) hok) (fun r7 hr7 => ?_)
      refine Rk.if_ne (pc := 33) (tgt := 75) dX9_crossed_33 (nmI hr7) rfl (fun hc8 => ?_) (fun hc8 => ?_)
      · refine Rk.sp (G_aload_n (pc := 36) 0 rfl rfl dX9_crossed_36) ?_
        refine Rk.sp (G_iload_n (pc := 37) 3 rfl rfl dX9_crossed_37) ?_
        refine Rk.sp (G_iconst (pc := 38) dX9_crossed_38) ?_
        refine Rk.cRI (pc := 39) (Cl.v [vi v3_5, vi 0] [vi v1_4] dX9_crossed_39 ckX9_76 lb172 rfl rfl rfl (Nat.le_of_ble_eq_true rfl) (Nat.le_of_ble_eq_true rfl)) (k_Mo_of0 v3_5 0 σ hv3_5 (inRk 0 rfl) hok) (fun r9 hr9 => ?_)
        refine Rk.sp (G_iconst (pc := 42) dX9_crossed_42) ?_
        refine Rk.icmp_ne (pc := 43) (tgt := 75) dX9_crossed_43 (nmI hr9) (nmI (inRk 1 rfl)) rfl (fun hc10 => ?_) (fun hc10 => ?_)
        · refine Rk.sp (G_aload_n (pc := 46) 0 rfl rfl dX9_crossed_46) ?_
          refine Rk.sp (G_iload_n (pc := 47) 2 rfl rfl dX9_crossed_47) ?_
          refine Rk.cRZ (pc := 48) (Cl.v [vi v2_2] [vi v1_4] dX9_crossed_48 ckX9_79 lb172 rfl rfl rfl (Nat.le_of_ble_eq_true rfl) (Nat.le_of_ble_eq_true rfl)) (k_Mo_isBack v2_2 σ hv2_2 hok) (fun r11 hr11 => ?_)
          refine Rk.if_ne (pc := 51) (tgt := 75) dX9_crossed_51 (nmI (inZ.R hr11)) rfl (fun hc12 => ?_) (fun hc12 => ?_)
          · refine Rk.sp (G_aload_n (pc := 54) 0 rfl rfl dX9_crossed_54) ?_
            refine Rk.sp (G_iload_n (pc := 55) 3 rfl rfl dX9_crossed_55) ?_
            refine Rk.cRZ (pc := 56) (Cl.v [vi v3_5] [vi v1_4] dX9_crossed_56 ckX9_79 lb172 rfl rfl rfl (Nat.le_of_ble_eq_true rfl) (Nat.le_of_ble_eq_true rfl)) (k_Mo_isBack v3_5 σ hv3_5 hok) (fun r13 hr13 => ?_)
            refine Rk.if_ne (pc := 59) (tgt := 75) dX9_crossed_59 (nmI (inZ.R hr13)) rfl (fun hc14 => ?_) (fun hc14 => ?_)
            · refine Rk.sp (G_aload_n (pc := 62) 0 rfl rfl dX9_crossed_62) ?_
              refine Rk.sp (G_iload_n (pc := 63) 2 rfl rfl dX9_crossed_63) ?_
              refine Rk.sp (G_iload_n (pc := 64) 3 rfl rfl dX9_crossed_64) ?_
              refine Rk.cRZ (pc := 65) (Cl.v [vi v2_2, vi v3_5] [vi v1_4] dX9_crossed_65 ckX9_460 lb172 rfl rfl rfl (Nat.le_of_ble_eq_true rfl) (Nat.le_of_ble_eq_true rfl)) (k_Mo_haveCrossed v2_2 v3_5 σ hv2_2 hv3_5 hok) (fun r15 hr15 => ?_)
              refine Rk.if_eq (pc := 68) (tgt := 75) dX9_crossed_68 (nmI (inZ.R hr15)) rfl (fun hc16 => ?_) (fun hc16 => ?_)
              · refine Rk.sp (G_iconst (pc := 75) dX9_crossed_75) ?_
                refine Rk.sp (G_iadd (pc := 76) dX9_crossed_76) ?_
                refine Rk.ist_n (pc := 77) 1 (fun v1_17 => [some (vr 172), some (vi v1_17), some (vi v2_2), some (vi v3_5)]) rfl (Nat.le_of_ble_eq_true rfl) rfl dX9_crossed_77 (nmW _) (fun _ => rfl) (fun v1_17 hv1_17 => ?_)
                refine Rk.inc (pc := 78) 3 (fun v3_18 => [some (vr 172), some (vi v1_17), some (vi v2_2), some (vi v3_18)]) rfl (Nat.le_of_ble_eq_true rfl) rfl dX9_crossed_78 (fun _ => rfl) (fun v3_18 hv3_18 => ?_)
                refine Rk.sp (G_goto (pc := 81) (tgt := 16) dX9_crossed_81 rfl) ?_
                exact Rk.end_ (fun h => h ⟨hv1_17, hv3_18⟩)
              · refine Rk.sp (G_iconst (pc := 71) dX9_crossed_71) ?_
                refine Rk.sp (G_goto (pc := 72) (tgt := 76) dX9_crossed_72 rfl) ?_
                refine Rk.sp (G_iadd (pc := 76) dX9_crossed_76) ?_
                refine Rk.ist_n (pc := 77) 1 (fun v1_19 => [some (vr 172), some (vi v1_19), some (vi v2_2), some (vi v3_5)]) rfl (Nat.le_of_ble_eq_true rfl) rfl dX9_crossed_77 (nmW _) (fun _ => rfl) (fun v1_19 hv1_19 => ?_)
                refine Rk.inc (pc := 78) 3 (fun v3_20 => [some (vr 172), some (vi v1_19), some (vi v2_2), some (vi v3_20)]) rfl (Nat.le_of_ble_eq_true rfl) rfl dX9_crossed_78 (fun _ => rfl) (fun v3_20 hv3_20 => ?_)
                refine Rk.sp (G_goto (pc := 81) (tgt := 16) dX9_crossed_81 rfl) ?_
                exact Rk.end_ (fun h => h ⟨hv1_19, hv3_20⟩)
            · refine Rk.sp (G_iconst (pc := 75) dX9_crossed_75) ?_
              refine Rk.sp (G_iadd (pc := 76) dX9_crossed_76) ?_
              refine Rk.ist_n (pc := 77) 1 (fun v1_21 => [some (vr 172), some (vi v1_21), some (vi v2_2), some (vi v3_5)]) rfl (Nat.le_of_ble_eq_true rfl) rfl dX9_crossed_77 (nmW _) (fun _ => rfl) (fun v1_21 hv1_21 => ?_)
              refine Rk.inc (pc := 78) 3 (fun v3_22 => [some (vr 172), some (vi v1_21), some (vi v2_2), some (vi v3_22)]) rfl (Nat.le_of_ble_eq_true rfl) rfl dX9_crossed_78 (fun _ => rfl) (fun v3_22 hv3_22 => ?_)
              refine Rk.sp (G_goto (pc := 81) (tgt := 16) dX9_crossed_81 rfl) ?_
              exact Rk.end_ (fun h => h ⟨hv1_21, hv3_22⟩)
          · refine Rk.sp (G_iconst (pc := 75) dX9_crossed_75) ?_
            refine Rk.sp (G_iadd (pc := 76) dX9_crossed_76) ?_
            refine Rk.ist_n (pc := 77) 1 (fun v1_23 => [some (vr 172), some (vi v1_23), some (vi v2_2), some (vi v3_5)]) rfl (Nat.le_of_ble_eq_true rfl) rfl dX9_crossed_77 (nmW _) (fun _ => rfl) (fun v1_23 hv1_23 => ?_)
            refine Rk.inc (pc := 78) 3 (fun v3_24 => [some (vr 172), some (vi v1_23), some (vi v2_2), some (vi v3_24)]) rfl (Nat.le_of_ble_eq_true rfl) rfl dX9_crossed_78 (fun _ => rfl) (fun v3_24 hv3_24 => ?_)
            refine Rk.sp (G_goto (pc := 81) (tgt := 16) dX9_crossed_81 rfl) ?_
            exact Rk.end_ (fun h => h ⟨hv1_23, hv3_24⟩)
        · refine Rk.sp (G_iconst (pc := 75) dX9_crossed_75) ?_
          refine Rk.sp (G_iadd (pc := 76) dX9_crossed_76) ?_
          refine Rk.ist_n (pc := 77) 1 (fun v1_25 => [some (vr 172), some (vi v1_25), some (vi v2_2), some (vi v3_5)]) rfl (Nat.le_of_ble_eq_true rfl) rfl dX9_crossed_77 (nmW _) (fun _ => rfl) (fun v1_25 hv1_25 => ?_)
          refine Rk.inc (pc := 78) 3 (fun v3_26 => [some (vr 172), some (vi v1_25), some (vi v2_2), some (vi v3_26)]) rfl (Nat.le_of_ble_eq_true rfl) rfl dX9_crossed_78 (fun _ => rfl) (fun v3_26 hv3_26 => ?_)
          refine Rk.sp (G_goto (pc := 81) (tgt := 16) dX9_crossed_81 rfl) ?_
          exact Rk.end_ (fun h => h ⟨hv1_25, hv3_26⟩)
      · refine Rk.sp (G_iconst (pc := 75) dX9_crossed_75) ?_
        refine Rk.sp (G_iadd (pc := 76) dX9_crossed_76) ?_
        refine Rk.ist_n (pc := 77) 1 (fun v1_27 => [some (vr 172), some (vi v1_27), some (vi v2_2), some (vi v3_5)]) rfl (Nat.le_of_ble_eq_true rfl) rfl dX9_crossed_77 (nmW _) (fun _ => rfl) (fun v1_27 hv1_27 => ?_)
        refine Rk.inc (pc := 78) 3 (fun v3_28 => [some (vr 172), some (vi v1_27), some (vi v2_2), some (vi v3_28)]) rfl (Nat.le_of_ble_eq_true rfl) rfl dX9_crossed_78 (fun _ => rfl) (fun v3_28 hv3_28 => ?_)
        refine Rk.sp (G_goto (pc := 81) (tgt := 16) dX9_crossed_81 rfl) ?_
        exact Rk.end_ (fun h => h ⟨hv1_27, hv3_28⟩)
    · refine Rk.inc (pc := 84) 2 (fun v2_29 => [some (vr 172), some (vi v1_4), some (vi v2_29), some (vi v3_5)]) rfl (Nat.le_of_ble_eq_true rfl) rfl dX9_crossed_84 (fun _ => rfl) (fun v2_29 hv2_29 => ?_)
      refine Rk.sp (G_goto (pc := 87) (tgt := 4) dX9_crossed_87 rfl) ?_
      refine Rk.fg [true, true, true, false] (L' := [some (vr 172), some (vi v1_4), some (vi v2_29), none]) rfl ?_
      exact Rk.end_ (fun h => h ⟨hv1_4, hv2_29⟩)
  · refine Rk.sp (G_iload_n (pc := 90) 1 rfl rfl dX9_crossed_90) ?_
    exact Rk.end_ (fun h => G_ireturn (pc := 91) rfl dX9_crossed_91 (q_RI h hv1_1))
theorem k_Mo_isOne {κ : Kx} {b : Bool} {μ σ : Sg} (a1 : Int) (ha1 : inR a1) : CtRZ κ mX9_isOne 1 [vi a1] b μ σ (Mo_isOne a1) := by
  intro r h
  refine con_of (by decide) (Nat.le_of_ble_eq_true rfl) 0 ?_
  refine (?_ : Rk κ mX9_isOne _ 0 [some (vi a1)] [] (ms b μ σ) (Mo_isOne a1) (fun a => a = r)) _ h rfl
  unfold Mo_isOne
  refine Rk.sp (G_iload_n (pc := 0) 0 rfl rfl dX9_isOne_0) ?_
  refine Rk.sp (G_iconst (pc := 1) dX9_isOne_1) ?_
  refine Rk.sp (G_iconst (pc := 2) dX9_isOne_2) ?_
  refine Rk.cRZ (pc := 3) (Cl.s [vi a1, vi 0, vi 1] [] dX9_isOne_3 ckX9_72 rfl rfl (Nat.le_of_ble_eq_true rfl) (Nat.le_of_ble_eq_true rfl)) (k_Mo_isIn a1 0 1 ha1 (inRk 0 rfl) (inRk 1 rfl)) (fun r1 hr1 => ?_)
  exact Rk.end_ (fun h => G_zreturn (pc := 6) rfl (nz hr1) dX9_isOne_6 (q_RZ h hr1))
theorem k_Mo_laysAside {κ : Kx} {μ : Sg} (σ : Sg) (hok : okS σ) : CtV κ mX9_laysAside 0 [vr 172] true μ σ (Mo_laysAside σ) := by
  intro τ h
  refine con_of (by decide) (Nat.le_of_ble_eq_true rfl) 1 ?_
  refine (?_ : Rk κ mX9_laysAside _ 0 [some (vr 172), none] [] (ms true μ σ) (Mo_laysAside σ) (fun a => a = τ)) _ h rfl
  unfold Mo_laysAside
  refine Rk.sp (G_iconst (pc := 0) dX9_laysAside_0) ?_
  refine Rk.isa_n (pc := 1) 1 (L' := [some (vr 172), some (vi 0)]) rfl (Nat.le_of_ble_eq_true rfl) rfl dX9_laysAside_1 rfl ?_
  refine Rk.loop (pc := 2) (B := (fun p => Mo_laysAside_2_b p.1 p.2)) (fun p => inR p.1 ∧ okS p.2) (fun p => [some (vr 172), some (vi p.1)]) (fun p => (ms true μ p.2)) (fun p hp => ?_) (0, σ) ⟨(inRk 0 rfl), hok⟩
  obtain ⟨v1_1, σ2⟩ := p
  obtain ⟨hv1_1, hσ2⟩ := hp
  try dsimp only
  unfold Mo_laysAside_2_b
  refine Rk.sp (G_iload_n (pc := 2) 1 rfl rfl dX9_laysAside_2) ?_
  refine Rk.sp (G_sipush (pc := 3) dX9_laysAside_3 rfl) ?_
  refine Rk.icmp_ge (pc := 6) (tgt := 27) dX9_laysAside_6 (nmI hv1_1) (nmI (inRk 548 rfl)) rfl (fun hc3 => ?_) (fun hc3 => ?_)
  · refine Rk.sp (G_aload_n (pc := 9) 0 rfl rfl dX9_laysAside_9) ?_
    refine Rk.gR (pc := 10) 176 flX9_19 cl9 rfl lb172 dX9_laysAside_10 ?_
    refine Rk.sp (G_iload_n (pc := 13) 1 rfl rfl dX9_laysAside_13) ?_
    refine Rk.sp (G_aload_n (pc := 14) 0 rfl rfl dX9_laysAside_14) ?_
    refine Rk.gR (pc := 15) 173 flX9_7 cl9 rfl lb172 dX9_laysAside_15 ?_
    refine Rk.sp (G_iload_n (pc := 18) 1 rfl rfl dX9_laysAside_18) ?_
    refine Rk.al (pc := 19) lb173 dX9_laysAside_19 (fun hi4 => ?_)
    refine Rk.as (pc := 20) hσ2 (nmI (hσ2 _ _)) lb176 dX9_laysAside_20 (fun hi6 σ5 hσ5 => ?_)
    refine Rk.inc (pc := 21) 1 (fun v1_7 => [some (vr 172), some (vi v1_7)]) rfl (Nat.le_of_ble_eq_true rfl) rfl dX9_laysAside_21 (fun _ => rfl) (fun v1_7 hv1_7 => ?_)
    refine Rk.sp (G_goto (pc := 24) (tgt := 2) dX9_laysAside_24 rfl) ?_
    exact Rk.end_ (fun h => h ⟨hv1_7, hσ5⟩)
  · refine Rk.sp (G_aload_n (pc := 27) 0 rfl rfl dX9_laysAside_27) ?_
    refine Rk.sp (G_iconst (pc := 28) dX9_laysAside_28) ?_
    refine Rk.pZ (pc := 29) hσ2 inZ0 flX9_330 cl9 rfl rfl lb172 dX9_laysAside_29 (fun σ8 hσ8 => ?_)
    refine Rk.sp (G_aload_n (pc := 32) 0 rfl rfl dX9_laysAside_32) ?_
    refine Rk.sp (G_iconst (pc := 33) dX9_laysAside_33) ?_
    refine Rk.pI (pc := 34) hσ8 (nmI (inRk (-1) rfl)) flX9_44 cl9 rfl rfl lb172 dX9_laysAside_34 (fun σ9 hσ9 => ?_)
    exact Rk.end_ (fun h => G_return (pc := 37) rfl dX9_laysAside_37 (q_V h hσ9))
theorem k_Mo_putsBack {κ : Kx} {μ : Sg} (σ : Sg) (hok : okS σ) : CtV κ mX9_putsBack 0 [vr 172] true μ σ (Mo_putsBack σ) := by
  intro τ h
  refine con_of (by decide) (Nat.le_of_ble_eq_true rfl) 1 ?_
  refine (?_ : Rk κ mX9_putsBack _ 0 [some (vr 172), none] [] (ms true μ σ) (Mo_putsBack σ) (fun a => a = τ)) _ h rfl
  unfold Mo_putsBack
  refine Rk.sp (G_iconst (pc := 0) dX9_putsBack_0) ?_
  refine Rk.isa_n (pc := 1) 1 (L' := [some (vr 172), some (vi 0)]) rfl (Nat.le_of_ble_eq_true rfl) rfl dX9_putsBack_1 rfl ?_
  refine Rk.loop (pc := 2) (B := (fun p => Mo_putsBack_2_b p.1 p.2)) (fun p => inR p.1 ∧ okS p.2) (fun p => [some (vr 172), some (vi p.1)]) (fun p => (ms true μ p.2)) (fun p hp => ?_) (0, σ) ⟨(inRk 0 rfl), hok⟩
  obtain ⟨v1_1, σ2⟩ := p
  obtain ⟨hv1_1, hσ2⟩ := hp
  try dsimp only
  unfold Mo_putsBack_2_b
  refine Rk.sp (G_iload_n (pc := 2) 1 rfl rfl dX9_putsBack_2) ?_
  refine Rk.sp (G_sipush (pc := 3) dX9_putsBack_3 rfl) ?_
  refine Rk.icmp_ge (pc := 6) (tgt := 27) dX9_putsBack_6 (nmI hv1_1) (nmI (inRk 548 rfl)) rfl (fun hc3 => ?_) (fun hc3 => ?_)
  · refine Rk.sp (G_aload_n (pc := 9) 0 rfl rfl dX9_putsBack_9) ?_
    refine Rk.gR (pc := 10) 173 flX9_7 cl9 rfl lb172 dX9_putsBack_10 ?_
    refine Rk.sp (G_iload_n (pc := 13) 1 rfl rfl dX9_putsBack_13) ?_
    refine Rk.sp (G_aload_n (pc := 14) 0 rfl rfl dX9_putsBack_14) ?_
    refine Rk.gR (pc := 15) 176 flX9_19 cl9 rfl lb172 dX9_putsBack_15 ?_
    refine Rk.sp (G_iload_n (pc := 18) 1 rfl rfl dX9_putsBack_18) ?_
    refine Rk.al (pc := 19) lb176 dX9_putsBack_19 (fun hi4 => ?_)
    refine Rk.as (pc := 20) hσ2 (nmI (hσ2 _ _)) lb173 dX9_putsBack_20 (fun hi6 σ5 hσ5 => ?_)
    refine Rk.inc (pc := 21) 1 (fun v1_7 => [some (vr 172), some (vi v1_7)]) rfl (Nat.le_of_ble_eq_true rfl) rfl dX9_putsBack_21 (fun _ => rfl) (fun v1_7 hv1_7 => ?_)
    refine Rk.sp (G_goto (pc := 24) (tgt := 2) dX9_putsBack_24 rfl) ?_
    exact Rk.end_ (fun h => h ⟨hv1_7, hσ5⟩)
  · exact Rk.end_ (fun h => G_return (pc := 27) rfl dX9_putsBack_27 (q_V h hσ2))
theorem k_Mo_deletes {κ : Kx} {μ : Sg} (a1 : Int) (a2 : Int) (a3 : Int) (σ : Sg) (ha1 : inR a1) (ha2 : inR a2) (ha3 : inR a3) (hok : okS σ) : CtI κ mX9_deletes 7 [vr 172, vi a1, vi a2, vi a3] true μ σ (Mo_deletes a1 a2 a3 σ) := by
  intro r τ h
  refine con_of (by decide) (Nat.le_of_ble_eq_true rfl) 5 ?_
  refine (?_ : Rk κ mX9_deletes _ 0 [some (vr 172), some (vi a1), some (vi a2), some (vi a3), none, none, none, none, none] [] (ms true μ σ) (Mo_deletes a1 a2 a3 σ) (fun a => a = (r, τ))) _ h rfl
  unfold Mo_deletes
  refine Rk.sp (G_iload_n (pc := 0) 1 rfl rfl dX9_deletes_0) ?_
  refine Rk.cRZ (pc := 1) (Cl.s [vi a1] [] dX9_deletes_1 ckX9_91 rfl rfl (Nat.le_of_ble_eq_true rfl) (Nat.le_of_ble_eq_true rfl)) (k_Mo_isOne a1 ha1) (fun r1 hr1 => ?_)
  refine Rk.if_eq (pc := 4) (tgt := 27) dX9_deletes_4 (nmI (inZ.R hr1)) rfl (fun hc2 => ?_) (fun hc2 => ?_)
  · refine Rk.sp (G_iconst (pc := 27) dX9_deletes_27) ?_
    exact Rk.end_ (fun h => G_ireturn (pc := 28) rfl dX9_deletes_28 (q_I h (inRk (-1) rfl) hok))
  · refine Rk.sp (G_iload_n (pc := 7) 2 rfl rfl dX9_deletes_7) ?_
    refine Rk.sp (G_iconst (pc := 8) dX9_deletes_8) ?_
    refine Rk.sp (G_sipush (pc := 9) dX9_deletes_9 rfl) ?_
    refine Rk.cRZ (pc := 12) (Cl.s [vi a2, vi 1, vi 300] [] dX9_deletes_12 ckX9_72 rfl rfl (Nat.le_of_ble_eq_true rfl) (Nat.le_of_ble_eq_true rfl)) (k_Mo_isIn a2 1 300 ha2 (inRk 1 rfl) (inRk 300 rfl)) (fun r3 hr3 => ?_)
    refine Rk.if_eq (pc := 15) (tgt := 27) dX9_deletes_15 (nmI (inZ.R hr3)) rfl (fun hc4 => ?_) (fun hc4 => ?_)
    · refine Rk.sp (G_iconst (pc := 27) dX9_deletes_27) ?_
      exact Rk.end_ (fun h => G_ireturn (pc := 28) rfl dX9_deletes_28 (q_I h (inRk (-1) rfl) hok))
    · refine Rk.sp (G_iload_n (pc := 18) 3 rfl rfl dX9_deletes_18) ?_
      refine Rk.sp (G_iconst (pc := 19) dX9_deletes_19) ?_
      refine Rk.sp (G_iconst (pc := 20) dX9_deletes_20) ?_
      refine Rk.cRZ (pc := 21) (Cl.s [vi a3, vi 0, vi 1] [] dX9_deletes_21 ckX9_72 rfl rfl (Nat.le_of_ble_eq_true rfl) (Nat.le_of_ble_eq_true rfl)) (k_Mo_isIn a3 0 1 ha3 (inRk 0 rfl) (inRk 1 rfl)) (fun r5 hr5 => ?_)
      refine Rk.if_ne (pc := 24) (tgt := 29) dX9_deletes_24 (nmI (inZ.R hr5)) rfl (fun hc6 => ?_) (fun hc6 => ?_)
      · refine Rk.sp (G_iconst (pc := 27) dX9_deletes_27) ?_
        exact Rk.end_ (fun h => G_ireturn (pc := 28) rfl dX9_deletes_28 (q_I h (inRk (-1) rfl) hok))
      · refine Rk.sp (G_aload_n (pc := 29) 0 rfl rfl dX9_deletes_29) ?_
        refine Rk.cV (pc := 30) (Cl.v [] [] dX9_deletes_30 ckX9_405 lb172 rfl rfl rfl (Nat.le_of_ble_eq_true rfl) (Nat.le_of_ble_eq_true rfl)) (k_Mo_laysAside σ hok) (fun σ7 hσ7 => ?_)
        refine Rk.sp (G_iconst (pc := 33) dX9_deletes_33) ?_
        refine Rk.isa_w (pc := 34) 4 (L' := [some (vr 172), some (vi a1), some (vi a2), some (vi a3), some (vi 0), none, none, none, none]) (Nat.le_of_ble_eq_true rfl) rfl dX9_deletes_34 rfl ?_
        refine Rk.sp (G_iconst (pc := 36) dX9_deletes_36) ?_
        refine Rk.isa_w (pc := 37) 5 (L' := [some (vr 172), some (vi a1), some (vi a2), some (vi a3), some (vi 0), some (vi 0), none, none, none]) (Nat.le_of_ble_eq_true rfl) rfl dX9_deletes_37 rfl ?_
        refine Rk.loop (pc := 39) (B := (fun p => Mo_deletes_39_b a1 a2 a3 p.1 p.2.1 p.2.2)) (fun p => inR p.1 ∧ inR p.2.1 ∧ okS p.2.2) (fun p => [some (vr 172), some (vi a1), some (vi a2), some (vi a3), some (vi p.1), some (vi p.2.1), none, none, none]) (fun p => (ms true μ p.2.2)) (fun p hp => ?_) (0, 0, σ7) ⟨(inRk 0 rfl), (inRk 0 rfl), hσ7⟩
        obtain ⟨v4_8, v5_9, σ10⟩ := p
        obtain ⟨hv4_8, hv5_9, hσ10⟩ := hp
        try dsimp only
        unfold Mo_deletes_39_b
        refine Rk.sp (G_iload_w (pc := 39) 5 rfl dX9_deletes_39) ?_
        refine Rk.sp (G_aload_n (pc := 41) 0 rfl rfl dX9_deletes_41) ?_
        refine Rk.gR (pc := 42) 173 flX9_7 cl9 rfl lb172 dX9_deletes_42 ?_
        refine Rk.sp (G_iconst (pc := 45) dX9_deletes_45) ?_
        refine Rk.alc (pc := 46) 3 rfl (Nat.le_of_ble_eq_true rfl) lb173 dX9_deletes_46 ?_
        refine Rk.sel (A := 97) (B := 56) (st' := []) ?_ ?_ ?_
        · refine Rk.icmp_ge (pc := 47) (tgt := 97) dX9_deletes_47 (nmI hv5_9) (nmI (hσ10 _ _)) rfl (fun hc11 => ?_) (fun hc11 => ?_)
          · refine Rk.sp (G_iload_w (pc := 50) 4 rfl dX9_deletes_50) ?_
            refine Rk.sp (G_iconst (pc := 52) dX9_deletes_52) ?_
            refine Rk.icmp_ge (pc := 53) (tgt := 97) dX9_deletes_53 (nmI hv4_8) (nmI (inRk 4 rfl)) rfl (fun hc12 => ?_) (fun hc12 => ?_)
            · exact Rk.end_ (fun h => h inZ0)
            · exact Rk.end_ (fun h => h inZ1)
          · exact Rk.end_ (fun h => h inZ1)
        · refine Rk.sp (G_aload_n (pc := 56) 0 rfl rfl dX9_deletes_56) ?_
          refine Rk.sp (G_iload_w (pc := 57) 5 rfl dX9_deletes_57) ?_
          refine Rk.sp (G_iconst (pc := 59) dX9_deletes_59) ?_
          refine Rk.cRI (pc := 60) (Cl.v [vi v5_9, vi 0] [] dX9_deletes_60 ckX9_76 lb172 rfl rfl rfl (Nat.le_of_ble_eq_true rfl) (Nat.le_of_ble_eq_true rfl)) (k_Mo_of0 v5_9 0 σ10 hv5_9 (inRk 0 rfl) hσ10) (fun r45 hr45 => ?_)
          refine Rk.sp (G_iload_n (pc := 63) 1 rfl rfl dX9_deletes_63) ?_
          refine Rk.icmp_ne (pc := 64) (tgt := 91) dX9_deletes_64 (nmI hr45) (nmI ha1) rfl (fun hc46 => ?_) (fun hc46 => ?_)
          · refine Rk.sp (G_aload_n (pc := 67) 0 rfl rfl dX9_deletes_67) ?_
            refine Rk.sp (G_iload_w (pc := 68) 5 rfl dX9_deletes_68) ?_
            refine Rk.cRZ (pc := 70) (Cl.v [vi v5_9] [] dX9_deletes_70 ckX9_354 lb172 rfl rfl rfl (Nat.le_of_ble_eq_true rfl) (Nat.le_of_ble_eq_true rfl)) (k_Mo_isUnread v5_9 σ10 hv5_9 hσ10) (fun r47 hr47 => ?_)
            refine Rk.if_ne (pc := 73) (tgt := 79) dX9_deletes_73 (nmI (inZ.R hr47)) rfl (fun hc48 => ?_) (fun hc48 => ?_)
            · refine Rk.sp (G_goto (pc := 76) (tgt := 91) dX9_deletes_76 rfl) ?_
              refine Rk.inc (pc := 91) 5 (fun v5_49 => [some (vr 172), some (vi a1), some (vi a2), some (vi a3), some (vi v4_8), some (vi v5_49), none, none, none]) rfl (Nat.le_of_ble_eq_true rfl) rfl dX9_deletes_91 (fun _ => rfl) (fun v5_49 hv5_49 => ?_)
              refine Rk.sp (G_goto (pc := 94) (tgt := 39) dX9_deletes_94 rfl) ?_
              exact Rk.end_ (fun h => h ⟨hv4_8, hv5_49, hσ10⟩)
            · refine Rk.sp (G_aload_n (pc := 79) 0 rfl rfl dX9_deletes_79) ?_
              refine Rk.gR (pc := 80) 183 flX9_47 cl9 rfl lb172 dX9_deletes_80 ?_
              refine Rk.sp (G_iload_w (pc := 83) 4 rfl dX9_deletes_83) ?_
              refine Rk.sp (G_iload_w (pc := 85) 5 rfl dX9_deletes_85) ?_
              refine Rk.as (pc := 87) hσ10 (nmI hv5_9) lb183 dX9_deletes_87 (fun hi51 σ50 hσ50 => ?_)
              refine Rk.inc (pc := 88) 4 (fun v4_52 => [some (vr 172), some (vi a1), some (vi a2), some (vi a3), some (vi v4_52), some (vi v5_9), none, none, none]) rfl (Nat.le_of_ble_eq_true rfl) rfl dX9_deletes_88 (fun _ => rfl) (fun v4_52 hv4_52 => ?_)
              refine Rk.inc (pc := 91) 5 (fun v5_53 => [some (vr 172), some (vi a1), some (vi a2), some (vi a3), some (vi v4_52), some (vi v5_53), none, none, none]) rfl (Nat.le_of_ble_eq_true rfl) rfl dX9_deletes_91 (fun _ => rfl) (fun v5_53 hv5_53 => ?_)
              refine Rk.sp (G_goto (pc := 94) (tgt := 39) dX9_deletes_94 rfl) ?_
              exact Rk.end_ (fun h => h ⟨hv4_52, hv5_53, hσ50⟩)
          · refine Rk.inc (pc := 91) 5 (fun v5_54 => [some (vr 172), some (vi a1), some (vi a2), some (vi a3), some (vi v4_8), some (vi v5_54), none, none, none]) rfl (Nat.le_of_ble_eq_true rfl) rfl dX9_deletes_91 (fun _ => rfl) (fun v5_54 hv5_54 => ?_)
            refine Rk.sp (G_goto (pc := 94) (tgt := 39) dX9_deletes_94 rfl) ?_
            exact Rk.end_ (fun h => h ⟨hv4_8, hv5_54, hσ10⟩)
        · refine Rk.sp (G_iconst (pc := 97) dX9_deletes_97) ?_
          refine Rk.isa_w (pc := 98) 5 (L' := [some (vr 172), some (vi a1), some (vi a2), some (vi a3), some (vi v4_8), some (vi (-1)), none, none, none]) (Nat.le_of_ble_eq_true rfl) rfl dX9_deletes_98 rfl ?_
          refine Rk.sp (G_ldcw (pc := 100) (n := 100000000) dX9_deletes_100 conX9_414 (by decide)) ?_
          refine Rk.isa_w (pc := 103) 6 (L' := [some (vr 172), some (vi a1), some (vi a2), some (vi a3), some (vi v4_8), some (vi (-1)), some (vi 100000000), none, none]) (Nat.le_of_ble_eq_true rfl) rfl dX9_deletes_103 rfl ?_
          refine Rk.sp (G_iconst (pc := 105) dX9_deletes_105) ?_
          refine Rk.isa_w (pc := 106) 7 (L' := [some (vr 172), some (vi a1), some (vi a2), some (vi a3), some (vi v4_8), some (vi (-1)), some (vi 100000000), some (vi 0), none]) (Nat.le_of_ble_eq_true rfl) rfl dX9_deletes_106 rfl ?_
          refine Rk.loop (pc := 108) (B := (fun p => Mo_deletes_108_b v4_8 a2 a1 a3 p.1 p.2.1 p.2.2.1 p.2.2.2)) (fun p => inR p.1 ∧ inR p.2.1 ∧ inR p.2.2.1 ∧ okS p.2.2.2) (fun p => [some (vr 172), some (vi a1), some (vi a2), some (vi a3), some (vi v4_8), some (vi p.1), some (vi p.2.1), some (vi p.2.2.1), none]) (fun p => (ms true μ p.2.2.2)) (fun p hp => ?_) ((-1), 100000000, 0, σ10) ⟨(inRk (-1) rfl), (inRk 100000000 rfl), (inRk 0 rfl), hσ10⟩
          obtain ⟨v5_13, v6_14, v7_15, σ16⟩ := p
          obtain ⟨hv5_13, hv6_14, hv7_15, hσ16⟩ := hp
          try dsimp only
          unfold Mo_deletes_108_b
          refine Rk.sp (G_iload_w (pc := 108) 7 rfl dX9_deletes_108) ?_
          refine Rk.sp (G_iconst (pc := 110) dX9_deletes_110) ?_
          refine Rk.sp (G_iload_w (pc := 111) 4 rfl dX9_deletes_111) ?_
          refine Rk.sp (G_ishl (pc := 113) dX9_deletes_113) ?_
          refine Rk.icmp_ge (pc := 114) (tgt := 237) dX9_deletes_114 (nmI hv7_15) (nmI (bShl_R _ _)) rfl (fun hc17 => ?_) (fun hc17 => ?_)
          · refine Rk.sp (G_iconst (pc := 117) dX9_deletes_117) ?_
            refine Rk.isa_w (pc := 118) 8 (L' := [some (vr 172), some (vi a1), some (vi a2), some (vi a3), some (vi v4_8), some (vi v5_13), some (vi v6_14), some (vi v7_15), some (vi 0)]) (Nat.le_of_ble_eq_true rfl) rfl dX9_deletes_118 rfl ?_
            refine Rk.loop (pc := 120) (B := (fun p => Mo_deletes_120_b v4_8 v7_15 a2 a1 v6_14 v5_13 p.1 p.2)) (fun p => inR p.1 ∧ okS p.2) (fun p => [some (vr 172), some (vi a1), some (vi a2), some (vi a3), some (vi v4_8), some (vi v5_13), some (vi v6_14), some (vi v7_15), some (vi p.1)]) (fun p => (ms true μ p.2)) (fun p hp => ?_) (0, σ16) ⟨(inRk 0 rfl), hσ16⟩
            obtain ⟨v8_18, σ19⟩ := p
            obtain ⟨hv8_18, hσ19⟩ := hp
            try dsimp only
            unfold Mo_deletes_120_b
            refine Rk.sp (G_iload_w (pc := 120) 8 rfl dX9_deletes_120) ?_
            refine Rk.sp (G_iload_w (pc := 122) 4 rfl dX9_deletes_122) ?_
            refine Rk.icmp_ge (pc := 124) (tgt := 153) dX9_deletes_124 (nmI hv8_18) (nmI hv4_8) rfl (fun hc20 => ?_) (fun hc20 => ?_)
            · refine Rk.sp (G_aload_n (pc := 127) 0 rfl rfl dX9_deletes_127) ?_
              refine Rk.sp (G_aload_n (pc := 128) 0 rfl rfl dX9_deletes_128) ?_
              refine Rk.gR (pc := 129) 183 flX9_47 cl9 rfl lb172 dX9_deletes_129 ?_
              refine Rk.sp (G_iload_w (pc := 132) 8 rfl dX9_deletes_132) ?_
              refine Rk.al (pc := 134) lb183 dX9_deletes_134 (fun hi21 => ?_)
              refine Rk.sp (G_bipush (pc := 135) dX9_deletes_135 rfl) ?_
              refine Rk.sp (G_iload_w (pc := 137) 7 rfl dX9_deletes_137) ?_
              refine Rk.sp (G_iload_w (pc := 139) 8 rfl dX9_deletes_139) ?_
              refine Rk.sp (G_ishr (pc := 141) dX9_deletes_141) ?_
              refine Rk.sp (G_iconst (pc := 142) dX9_deletes_142) ?_
              refine Rk.sp (G_iand (pc := 143) dX9_deletes_143) ?_
              refine Rk.cV (pc := 144) (Cl.v [vi (σ19 183 (v8_18).toNat), vi 7, vi (bAnd (bShr v7_15 v8_18) 1)] [] dX9_deletes_144 ckX9_334 lb172 rfl rfl rfl (Nat.le_of_ble_eq_true rfl) (Nat.le_of_ble_eq_true rfl)) (k_Mo_puts0 (σ19 183 (v8_18).toNat) 7 (bAnd (bShr v7_15 v8_18) 1) σ19 (hσ19 _ _) (inRk 7 rfl) (bAnd_R _ _) hσ19) (fun σ22 hσ22 => ?_)
              refine Rk.inc (pc := 147) 8 (fun v8_23 => [some (vr 172), some (vi a1), some (vi a2), some (vi a3), some (vi v4_8), some (vi v5_13), some (vi v6_14), some (vi v7_15), some (vi v8_23)]) rfl (Nat.le_of_ble_eq_true rfl) rfl dX9_deletes_147 (fun _ => rfl) (fun v8_23 hv8_23 => ?_)
              refine Rk.sp (G_goto (pc := 150) (tgt := 120) dX9_deletes_150 rfl) ?_
              exact Rk.end_ (fun h => h ⟨hv8_23, hσ22⟩)
            · refine Rk.sp (G_iconst (pc := 153) dX9_deletes_153) ?_
              refine Rk.isa_w (pc := 154) 8 (L' := [some (vr 172), some (vi a1), some (vi a2), some (vi a3), some (vi v4_8), some (vi v5_13), some (vi v6_14), some (vi v7_15), some (vi 0)]) (Nat.le_of_ble_eq_true rfl) rfl dX9_deletes_154 rfl ?_
              refine Rk.loop (pc := 156) (B := (fun p => Mo_deletes_156_b a2 a1 v6_14 v7_15 v5_13 p.1 p.2)) (fun p => inR p.1 ∧ okS p.2) (fun p => [some (vr 172), some (vi a1), some (vi a2), some (vi a3), some (vi v4_8), some (vi v5_13), some (vi v6_14), some (vi v7_15), some (vi p.1)]) (fun p => (ms true μ p.2)) (fun p hp => ?_) (0, σ19) ⟨(inRk 0 rfl), hσ19⟩
              obtain ⟨v8_24, σ25⟩ := p
              obtain ⟨hv8_24, hσ25⟩ := hp
              try dsimp only
              unfold Mo_deletes_156_b
              refine Rk.sp (G_iload_w (pc := 156) 8 rfl dX9_deletes_156) ?_
              refine Rk.sp (G_iload_n (pc := 158) 2 rfl rfl dX9_deletes_158) ?_
              refine Rk.icmp_ge (pc := 159) (tgt := 173) dX9_deletes_159 (nmI hv8_24) (nmI ha2) rfl (fun hc26 => ?_) (fun hc26 => ?_)
              · refine Rk.sp (G_aload_n (pc := 162) 0 rfl rfl dX9_deletes_162) ?_
                refine Rk.cI (pc := 163) (Cl.v [] [] dX9_deletes_163 ckX9_402 lb172 rfl rfl rfl (Nat.le_of_ble_eq_true rfl) (Nat.le_of_ble_eq_true rfl)) (k_Mo_aMinute σ25 hσ25) (fun r27 σ28 hr27 hσ28 => ?_)
                refine Rk.sp (G_pop (pc := 166) dX9_deletes_166 (fun _ h => by cases h)) ?_
                refine Rk.inc (pc := 167) 8 (fun v8_29 => [some (vr 172), some (vi a1), some (vi a2), some (vi a3), some (vi v4_8), some (vi v5_13), some (vi v6_14), some (vi v7_15), some (vi v8_29)]) rfl (Nat.le_of_ble_eq_true rfl) rfl dX9_deletes_167 (fun _ => rfl) (fun v8_29 hv8_29 => ?_)
                refine Rk.sp (G_goto (pc := 170) (tgt := 156) dX9_deletes_170 rfl) ?_
                exact Rk.end_ (fun h => h ⟨hv8_29, hσ28⟩)
              · refine Rk.sp (G_aload_n (pc := 173) 0 rfl rfl dX9_deletes_173) ?_
                refine Rk.gR (pc := 174) 173 flX9_7 cl9 rfl lb172 dX9_deletes_174 ?_
                refine Rk.sp (G_iconst (pc := 177) dX9_deletes_177) ?_
                refine Rk.sp (G_iload_n (pc := 178) 1 rfl rfl dX9_deletes_178) ?_
                refine Rk.sp (G_isub (pc := 179) dX9_deletes_179) ?_
                refine Rk.al (pc := 180) lb173 dX9_deletes_180 (fun hi30 => ?_)
                refine Rk.ist_w (pc := 181) 8 (fun v8_31 => [some (vr 172), some (vi a1), some (vi a2), some (vi a3), some (vi v4_8), some (vi v5_13), some (vi v6_14), some (vi v7_15), some (vi v8_31)]) (Nat.le_of_ble_eq_true rfl) rfl dX9_deletes_181 (nmI (hσ25 _ _)) (fun _ => rfl) (fun v8_31 hv8_31 => ?_)
                refine Rk.sp (G_aload_n (pc := 183) 0 rfl rfl dX9_deletes_183) ?_
                refine Rk.cV (pc := 184) (Cl.v [] [] dX9_deletes_184 ckX9_411 lb172 rfl rfl rfl (Nat.le_of_ble_eq_true rfl) (Nat.le_of_ble_eq_true rfl)) (k_Mo_putsBack σ25 hσ25) (fun σ32 hσ32 => ?_)
                refine Rk.sp (G_iload_w (pc := 187) 8 rfl dX9_deletes_187) ?_
                refine Rk.sp (G_iload_w (pc := 189) 6 rfl dX9_deletes_189) ?_
                refine Rk.icmp_gt (pc := 191) (tgt := 231) dX9_deletes_191 (nmI hv8_31) (nmI hv6_14) rfl (fun hc33 => ?_) (fun hc33 => ?_)
                · refine Rk.inc (pc := 231) 7 (fun v7_34 => [some (vr 172), some (vi a1), some (vi a2), some (vi a3), some (vi v4_8), some (vi v5_13), some (vi v6_14), some (vi v7_34), some (vi v8_31)]) rfl (Nat.le_of_ble_eq_true rfl) rfl dX9_deletes_231 (fun _ => rfl) (fun v7_34 hv7_34 => ?_)
                  refine Rk.sp (G_goto (pc := 234) (tgt := 108) dX9_deletes_234 rfl) ?_
                  refine Rk.fg [true, true, true, true, true, true, true, true, false] (L' := [some (vr 172), some (vi a1), some (vi a2), some (vi a3), some (vi v4_8), some (vi v5_13), some (vi v6_14), some (vi v7_34), none]) rfl ?_
                  exact Rk.end_ (fun h => h ⟨hv5_13, hv6_14, hv7_34, hσ32⟩)
                · refine Rk.sp (G_iload_w (pc := 194) 8 rfl dX9_deletes_194) ?_
                  refine Rk.sp (G_iload_w (pc := 196) 6 rfl dX9_deletes_196) ?_
                  refine Rk.icmp_ne (pc := 198) (tgt := 223) dX9_deletes_198 (nmI hv8_31) (nmI hv6_14) rfl (fun hc35 => ?_) (fun hc35 => ?_)
                  · refine Rk.sp (G_iload_w (pc := 201) 5 rfl dX9_deletes_201) ?_
                    refine Rk.sp (G_iconst (pc := 203) dX9_deletes_203) ?_
                    refine Rk.icmp_eq (pc := 204) (tgt := 223) dX9_deletes_204 (nmI hv5_13) (nmI (inRk (-1) rfl)) rfl (fun hc36 => ?_) (fun hc36 => ?_)
                    · refine Rk.sp (G_iload_w (pc := 223) 8 rfl dX9_deletes_223) ?_
                      refine Rk.isa_w (pc := 225) 6 (L' := [some (vr 172), some (vi a1), some (vi a2), some (vi a3), some (vi v4_8), some (vi v5_13), some (vi v8_31), some (vi v7_15), some (vi v8_31)]) (Nat.le_of_ble_eq_true rfl) rfl dX9_deletes_225 rfl ?_
                      refine Rk.sp (G_iload_w (pc := 227) 7 rfl dX9_deletes_227) ?_
                      refine Rk.isa_w (pc := 229) 5 (L' := [some (vr 172), some (vi a1), some (vi a2), some (vi a3), some (vi v4_8), some (vi v7_15), some (vi v8_31), some (vi v7_15), some (vi v8_31)]) (Nat.le_of_ble_eq_true rfl) rfl dX9_deletes_229 rfl ?_
                      refine Rk.inc (pc := 231) 7 (fun v7_37 => [some (vr 172), some (vi a1), some (vi a2), some (vi a3), some (vi v4_8), some (vi v7_15), some (vi v8_31), some (vi v7_37), some (vi v8_31)]) rfl (Nat.le_of_ble_eq_true rfl) rfl dX9_deletes_231 (fun _ => rfl) (fun v7_37 hv7_37 => ?_)
                      refine Rk.sp (G_goto (pc := 234) (tgt := 108) dX9_deletes_234 rfl) ?_
                      refine Rk.fg [true, true, true, true, true, true, true, true, false] (L' := [some (vr 172), some (vi a1), some (vi a2), some (vi a3), some (vi v4_8), some (vi v7_15), some (vi v8_31), some (vi v7_37), none]) rfl ?_
                      exact Rk.end_ (fun h => h ⟨hv7_15, hv8_31, hv7_37, hσ32⟩)
                    · refine Rk.sp (G_iload_w (pc := 207) 7 rfl dX9_deletes_207) ?_
                      refine Rk.cRI (pc := 209) (Cl.s [vi v7_15] [] dX9_deletes_209 ckX9_415 rfl rfl (Nat.le_of_ble_eq_true rfl) (Nat.le_of_ble_eq_true rfl)) (k_Mo_count v7_15 hv7_15) (fun r38 hr38 => ?_)
                      refine Rk.sp (G_iload_w (pc := 212) 5 rfl dX9_deletes_212) ?_
                      refine Rk.cRI (pc := 214) (Cl.s [vi v5_13] [vi r38] dX9_deletes_214 ckX9_415 rfl rfl (Nat.le_of_ble_eq_true rfl) (Nat.le_of_ble_eq_true rfl)) (k_Mo_count v5_13 hv5_13) (fun r39 hr39 => ?_)
                      refine Rk.icmp_lt (pc := 217) (tgt := 223) dX9_deletes_217 (nmI hr38) (nmI hr39) rfl (fun hc40 => ?_) (fun hc40 => ?_)
                      · refine Rk.sp (G_iload_w (pc := 223) 8 rfl dX9_deletes_223) ?_
                        refine Rk.isa_w (pc := 225) 6 (L' := [some (vr 172), some (vi a1), some (vi a2), some (vi a3), some (vi v4_8), some (vi v5_13), some (vi v8_31), some (vi v7_15), some (vi v8_31)]) (Nat.le_of_ble_eq_true rfl) rfl dX9_deletes_225 rfl ?_
                        refine Rk.sp (G_iload_w (pc := 227) 7 rfl dX9_deletes_227) ?_
                        refine Rk.isa_w (pc := 229) 5 (L' := [some (vr 172), some (vi a1), some (vi a2), some (vi a3), some (vi v4_8), some (vi v7_15), some (vi v8_31), some (vi v7_15), some (vi v8_31)]) (Nat.le_of_ble_eq_true rfl) rfl dX9_deletes_229 rfl ?_
                        refine Rk.inc (pc := 231) 7 (fun v7_41 => [some (vr 172), some (vi a1), some (vi a2), some (vi a3), some (vi v4_8), some (vi v7_15), some (vi v8_31), some (vi v7_41), some (vi v8_31)]) rfl (Nat.le_of_ble_eq_true rfl) rfl dX9_deletes_231 (fun _ => rfl) (fun v7_41 hv7_41 => ?_)
                        refine Rk.sp (G_goto (pc := 234) (tgt := 108) dX9_deletes_234 rfl) ?_
                        refine Rk.fg [true, true, true, true, true, true, true, true, false] (L' := [some (vr 172), some (vi a1), some (vi a2), some (vi a3), some (vi v4_8), some (vi v7_15), some (vi v8_31), some (vi v7_41), none]) rfl ?_
                        exact Rk.end_ (fun h => h ⟨hv7_15, hv8_31, hv7_41, hσ32⟩)
                      · refine Rk.sp (G_goto (pc := 220) (tgt := 231) dX9_deletes_220 rfl) ?_
                        refine Rk.inc (pc := 231) 7 (fun v7_42 => [some (vr 172), some (vi a1), some (vi a2), some (vi a3), some (vi v4_8), some (vi v5_13), some (vi v6_14), some (vi v7_42), some (vi v8_31)]) rfl (Nat.le_of_ble_eq_true rfl) rfl dX9_deletes_231 (fun _ => rfl) (fun v7_42 hv7_42 => ?_)
                        refine Rk.sp (G_goto (pc := 234) (tgt := 108) dX9_deletes_234 rfl) ?_
                        refine Rk.fg [true, true, true, true, true, true, true, true, false] (L' := [some (vr 172), some (vi a1), some (vi a2), some (vi a3), some (vi v4_8), some (vi v5_13), some (vi v6_14), some (vi v7_42), none]) rfl ?_
                        exact Rk.end_ (fun h => h ⟨hv5_13, hv6_14, hv7_42, hσ32⟩)
                  · refine Rk.sp (G_iload_w (pc := 223) 8 rfl dX9_deletes_223) ?_
                    refine Rk.isa_w (pc := 225) 6 (L' := [some (vr 172), some (vi a1), some (vi a2), some (vi a3), some (vi v4_8), some (vi v5_13), some (vi v8_31), some (vi v7_15), some (vi v8_31)]) (Nat.le_of_ble_eq_true rfl) rfl dX9_deletes_225 rfl ?_
                    refine Rk.sp (G_iload_w (pc := 227) 7 rfl dX9_deletes_227) ?_
                    refine Rk.isa_w (pc := 229) 5 (L' := [some (vr 172), some (vi a1), some (vi a2), some (vi a3), some (vi v4_8), some (vi v7_15), some (vi v8_31), some (vi v7_15), some (vi v8_31)]) (Nat.le_of_ble_eq_true rfl) rfl dX9_deletes_229 rfl ?_
                    refine Rk.inc (pc := 231) 7 (fun v7_43 => [some (vr 172), some (vi a1), some (vi a2), some (vi a3), some (vi v4_8), some (vi v7_15), some (vi v8_31), some (vi v7_43), some (vi v8_31)]) rfl (Nat.le_of_ble_eq_true rfl) rfl dX9_deletes_231 (fun _ => rfl) (fun v7_43 hv7_43 => ?_)
                    refine Rk.sp (G_goto (pc := 234) (tgt := 108) dX9_deletes_234 rfl) ?_
                    refine Rk.fg [true, true, true, true, true, true, true, true, false] (L' := [some (vr 172), some (vi a1), some (vi a2), some (vi a3), some (vi v4_8), some (vi v7_15), some (vi v8_31), some (vi v7_43), none]) rfl ?_
                    exact Rk.end_ (fun h => h ⟨hv7_15, hv8_31, hv7_43, hσ32⟩)
          · refine Rk.sp (G_iload_n (pc := 237) 3 rfl rfl dX9_deletes_237) ?_
            refine Rk.if_ne (pc := 238) (tgt := 246) dX9_deletes_238 (nmI ha3) rfl (fun hc44 => ?_) (fun hc44 => ?_)
            · refine Rk.sp (G_iload_w (pc := 241) 6 rfl dX9_deletes_241) ?_
              refine Rk.sp (G_goto (pc := 243) (tgt := 248) dX9_deletes_243 rfl) ?_
              exact Rk.end_ (fun h => G_ireturn (pc := 248) rfl dX9_deletes_248 (q_I h hv6_14 hσ16))
            · refine Rk.sp (G_iload_w (pc := 246) 5 rfl dX9_deletes_246) ?_
              exact Rk.end_ (fun h => G_ireturn (pc := 248) rfl dX9_deletes_248 (q_I h hv5_13 hσ16))
theorem k_Mo_drift {κ : Kx} {μ : Sg} (a1 : Int) (a2 : Int) (σ : Sg) (ha1 : inR a1) (ha2 : inR a2) (hok : okS σ) : CtI κ mX9_drift 2 [vr 172, vi a1, vi a2] true μ σ (Mo_drift a1 a2 σ) := by
  intro r τ h
  refine con_of (by decide) (Nat.le_of_ble_eq_true rfl) 5 ?_
  refine (?_ : Rk κ mX9_drift _ 0 [some (vr 172), some (vi a1), some (vi a2), none, none, none, none, none] [] (ms true μ σ) (Mo_drift a1 a2 σ) (fun a => a = (r, τ))) _ h rfl
  unfold Mo_drift
  refine Rk.sp (G_iload_n (pc := 0) 1 rfl rfl dX9_drift_0) ?_
  refine Rk.cRZ (pc := 1) (Cl.s [vi a1] [] dX9_drift_1 ckX9_91 rfl rfl (Nat.le_of_ble_eq_true rfl) (Nat.le_of_ble_eq_true rfl)) (k_Mo_isOne a1 ha1) (fun r1 hr1 => ?_)
  refine Rk.if_eq (pc := 4) (tgt := 16) dX9_drift_4 (nmI (inZ.R hr1)) rfl (fun hc2 => ?_) (fun hc2 => ?_)
  · refine Rk.sp (G_bipush (pc := 16) dX9_drift_16 rfl) ?_
    exact Rk.end_ (fun h => G_ireturn (pc := 18) rfl dX9_drift_18 (q_I h (inRk (-100) rfl) hok))
  · refine Rk.sp (G_iload_n (pc := 7) 2 rfl rfl dX9_drift_7) ?_
    refine Rk.sp (G_iconst (pc := 8) dX9_drift_8) ?_
    refine Rk.sp (G_iconst (pc := 9) dX9_drift_9) ?_
    refine Rk.cRZ (pc := 10) (Cl.s [vi a2, vi 0, vi 1] [] dX9_drift_10 ckX9_72 rfl rfl (Nat.le_of_ble_eq_true rfl) (Nat.le_of_ble_eq_true rfl)) (k_Mo_isIn a2 0 1 ha2 (inRk 0 rfl) (inRk 1 rfl)) (fun r3 hr3 => ?_)
    refine Rk.if_ne (pc := 13) (tgt := 19) dX9_drift_13 (nmI (inZ.R hr3)) rfl (fun hc4 => ?_) (fun hc4 => ?_)
    · refine Rk.sp (G_bipush (pc := 16) dX9_drift_16 rfl) ?_
      exact Rk.end_ (fun h => G_ireturn (pc := 18) rfl dX9_drift_18 (q_I h (inRk (-100) rfl) hok))
    · refine Rk.sp (G_iconst (pc := 19) dX9_drift_19) ?_
      refine Rk.isa_n (pc := 20) 3 (L' := [some (vr 172), some (vi a1), some (vi a2), some (vi 0), none, none, none, none]) rfl (Nat.le_of_ble_eq_true rfl) rfl dX9_drift_20 rfl ?_
      refine Rk.sp (G_iconst (pc := 21) dX9_drift_21) ?_
      refine Rk.isa_w (pc := 22) 4 (L' := [some (vr 172), some (vi a1), some (vi a2), some (vi 0), some (vi 0), none, none, none]) (Nat.le_of_ble_eq_true rfl) rfl dX9_drift_22 rfl ?_
      refine Rk.sp (G_iconst (pc := 24) dX9_drift_24) ?_
      refine Rk.isa_w (pc := 25) 5 (L' := [some (vr 172), some (vi a1), some (vi a2), some (vi 0), some (vi 0), some (vi (-1)), none, none]) (Nat.le_of_ble_eq_true rfl) rfl dX9_drift_25 rfl ?_
      refine Rk.sp (G_iconst (pc := 27) dX9_drift_27) ?_
      refine Rk.isa_w (pc := 28) 6 (L' := [some (vr 172), some (vi a1), some (vi a2), some (vi 0), some (vi 0), some (vi (-1)), some (vi 0), none]) (Nat.le_of_ble_eq_true rfl) rfl dX9_drift_28 rfl ?_
      refine Rk.loop (pc := 30) (B := (fun p => Mo_drift_30_b a1 a2 p.1 p.2.1 p.2.2.1 p.2.2.2.1 p.2.2.2.2)) (fun p => inR p.1 ∧ inR p.2.1 ∧ inR p.2.2.1 ∧ inR p.2.2.2.1 ∧ okS p.2.2.2.2) (fun p => [some (vr 172), some (vi a1), some (vi a2), some (vi p.1), some (vi p.2.1), some (vi p.2.2.1), some (vi p.2.2.2.1), none]) (fun p => (ms true μ p.2.2.2.2)) (fun p hp => ?_) (0, 0, (-1), 0, σ) ⟨(inRk 0 rfl), (inRk 0 rfl), (inRk (-1) rfl), (inRk 0 rfl), hok⟩
      obtain ⟨v3_5, v4_6, v5_7, v6_8, σ9⟩ := p
      obtain ⟨hv3_5, hv4_6, hv5_7, hv6_8, hσ9⟩ := hp
      try dsimp only
      unfold Mo_drift_30_b
      refine Rk.sp (G_iload_w (pc := 30) 6 rfl dX9_drift_30) ?_
      refine Rk.sp (G_aload_n (pc := 32) 0 rfl rfl dX9_drift_32) ?_
      refine Rk.gR (pc := 33) 173 flX9_7 cl9 rfl lb172 dX9_drift_33 ?_
      refine Rk.sp (G_iconst (pc := 36) dX9_drift_36) ?_
      refine Rk.alc (pc := 37) 3 rfl (Nat.le_of_ble_eq_true rfl) lb173 dX9_drift_37 ?_
      refine Rk.icmp_ge (pc := 38) (tgt := 222) dX9_drift_38 (nmI hv6_8) (nmI (hσ9 _ _)) rfl (fun hc10 => ?_) (fun hc10 => ?_)
      · refine Rk.sp (G_aload_n (pc := 41) 0 rfl rfl dX9_drift_41) ?_
        refine Rk.gR (pc := 42) 185 flX9_53 cl9 rfl lb172 dX9_drift_42 ?_
        refine Rk.sp (G_iload_w (pc := 45) 6 rfl dX9_drift_45) ?_
        refine Rk.sp (G_iconst (pc := 47) dX9_drift_47) ?_
        refine Rk.as (pc := 48) hσ9 (nmI (inRk 0 rfl)) lb185 dX9_drift_48 (fun hi12 σ11 hσ11 => ?_)
        refine Rk.sp (G_aload_n (pc := 49) 0 rfl rfl dX9_drift_49) ?_
        refine Rk.sp (G_iload_w (pc := 50) 6 rfl dX9_drift_50) ?_
        refine Rk.sp (G_iconst (pc := 52) dX9_drift_52) ?_
        refine Rk.cRI (pc := 53) (Cl.v [vi v6_8, vi 0] [] dX9_drift_53 ckX9_76 lb172 rfl rfl rfl (Nat.le_of_ble_eq_true rfl) (Nat.le_of_ble_eq_true rfl)) (k_Mo_of0 v6_8 0 σ11 hv6_8 (inRk 0 rfl) hσ11) (fun r13 hr13 => ?_)
        refine Rk.sp (G_iload_n (pc := 56) 1 rfl rfl dX9_drift_56) ?_
        refine Rk.icmp_ne (pc := 57) (tgt := 216) dX9_drift_57 (nmI hr13) (nmI ha1) rfl (fun hc14 => ?_) (fun hc14 => ?_)
        · refine Rk.sp (G_aload_n (pc := 60) 0 rfl rfl dX9_drift_60) ?_
          refine Rk.sp (G_iload_w (pc := 61) 6 rfl dX9_drift_61) ?_
          refine Rk.cRZ (pc := 63) (Cl.v [vi v6_8] [] dX9_drift_63 ckX9_79 lb172 rfl rfl rfl (Nat.le_of_ble_eq_true rfl) (Nat.le_of_ble_eq_true rfl)) (k_Mo_isBack v6_8 σ11 hv6_8 hσ11) (fun r15 hr15 => ?_)
          refine Rk.if_eq (pc := 66) (tgt := 72) dX9_drift_66 (nmI (inZ.R hr15)) rfl (fun hc16 => ?_) (fun hc16 => ?_)
          · refine Rk.sp (G_aload_n (pc := 72) 0 rfl rfl dX9_drift_72) ?_
            refine Rk.gR (pc := 73) 185 flX9_53 cl9 rfl lb172 dX9_drift_73 ?_
            refine Rk.sp (G_iload_w (pc := 76) 6 rfl dX9_drift_76) ?_
            refine Rk.sp (G_iconst (pc := 78) dX9_drift_78) ?_
            refine Rk.as (pc := 79) hσ11 (nmI (inRk 1 rfl)) lb185 dX9_drift_79 (fun hi18 σ17 hσ17 => ?_)
            refine Rk.sp (G_iconst (pc := 80) dX9_drift_80) ?_
            refine Rk.isa_w (pc := 81) 7 (L' := [some (vr 172), some (vi a1), some (vi a2), some (vi v3_5), some (vi v4_6), some (vi v5_7), some (vi v6_8), some (vi 0)]) (Nat.le_of_ble_eq_true rfl) rfl dX9_drift_81 rfl ?_
            refine Rk.loop (pc := 83) (B := (fun p => Mo_drift_83_b v6_8 v3_5 v5_7 v4_6 p.1 p.2)) (fun p => inR p.1 ∧ okS p.2) (fun p => [some (vr 172), some (vi a1), some (vi a2), some (vi v3_5), some (vi v4_6), some (vi v5_7), some (vi v6_8), some (vi p.1)]) (fun p => (ms true μ p.2)) (fun p hp => ?_) (0, σ17) ⟨(inRk 0 rfl), hσ17⟩
            obtain ⟨v7_19, σ20⟩ := p
            obtain ⟨hv7_19, hσ20⟩ := hp
            try dsimp only
            unfold Mo_drift_83_b
            refine Rk.sp (G_iload_w (pc := 83) 7 rfl dX9_drift_83) ?_
            refine Rk.sp (G_iload_w (pc := 85) 6 rfl dX9_drift_85) ?_
            refine Rk.icmp_ge (pc := 87) (tgt := 149) dX9_drift_87 (nmI hv7_19) (nmI hv6_8) rfl (fun hc21 => ?_) (fun hc21 => ?_)
            · refine Rk.sp (G_aload_n (pc := 90) 0 rfl rfl dX9_drift_90) ?_
              refine Rk.gR (pc := 91) 185 flX9_53 cl9 rfl lb172 dX9_drift_91 ?_
              refine Rk.sp (G_iload_w (pc := 94) 7 rfl dX9_drift_94) ?_
              refine Rk.al (pc := 96) lb185 dX9_drift_96 (fun hi22 => ?_)
              refine Rk.if_le (pc := 97) (tgt := 143) dX9_drift_97 (nmI (hσ20 _ _)) rfl (fun hc23 => ?_) (fun hc23 => ?_)
              · refine Rk.sp (G_aload_n (pc := 100) 0 rfl rfl dX9_drift_100) ?_
                refine Rk.sp (G_iload_w (pc := 101) 7 rfl dX9_drift_101) ?_
                refine Rk.sp (G_iconst (pc := 103) dX9_drift_103) ?_
                refine Rk.cRI (pc := 104) (Cl.v [vi v7_19, vi 4] [] dX9_drift_104 ckX9_76 lb172 rfl rfl rfl (Nat.le_of_ble_eq_true rfl) (Nat.le_of_ble_eq_true rfl)) (k_Mo_of0 v7_19 4 σ20 hv7_19 (inRk 4 rfl) hσ20) (fun r24 hr24 => ?_)
                refine Rk.sp (G_aload_n (pc := 107) 0 rfl rfl dX9_drift_107) ?_
                refine Rk.sp (G_iload_w (pc := 108) 6 rfl dX9_drift_108) ?_
                refine Rk.sp (G_iconst (pc := 110) dX9_drift_110) ?_
                refine Rk.cRI (pc := 111) (Cl.v [vi v6_8, vi 4] [vi r24] dX9_drift_111 ckX9_76 lb172 rfl rfl rfl (Nat.le_of_ble_eq_true rfl) (Nat.le_of_ble_eq_true rfl)) (k_Mo_of0 v6_8 4 σ20 hv6_8 (inRk 4 rfl) hσ20) (fun r25 hr25 => ?_)
                refine Rk.icmp_le (pc := 114) (tgt := 143) dX9_drift_114 (nmI hr24) (nmI hr25) rfl (fun hc26 => ?_) (fun hc26 => ?_)
                · refine Rk.sp (G_aload_n (pc := 117) 0 rfl rfl dX9_drift_117) ?_
                  refine Rk.gR (pc := 118) 185 flX9_53 cl9 rfl lb172 dX9_drift_118 ?_
                  refine Rk.sp (G_iload_w (pc := 121) 6 rfl dX9_drift_121) ?_
                  refine Rk.sp (G_aload_n (pc := 123) 0 rfl rfl dX9_drift_123) ?_
                  refine Rk.gR (pc := 124) 185 flX9_53 cl9 rfl lb172 dX9_drift_124 ?_
                  refine Rk.sp (G_iload_w (pc := 127) 6 rfl dX9_drift_127) ?_
                  refine Rk.al (pc := 129) lb185 dX9_drift_129 (fun hi27 => ?_)
                  refine Rk.sp (G_aload_n (pc := 130) 0 rfl rfl dX9_drift_130) ?_
                  refine Rk.gR (pc := 131) 185 flX9_53 cl9 rfl lb172 dX9_drift_131 ?_
                  refine Rk.sp (G_iload_w (pc := 134) 7 rfl dX9_drift_134) ?_
                  refine Rk.al (pc := 136) lb185 dX9_drift_136 (fun hi28 => ?_)
                  refine Rk.sp (G_iconst (pc := 137) dX9_drift_137) ?_
                  refine Rk.sp (G_iadd (pc := 138) dX9_drift_138) ?_
                  refine Rk.sp (Go.n0 (nmW _)) ?_
                  refine Rk.cRI (pc := 139) (Cl.s [vi (σ20 185 (v6_8).toNat), vi (wr ((σ20 185 (v7_19).toNat) + 1))] [vi v6_8, vr 185] dX9_drift_139 ckX9_69 rfl rfl (Nat.le_of_ble_eq_true rfl) (Nat.le_of_ble_eq_true rfl)) (k_Mo_greater (σ20 185 (v6_8).toNat) (wr ((σ20 185 (v7_19).toNat) + 1)) (hσ20 _ _) (wrR _)) (fun r29 hr29 => ?_)
                  refine Rk.as (pc := 142) hσ20 (nmI hr29) lb185 dX9_drift_142 (fun hi31 σ30 hσ30 => ?_)
                  refine Rk.inc (pc := 143) 7 (fun v7_32 => [some (vr 172), some (vi a1), some (vi a2), some (vi v3_5), some (vi v4_6), some (vi v5_7), some (vi v6_8), some (vi v7_32)]) rfl (Nat.le_of_ble_eq_true rfl) rfl dX9_drift_143 (fun _ => rfl) (fun v7_32 hv7_32 => ?_)
                  refine Rk.sp (G_goto (pc := 146) (tgt := 83) dX9_drift_146 rfl) ?_
                  exact Rk.end_ (fun h => h ⟨hv7_32, hσ30⟩)
                · refine Rk.inc (pc := 143) 7 (fun v7_33 => [some (vr 172), some (vi a1), some (vi a2), some (vi v3_5), some (vi v4_6), some (vi v5_7), some (vi v6_8), some (vi v7_33)]) rfl (Nat.le_of_ble_eq_true rfl) rfl dX9_drift_143 (fun _ => rfl) (fun v7_33 hv7_33 => ?_)
                  refine Rk.sp (G_goto (pc := 146) (tgt := 83) dX9_drift_146 rfl) ?_
                  exact Rk.end_ (fun h => h ⟨hv7_33, hσ20⟩)
              · refine Rk.inc (pc := 143) 7 (fun v7_34 => [some (vr 172), some (vi a1), some (vi a2), some (vi v3_5), some (vi v4_6), some (vi v5_7), some (vi v6_8), some (vi v7_34)]) rfl (Nat.le_of_ble_eq_true rfl) rfl dX9_drift_143 (fun _ => rfl) (fun v7_34 hv7_34 => ?_)
                refine Rk.sp (G_goto (pc := 146) (tgt := 83) dX9_drift_146 rfl) ?_
                exact Rk.end_ (fun h => h ⟨hv7_34, hσ20⟩)
            · refine Rk.sp (G_iload_n (pc := 149) 3 rfl rfl dX9_drift_149) ?_
              refine Rk.sp (G_aload_n (pc := 150) 0 rfl rfl dX9_drift_150) ?_
              refine Rk.gR (pc := 151) 185 flX9_53 cl9 rfl lb172 dX9_drift_151 ?_
              refine Rk.sp (G_iload_w (pc := 154) 6 rfl dX9_drift_154) ?_
              refine Rk.al (pc := 156) lb185 dX9_drift_156 (fun hi35 => ?_)
              refine Rk.cRI (pc := 157) (Cl.s [vi v3_5, vi (σ20 185 (v6_8).toNat)] [] dX9_drift_157 ckX9_69 rfl rfl (Nat.le_of_ble_eq_true rfl) (Nat.le_of_ble_eq_true rfl)) (k_Mo_greater v3_5 (σ20 185 (v6_8).toNat) hv3_5 (hσ20 _ _)) (fun r36 hr36 => ?_)
              refine Rk.isa_n (pc := 160) 3 (L' := [some (vr 172), some (vi a1), some (vi a2), some (vi r36), some (vi v4_6), some (vi v5_7), some (vi v6_8), some (vi v7_19)]) rfl (Nat.le_of_ble_eq_true rfl) rfl dX9_drift_160 rfl ?_
              refine Rk.sp (G_iload_w (pc := 161) 5 rfl dX9_drift_161) ?_
              refine Rk.sp (G_iconst (pc := 163) dX9_drift_163) ?_
              refine Rk.icmp_ne (pc := 164) (tgt := 171) dX9_drift_164 (nmI hv5_7) (nmI (inRk (-1) rfl)) rfl (fun hc37 => ?_) (fun hc37 => ?_)
              · refine Rk.sp (G_iconst (pc := 167) dX9_drift_167) ?_
                refine Rk.sp (G_goto (pc := 168) (tgt := 186) dX9_drift_168 rfl) ?_
                refine Rk.isa_w (pc := 186) 7 (L' := [some (vr 172), some (vi a1), some (vi a2), some (vi r36), some (vi v4_6), some (vi v5_7), some (vi v6_8), some (vi 0)]) (Nat.le_of_ble_eq_true rfl) rfl dX9_drift_186 rfl ?_
                refine Rk.sp (G_iload_w (pc := 188) 4 rfl dX9_drift_188) ?_
                refine Rk.sp (G_iload_w (pc := 190) 7 rfl dX9_drift_190) ?_
                refine Rk.if_le (pc := 192) (tgt := 199) dX9_drift_192 (nmI (inRk 0 rfl)) rfl (fun hc38 => ?_) (fun hc38 => ?_)
                · refine Rk.sp (G_iconst (pc := 195) dX9_drift_195) ?_
                  refine Rk.sp (G_goto (pc := 196) (tgt := 209) dX9_drift_196 rfl) ?_
                  refine Rk.sp (G_iadd (pc := 209) dX9_drift_209) ?_
                  refine Rk.ist_w (pc := 210) 4 (fun v4_39 => [some (vr 172), some (vi a1), some (vi a2), some (vi r36), some (vi v4_39), some (vi v5_7), some (vi v6_8), some (vi 0)]) (Nat.le_of_ble_eq_true rfl) rfl dX9_drift_210 (nmW _) (fun _ => rfl) (fun v4_39 hv4_39 => ?_)
                  refine Rk.sp (G_iload_w (pc := 212) 6 rfl dX9_drift_212) ?_
                  refine Rk.isa_w (pc := 214) 5 (L' := [some (vr 172), some (vi a1), some (vi a2), some (vi r36), some (vi v4_39), some (vi v6_8), some (vi v6_8), some (vi 0)]) (Nat.le_of_ble_eq_true rfl) rfl dX9_drift_214 rfl ?_
                  refine Rk.inc (pc := 216) 6 (fun v6_40 => [some (vr 172), some (vi a1), some (vi a2), some (vi r36), some (vi v4_39), some (vi v6_8), some (vi v6_40), some (vi 0)]) rfl (Nat.le_of_ble_eq_true rfl) rfl dX9_drift_216 (fun _ => rfl) (fun v6_40 hv6_40 => ?_)
                  refine Rk.sp (G_goto (pc := 219) (tgt := 30) dX9_drift_219 rfl) ?_
                  refine Rk.fg [true, true, true, true, true, true, true, false] (L' := [some (vr 172), some (vi a1), some (vi a2), some (vi r36), some (vi v4_39), some (vi v6_8), some (vi v6_40), none]) rfl ?_
                  exact Rk.end_ (fun h => h ⟨hr36, hv4_39, hv6_8, hv6_40, hσ20⟩)
                · refine Rk.sp (G_iload_w (pc := 199) 7 rfl dX9_drift_199) ?_
                  refine Rk.if_ge (pc := 201) (tgt := 208) dX9_drift_201 (nmI (inRk 0 rfl)) rfl (fun hc41 => ?_) (fun hc41 => ?_)
                  · refine Rk.sp (G_iconst (pc := 204) dX9_drift_204) ?_
                    refine Rk.sp (G_goto (pc := 205) (tgt := 209) dX9_drift_205 rfl) ?_
                    refine Rk.sp (G_iadd (pc := 209) dX9_drift_209) ?_
                    refine Rk.ist_w (pc := 210) 4 (fun v4_42 => [some (vr 172), some (vi a1), some (vi a2), some (vi r36), some (vi v4_42), some (vi v5_7), some (vi v6_8), some (vi 0)]) (Nat.le_of_ble_eq_true rfl) rfl dX9_drift_210 (nmW _) (fun _ => rfl) (fun v4_42 hv4_42 => ?_)
                    refine Rk.sp (G_iload_w (pc := 212) 6 rfl dX9_drift_212) ?_
                    refine Rk.isa_w (pc := 214) 5 (L' := [some (vr 172), some (vi a1), some (vi a2), some (vi r36), some (vi v4_42), some (vi v6_8), some (vi v6_8), some (vi 0)]) (Nat.le_of_ble_eq_true rfl) rfl dX9_drift_214 rfl ?_
                    refine Rk.inc (pc := 216) 6 (fun v6_43 => [some (vr 172), some (vi a1), some (vi a2), some (vi r36), some (vi v4_42), some (vi v6_8), some (vi v6_43), some (vi 0)]) rfl (Nat.le_of_ble_eq_true rfl) rfl dX9_drift_216 (fun _ => rfl) (fun v6_43 hv6_43 => ?_)
                    refine Rk.sp (G_goto (pc := 219) (tgt := 30) dX9_drift_219 rfl) ?_
                    refine Rk.fg [true, true, true, true, true, true, true, false] (L' := [some (vr 172), some (vi a1), some (vi a2), some (vi r36), some (vi v4_42), some (vi v6_8), some (vi v6_43), none]) rfl ?_
                    exact Rk.end_ (fun h => h ⟨hr36, hv4_42, hv6_8, hv6_43, hσ20⟩)
                  · refine Rk.sp (G_iconst (pc := 208) dX9_drift_208) ?_
                    refine Rk.sp (G_iadd (pc := 209) dX9_drift_209) ?_
                    refine Rk.ist_w (pc := 210) 4 (fun v4_44 => [some (vr 172), some (vi a1), some (vi a2), some (vi r36), some (vi v4_44), some (vi v5_7), some (vi v6_8), some (vi 0)]) (Nat.le_of_ble_eq_true rfl) rfl dX9_drift_210 (nmW _) (fun _ => rfl) (fun v4_44 hv4_44 => ?_)
                    refine Rk.sp (G_iload_w (pc := 212) 6 rfl dX9_drift_212) ?_
                    refine Rk.isa_w (pc := 214) 5 (L' := [some (vr 172), some (vi a1), some (vi a2), some (vi r36), some (vi v4_44), some (vi v6_8), some (vi v6_8), some (vi 0)]) (Nat.le_of_ble_eq_true rfl) rfl dX9_drift_214 rfl ?_
                    refine Rk.inc (pc := 216) 6 (fun v6_45 => [some (vr 172), some (vi a1), some (vi a2), some (vi r36), some (vi v4_44), some (vi v6_8), some (vi v6_45), some (vi 0)]) rfl (Nat.le_of_ble_eq_true rfl) rfl dX9_drift_216 (fun _ => rfl) (fun v6_45 hv6_45 => ?_)
                    refine Rk.sp (G_goto (pc := 219) (tgt := 30) dX9_drift_219 rfl) ?_
                    refine Rk.fg [true, true, true, true, true, true, true, false] (L' := [some (vr 172), some (vi a1), some (vi a2), some (vi r36), some (vi v4_44), some (vi v6_8), some (vi v6_45), none]) rfl ?_
                    exact Rk.end_ (fun h => h ⟨hr36, hv4_44, hv6_8, hv6_45, hσ20⟩)
              · refine Rk.sp (G_aload_n (pc := 171) 0 rfl rfl dX9_drift_171) ?_
                refine Rk.sp (G_iload_w (pc := 172) 6 rfl dX9_drift_172) ?_
                refine Rk.sp (G_iconst (pc := 174) dX9_drift_174) ?_
                refine Rk.cRI (pc := 175) (Cl.v [vi v6_8, vi 4] [] dX9_drift_175 ckX9_76 lb172 rfl rfl rfl (Nat.le_of_ble_eq_true rfl) (Nat.le_of_ble_eq_true rfl)) (k_Mo_of0 v6_8 4 σ20 hv6_8 (inRk 4 rfl) hσ20) (fun r46 hr46 => ?_)
                refine Rk.sp (G_aload_n (pc := 178) 0 rfl rfl dX9_drift_178) ?_
                refine Rk.sp (G_iload_w (pc := 179) 5 rfl dX9_drift_179) ?_
                refine Rk.sp (G_iconst (pc := 181) dX9_drift_181) ?_
                refine Rk.cRI (pc := 182) (Cl.v [vi v5_7, vi 4] [vi r46] dX9_drift_182 ckX9_76 lb172 rfl rfl rfl (Nat.le_of_ble_eq_true rfl) (Nat.le_of_ble_eq_true rfl)) (k_Mo_of0 v5_7 4 σ20 hv5_7 (inRk 4 rfl) hσ20) (fun r47 hr47 => ?_)
                refine Rk.sp (G_isub (pc := 185) dX9_drift_185) ?_
                refine Rk.ist_w (pc := 186) 7 (fun v7_48 => [some (vr 172), some (vi a1), some (vi a2), some (vi r36), some (vi v4_6), some (vi v5_7), some (vi v6_8), some (vi v7_48)]) (Nat.le_of_ble_eq_true rfl) rfl dX9_drift_186 (nmW _) (fun _ => rfl) (fun v7_48 hv7_48 => ?_)
                refine Rk.sp (G_iload_w (pc := 188) 4 rfl dX9_drift_188) ?_
                refine Rk.sp (G_iload_w (pc := 190) 7 rfl dX9_drift_190) ?_
                refine Rk.if_le (pc := 192) (tgt := 199) dX9_drift_192 (nmI hv7_48) rfl (fun hc49 => ?_) (fun hc49 => ?_)
                · refine Rk.sp (G_iconst (pc := 195) dX9_drift_195) ?_
                  refine Rk.sp (G_goto (pc := 196) (tgt := 209) dX9_drift_196 rfl) ?_
                  refine Rk.sp (G_iadd (pc := 209) dX9_drift_209) ?_
                  refine Rk.ist_w (pc := 210) 4 (fun v4_50 => [some (vr 172), some (vi a1), some (vi a2), some (vi r36), some (vi v4_50), some (vi v5_7), some (vi v6_8), some (vi v7_48)]) (Nat.le_of_ble_eq_true rfl) rfl dX9_drift_210 (nmW _) (fun _ => rfl) (fun v4_50 hv4_50 => ?_)
                  refine Rk.sp (G_iload_w (pc := 212) 6 rfl dX9_drift_212) ?_
                  refine Rk.isa_w (pc := 214) 5 (L' := [some (vr 172), some (vi a1), some (vi a2), some (vi r36), some (vi v4_50), some (vi v6_8), some (vi v6_8), some (vi v7_48)]) (Nat.le_of_ble_eq_true rfl) rfl dX9_drift_214 rfl ?_
                  refine Rk.inc (pc := 216) 6 (fun v6_51 => [some (vr 172), some (vi a1), some (vi a2), some (vi r36), some (vi v4_50), some (vi v6_8), some (vi v6_51), some (vi v7_48)]) rfl (Nat.le_of_ble_eq_true rfl) rfl dX9_drift_216 (fun _ => rfl) (fun v6_51 hv6_51 => ?_)
                  refine Rk.sp (G_goto (pc := 219) (tgt := 30) dX9_drift_219 rfl) ?_
                  refine Rk.fg [true, true, true, true, true, true, true, false] (L' := [some (vr 172), some (vi a1), some (vi a2), some (vi r36), some (vi v4_50), some (vi v6_8), some (vi v6_51), none]) rfl ?_
                  exact Rk.end_ (fun h => h ⟨hr36, hv4_50, hv6_8, hv6_51, hσ20⟩)
                · refine Rk.sp (G_iload_w (pc := 199) 7 rfl dX9_drift_199) ?_
                  refine Rk.if_ge (pc := 201) (tgt := 208) dX9_drift_201 (nmI hv7_48) rfl (fun hc52 => ?_) (fun hc52 => ?_)
                  · refine Rk.sp (G_iconst (pc := 204) dX9_drift_204) ?_
                    refine Rk.sp (G_goto (pc := 205) (tgt := 209) dX9_drift_205 rfl) ?_
                    refine Rk.sp (G_iadd (pc := 209) dX9_drift_209) ?_
                    refine Rk.ist_w (pc := 210) 4 (fun v4_53 => [some (vr 172), some (vi a1), some (vi a2), some (vi r36), some (vi v4_53), some (vi v5_7), some (vi v6_8), some (vi v7_48)]) (Nat.le_of_ble_eq_true rfl) rfl dX9_drift_210 (nmW _) (fun _ => rfl) (fun v4_53 hv4_53 => ?_)
                    refine Rk.sp (G_iload_w (pc := 212) 6 rfl dX9_drift_212) ?_
                    refine Rk.isa_w (pc := 214) 5 (L' := [some (vr 172), some (vi a1), some (vi a2), some (vi r36), some (vi v4_53), some (vi v6_8), some (vi v6_8), some (vi v7_48)]) (Nat.le_of_ble_eq_true rfl) rfl dX9_drift_214 rfl ?_
                    refine Rk.inc (pc := 216) 6 (fun v6_54 => [some (vr 172), some (vi a1), some (vi a2), some (vi r36), some (vi v4_53), some (vi v6_8), some (vi v6_54), some (vi v7_48)]) rfl (Nat.le_of_ble_eq_true rfl) rfl dX9_drift_216 (fun _ => rfl) (fun v6_54 hv6_54 => ?_)
                    refine Rk.sp (G_goto (pc := 219) (tgt := 30) dX9_drift_219 rfl) ?_
                    refine Rk.fg [true, true, true, true, true, true, true, false] (L' := [some (vr 172), some (vi a1), some (vi a2), some (vi r36), some (vi v4_53), some (vi v6_8), some (vi v6_54), none]) rfl ?_
                    exact Rk.end_ (fun h => h ⟨hr36, hv4_53, hv6_8, hv6_54, hσ20⟩)
                  · refine Rk.sp (G_iconst (pc := 208) dX9_drift_208) ?_
                    refine Rk.sp (G_iadd (pc := 209) dX9_drift_209) ?_
                    refine Rk.ist_w (pc := 210) 4 (fun v4_55 => [some (vr 172), some (vi a1), some (vi a2), some (vi r36), some (vi v4_55), some (vi v5_7), some (vi v6_8), some (vi v7_48)]) (Nat.le_of_ble_eq_true rfl) rfl dX9_drift_210 (nmW _) (fun _ => rfl) (fun v4_55 hv4_55 => ?_)
                    refine Rk.sp (G_iload_w (pc := 212) 6 rfl dX9_drift_212) ?_
                    refine Rk.isa_w (pc := 214) 5 (L' := [some (vr 172), some (vi a1), some (vi a2), some (vi r36), some (vi v4_55), some (vi v6_8), some (vi v6_8), some (vi v7_48)]) (Nat.le_of_ble_eq_true rfl) rfl dX9_drift_214 rfl ?_
                    refine Rk.inc (pc := 216) 6 (fun v6_56 => [some (vr 172), some (vi a1), some (vi a2), some (vi r36), some (vi v4_55), some (vi v6_8), some (vi v6_56), some (vi v7_48)]) rfl (Nat.le_of_ble_eq_true rfl) rfl dX9_drift_216 (fun _ => rfl) (fun v6_56 hv6_56 => ?_)
                    refine Rk.sp (G_goto (pc := 219) (tgt := 30) dX9_drift_219 rfl) ?_
                    refine Rk.fg [true, true, true, true, true, true, true, false] (L' := [some (vr 172), some (vi a1), some (vi a2), some (vi r36), some (vi v4_55), some (vi v6_8), some (vi v6_56), none]) rfl ?_
                    exact Rk.end_ (fun h => h ⟨hr36, hv4_55, hv6_8, hv6_56, hσ20⟩)
          · refine Rk.sp (G_goto (pc := 69) (tgt := 216) dX9_drift_69 rfl) ?_
            refine Rk.inc (pc := 216) 6 (fun v6_57 => [some (vr 172), some (vi a1), some (vi a2), some (vi v3_5), some (vi v4_6), some (vi v5_7), some (vi v6_57), none]) rfl (Nat.le_of_ble_eq_true rfl) rfl dX9_drift_216 (fun _ => rfl) (fun v6_57 hv6_57 => ?_)
            refine Rk.sp (G_goto (pc := 219) (tgt := 30) dX9_drift_219 rfl) ?_
            exact Rk.end_ (fun h => h ⟨hv3_5, hv4_6, hv5_7, hv6_57, hσ11⟩)
        · refine Rk.inc (pc := 216) 6 (fun v6_58 => [some (vr 172), some (vi a1), some (vi a2), some (vi v3_5), some (vi v4_6), some (vi v5_7), some (vi v6_58), none]) rfl (Nat.le_of_ble_eq_true rfl) rfl dX9_drift_216 (fun _ => rfl) (fun v6_58 hv6_58 => ?_)
          refine Rk.sp (G_goto (pc := 219) (tgt := 30) dX9_drift_219 rfl) ?_
          exact Rk.end_ (fun h => h ⟨hv3_5, hv4_6, hv5_7, hv6_58, hσ11⟩)
      · refine Rk.sp (G_iload_n (pc := 222) 2 rfl rfl dX9_drift_222) ?_
        refine Rk.if_ne (pc := 223) (tgt := 230) dX9_drift_223 (nmI ha2) rfl (fun hc59 => ?_) (fun hc59 => ?_)
        · refine Rk.sp (G_iload_n (pc := 226) 3 rfl rfl dX9_drift_226) ?_
          refine Rk.sp (G_goto (pc := 227) (tgt := 232) dX9_drift_227 rfl) ?_
          exact Rk.end_ (fun h => G_ireturn (pc := 232) rfl dX9_drift_232 (q_I h hv3_5 hσ9))
        · refine Rk.sp (G_iload_w (pc := 230) 4 rfl dX9_drift_230) ?_
          exact Rk.end_ (fun h => G_ireturn (pc := 232) rfl dX9_drift_232 (q_I h hv4_6 hσ9))
theorem k_Mo_ease {κ : Kx} {μ : Sg} (a1 : Int) (a2 : Int) (a3 : Int) (σ : Sg) (ha1 : inR a1) (ha2 : inR a2) (ha3 : inR a3) (hok : okS σ) : CtI κ mX9_ease 7 [vr 172, vi a1, vi a2, vi a3] true μ σ (Mo_ease a1 a2 a3 σ) := by
  intro r τ h
  refine con_of (by decide) (Nat.le_of_ble_eq_true rfl) 4 ?_
  refine (?_ : Rk κ mX9_ease _ 0 [some (vr 172), some (vi a1), some (vi a2), some (vi a3), none, none, none, none] [] (ms true μ σ) (Mo_ease a1 a2 a3 σ) (fun a => a = (r, τ))) _ h rfl
  unfold Mo_ease
  refine Rk.sp (G_iload_n (pc := 0) 1 rfl rfl dX9_ease_0) ?_
  refine Rk.cRZ (pc := 1) (Cl.s [vi a1] [] dX9_ease_1 ckX9_91 rfl rfl (Nat.le_of_ble_eq_true rfl) (Nat.le_of_ble_eq_true rfl)) (k_Mo_isOne a1 ha1) (fun r1 hr1 => ?_)
  refine Rk.if_eq (pc := 4) (tgt := 27) dX9_ease_4 (nmI (inZ.R hr1)) rfl (fun hc2 => ?_) (fun hc2 => ?_)
  · refine Rk.sp (G_iconst (pc := 27) dX9_ease_27) ?_
    exact Rk.end_ (fun h => G_ireturn (pc := 28) rfl dX9_ease_28 (q_I h (inRk (-1) rfl) hok))
  · refine Rk.sp (G_iload_n (pc := 7) 2 rfl rfl dX9_ease_7) ?_
    refine Rk.sp (G_iconst (pc := 8) dX9_ease_8) ?_
    refine Rk.sp (G_sipush (pc := 9) dX9_ease_9 rfl) ?_
    refine Rk.cRZ (pc := 12) (Cl.s [vi a2, vi 1, vi 300] [] dX9_ease_12 ckX9_72 rfl rfl (Nat.le_of_ble_eq_true rfl) (Nat.le_of_ble_eq_true rfl)) (k_Mo_isIn a2 1 300 ha2 (inRk 1 rfl) (inRk 300 rfl)) (fun r3 hr3 => ?_)
    refine Rk.if_eq (pc := 15) (tgt := 27) dX9_ease_15 (nmI (inZ.R hr3)) rfl (fun hc4 => ?_) (fun hc4 => ?_)
    · refine Rk.sp (G_iconst (pc := 27) dX9_ease_27) ?_
      exact Rk.end_ (fun h => G_ireturn (pc := 28) rfl dX9_ease_28 (q_I h (inRk (-1) rfl) hok))
    · refine Rk.sp (G_iload_n (pc := 18) 3 rfl rfl dX9_ease_18) ?_
      refine Rk.sp (G_iconst (pc := 19) dX9_ease_19) ?_
      refine Rk.sp (G_iconst (pc := 20) dX9_ease_20) ?_
      refine Rk.cRZ (pc := 21) (Cl.s [vi a3, vi 0, vi 1] [] dX9_ease_21 ckX9_72 rfl rfl (Nat.le_of_ble_eq_true rfl) (Nat.le_of_ble_eq_true rfl)) (k_Mo_isIn a3 0 1 ha3 (inRk 0 rfl) (inRk 1 rfl)) (fun r5 hr5 => ?_)
      refine Rk.if_ne (pc := 24) (tgt := 29) dX9_ease_24 (nmI (inZ.R hr5)) rfl (fun hc6 => ?_) (fun hc6 => ?_)
      · refine Rk.sp (G_iconst (pc := 27) dX9_ease_27) ?_
        exact Rk.end_ (fun h => G_ireturn (pc := 28) rfl dX9_ease_28 (q_I h (inRk (-1) rfl) hok))
      · refine Rk.sp (G_iconst (pc := 29) dX9_ease_29) ?_
        refine Rk.isa_w (pc := 30) 4 (L' := [some (vr 172), some (vi a1), some (vi a2), some (vi a3), some (vi (-1)), none, none, none]) (Nat.le_of_ble_eq_true rfl) rfl dX9_ease_30 rfl ?_
        refine Rk.sp (G_ldcw (pc := 32) (n := 100000000) dX9_ease_32 conX9_414 (by decide)) ?_
        refine Rk.isa_w (pc := 35) 5 (L' := [some (vr 172), some (vi a1), some (vi a2), some (vi a3), some (vi (-1)), some (vi 100000000), none, none]) (Nat.le_of_ble_eq_true rfl) rfl dX9_ease_35 rfl ?_
        refine Rk.sp (G_iconst (pc := 37) dX9_ease_37) ?_
        refine Rk.isa_w (pc := 38) 6 (L' := [some (vr 172), some (vi a1), some (vi a2), some (vi a3), some (vi (-1)), some (vi 100000000), some (vi 1), none]) (Nat.le_of_ble_eq_true rfl) rfl dX9_ease_38 rfl ?_
        refine Rk.loop (pc := 40) (B := (fun p => Mo_ease_40_b a3 a1 a2 p.1 p.2.1 p.2.2.1 p.2.2.2)) (fun p => inR p.1 ∧ inR p.2.1 ∧ inR p.2.2.1 ∧ okS p.2.2.2) (fun p => [some (vr 172), some (vi a1), some (vi a2), some (vi a3), some (vi p.1), some (vi p.2.1), some (vi p.2.2.1), none]) (fun p => (ms true μ p.2.2.2)) (fun p hp => ?_) ((-1), 100000000, 1, σ) ⟨(inRk (-1) rfl), (inRk 100000000 rfl), (inRk 1 rfl), hok⟩
        obtain ⟨v4_7, v5_8, v6_9, σ10⟩ := p
        obtain ⟨hv4_7, hv5_8, hv6_9, hσ10⟩ := hp
        try dsimp only
        unfold Mo_ease_40_b
        refine Rk.sp (G_iload_w (pc := 40) 6 rfl dX9_ease_40) ?_
        refine Rk.sp (G_sipush (pc := 42) dX9_ease_42 rfl) ?_
        refine Rk.icmp_gt (pc := 45) (tgt := 129) dX9_ease_45 (nmI hv6_9) (nmI (inRk 256 rfl)) rfl (fun hc11 => ?_) (fun hc11 => ?_)
        · refine Rk.sp (G_aload_n (pc := 129) 0 rfl rfl dX9_ease_129) ?_
          refine Rk.sp (G_iconst (pc := 130) dX9_ease_130) ?_
          refine Rk.pI (pc := 131) hσ10 (nmI (inRk (-1) rfl)) flX9_44 cl9 rfl rfl lb172 dX9_ease_131 (fun σ12 hσ12 => ?_)
          refine Rk.sp (G_iload_n (pc := 134) 3 rfl rfl dX9_ease_134) ?_
          refine Rk.if_ne (pc := 135) (tgt := 143) dX9_ease_135 (nmI ha3) rfl (fun hc13 => ?_) (fun hc13 => ?_)
          · refine Rk.sp (G_iload_w (pc := 138) 4 rfl dX9_ease_138) ?_
            refine Rk.sp (G_goto (pc := 140) (tgt := 145) dX9_ease_140 rfl) ?_
            exact Rk.end_ (fun h => G_ireturn (pc := 145) rfl dX9_ease_145 (q_I h hv4_7 hσ12))
          · refine Rk.sp (G_iload_w (pc := 143) 5 rfl dX9_ease_143) ?_
            exact Rk.end_ (fun h => G_ireturn (pc := 145) rfl dX9_ease_145 (q_I h hv5_8 hσ12))
        · refine Rk.sp (G_aload_n (pc := 48) 0 rfl rfl dX9_ease_48) ?_
          refine Rk.cV (pc := 49) (Cl.v [] [] dX9_ease_49 ckX9_405 lb172 rfl rfl rfl (Nat.le_of_ble_eq_true rfl) (Nat.le_of_ble_eq_true rfl)) (k_Mo_laysAside σ10 hσ10) (fun σ14 hσ14 => ?_)
          refine Rk.sp (G_aload_n (pc := 52) 0 rfl rfl dX9_ease_52) ?_
          refine Rk.sp (G_iload_n (pc := 53) 1 rfl rfl dX9_ease_53) ?_
          refine Rk.pI (pc := 54) hσ14 (nmI ha1) flX9_44 cl9 rfl rfl lb172 dX9_ease_54 (fun σ15 hσ15 => ?_)
          refine Rk.sp (G_aload_n (pc := 57) 0 rfl rfl dX9_ease_57) ?_
          refine Rk.sp (G_iload_w (pc := 58) 6 rfl dX9_ease_58) ?_
          refine Rk.pI (pc := 60) hσ15 (nmI hv6_9) flX9_376 cl9 rfl rfl lb172 dX9_ease_60 (fun σ16 hσ16 => ?_)
          refine Rk.sp (G_iconst (pc := 63) dX9_ease_63) ?_
          refine Rk.isa_w (pc := 64) 7 (L' := [some (vr 172), some (vi a1), some (vi a2), some (vi a3), some (vi v4_7), some (vi v5_8), some (vi v6_9), some (vi 0)]) (Nat.le_of_ble_eq_true rfl) rfl dX9_ease_64 rfl ?_
          refine Rk.loop (pc := 66) (B := (fun p => Mo_ease_66_b a2 v5_8 v6_9 v4_7 p.1 p.2)) (fun p => inR p.1 ∧ okS p.2) (fun p => [some (vr 172), some (vi a1), some (vi a2), some (vi a3), some (vi v4_7), some (vi v5_8), some (vi v6_9), some (vi p.1)]) (fun p => (ms true μ p.2)) (fun p hp => ?_) (0, σ16) ⟨(inRk 0 rfl), hσ16⟩
          obtain ⟨v7_17, σ18⟩ := p
          obtain ⟨hv7_17, hσ18⟩ := hp
          try dsimp only
          unfold Mo_ease_66_b
          refine Rk.sp (G_iload_w (pc := 66) 7 rfl dX9_ease_66) ?_
          refine Rk.sp (G_iload_n (pc := 68) 2 rfl rfl dX9_ease_68) ?_
          refine Rk.icmp_ge (pc := 69) (tgt := 83) dX9_ease_69 (nmI hv7_17) (nmI ha2) rfl (fun hc19 => ?_) (fun hc19 => ?_)
          · refine Rk.sp (G_aload_n (pc := 72) 0 rfl rfl dX9_ease_72) ?_
            refine Rk.cI (pc := 73) (Cl.v [] [] dX9_ease_73 ckX9_402 lb172 rfl rfl rfl (Nat.le_of_ble_eq_true rfl) (Nat.le_of_ble_eq_true rfl)) (k_Mo_aMinute σ18 hσ18) (fun r20 σ21 hr20 hσ21 => ?_)
            refine Rk.sp (G_pop (pc := 76) dX9_ease_76 (fun _ h => by cases h)) ?_
            refine Rk.inc (pc := 77) 7 (fun v7_22 => [some (vr 172), some (vi a1), some (vi a2), some (vi a3), some (vi v4_7), some (vi v5_8), some (vi v6_9), some (vi v7_22)]) rfl (Nat.le_of_ble_eq_true rfl) rfl dX9_ease_77 (fun _ => rfl) (fun v7_22 hv7_22 => ?_)
            refine Rk.sp (G_goto (pc := 80) (tgt := 66) dX9_ease_80 rfl) ?_
            exact Rk.end_ (fun h => h ⟨hv7_22, hσ21⟩)
          · refine Rk.sp (G_aload_n (pc := 83) 0 rfl rfl dX9_ease_83) ?_
            refine Rk.gR (pc := 84) 173 flX9_7 cl9 rfl lb172 dX9_ease_84 ?_
            refine Rk.sp (G_iconst (pc := 87) dX9_ease_87) ?_
            refine Rk.alc (pc := 88) 4 rfl (Nat.le_of_ble_eq_true rfl) lb173 dX9_ease_88 ?_
            refine Rk.sp (G_aload_n (pc := 89) 0 rfl rfl dX9_ease_89) ?_
            refine Rk.gR (pc := 90) 173 flX9_7 cl9 rfl lb172 dX9_ease_90 ?_
            refine Rk.sp (G_iconst (pc := 93) dX9_ease_93) ?_
            refine Rk.alc (pc := 94) 5 rfl (Nat.le_of_ble_eq_true rfl) lb173 dX9_ease_94 ?_
            refine Rk.sp (G_iadd (pc := 95) dX9_ease_95) ?_
            refine Rk.ist_w (pc := 96) 7 (fun v7_23 => [some (vr 172), some (vi a1), some (vi a2), some (vi a3), some (vi v4_7), some (vi v5_8), some (vi v6_9), some (vi v7_23)]) (Nat.le_of_ble_eq_true rfl) rfl dX9_ease_96 (nmW _) (fun _ => rfl) (fun v7_23 hv7_23 => ?_)
            refine Rk.sp (G_aload_n (pc := 98) 0 rfl rfl dX9_ease_98) ?_
            refine Rk.cV (pc := 99) (Cl.v [] [] dX9_ease_99 ckX9_411 lb172 rfl rfl rfl (Nat.le_of_ble_eq_true rfl) (Nat.le_of_ble_eq_true rfl)) (k_Mo_putsBack σ18 hσ18) (fun σ24 hσ24 => ?_)
            refine Rk.sp (G_iload_w (pc := 102) 7 rfl dX9_ease_102) ?_
            refine Rk.sp (G_iload_w (pc := 104) 5 rfl dX9_ease_104) ?_
            refine Rk.icmp_lt (pc := 106) (tgt := 112) dX9_ease_106 (nmI hv7_23) (nmI hv5_8) rfl (fun hc25 => ?_) (fun hc25 => ?_)
            · refine Rk.sp (G_iload_w (pc := 112) 7 rfl dX9_ease_112) ?_
              refine Rk.isa_w (pc := 114) 5 (L' := [some (vr 172), some (vi a1), some (vi a2), some (vi a3), some (vi v4_7), some (vi v7_23), some (vi v6_9), some (vi v7_23)]) (Nat.le_of_ble_eq_true rfl) rfl dX9_ease_114 rfl ?_
              refine Rk.sp (G_iload_w (pc := 116) 6 rfl dX9_ease_116) ?_
              refine Rk.isa_w (pc := 118) 4 (L' := [some (vr 172), some (vi a1), some (vi a2), some (vi a3), some (vi v6_9), some (vi v7_23), some (vi v6_9), some (vi v7_23)]) (Nat.le_of_ble_eq_true rfl) rfl dX9_ease_118 rfl ?_
              refine Rk.sp (G_iload_w (pc := 120) 6 rfl dX9_ease_120) ?_
              refine Rk.sp (G_iconst (pc := 122) dX9_ease_122) ?_
              refine Rk.sp (G_imul (pc := 123) dX9_ease_123) ?_
              refine Rk.ist_w (pc := 124) 6 (fun v6_26 => [some (vr 172), some (vi a1), some (vi a2), some (vi a3), some (vi v6_9), some (vi v7_23), some (vi v6_26), some (vi v7_23)]) (Nat.le_of_ble_eq_true rfl) rfl dX9_ease_124 (nmW _) (fun _ => rfl) (fun v6_26 hv6_26 => ?_)
              refine Rk.sp (G_goto (pc := 126) (tgt := 40) dX9_ease_126 rfl) ?_
              refine Rk.fg [true, true, true, true, true, true, true, false] (L' := [some (vr 172), some (vi a1), some (vi a2), some (vi a3), some (vi v6_9), some (vi v7_23), some (vi v6_26), none]) rfl ?_
              exact Rk.end_ (fun h => h ⟨hv6_9, hv7_23, hv6_26, hσ24⟩)
            · refine Rk.sp (G_goto (pc := 109) (tgt := 120) dX9_ease_109 rfl) ?_
              refine Rk.sp (G_iload_w (pc := 120) 6 rfl dX9_ease_120) ?_
              refine Rk.sp (G_iconst (pc := 122) dX9_ease_122) ?_
              refine Rk.sp (G_imul (pc := 123) dX9_ease_123) ?_
              refine Rk.ist_w (pc := 124) 6 (fun v6_27 => [some (vr 172), some (vi a1), some (vi a2), some (vi a3), some (vi v4_7), some (vi v5_8), some (vi v6_27), some (vi v7_23)]) (Nat.le_of_ble_eq_true rfl) rfl dX9_ease_124 (nmW _) (fun _ => rfl) (fun v6_27 hv6_27 => ?_)
              refine Rk.sp (G_goto (pc := 126) (tgt := 40) dX9_ease_126 rfl) ?_
              refine Rk.fg [true, true, true, true, true, true, true, false] (L' := [some (vr 172), some (vi a1), some (vi a2), some (vi a3), some (vi v4_7), some (vi v5_8), some (vi v6_27), none]) rfl ?_
              exact Rk.end_ (fun h => h ⟨hv4_7, hv5_8, hv6_27, hσ24⟩)
theorem k_Mo_end {κ : Kx} {μ : Sg} (a1 : Int) (σ : Sg) (ha1 : inR a1) (hok : okS σ) : CtZ κ mX9_end 1 [vr 172, vi a1] true μ σ (Mo_end a1 σ) := by
  intro r τ h
  refine con_of (by decide) (Nat.le_of_ble_eq_true rfl) 0 ?_
  refine (?_ : Rk κ mX9_end _ 0 [some (vr 172), some (vi a1)] [] (ms true μ σ) (Mo_end a1 σ) (fun a => a = (r, τ))) _ h rfl
  unfold Mo_end
  refine Rk.sp (G_iload_n (pc := 0) 1 rfl rfl dX9_end_0) ?_
  refine Rk.sp (G_iconst (pc := 1) dX9_end_1) ?_
  refine Rk.sp (G_aload_n (pc := 2) 0 rfl rfl dX9_end_2) ?_
  refine Rk.gI (pc := 3) flX9_94 cl9 rfl lb172 dX9_end_3 ?_
  refine Rk.cRZ (pc := 6) (Cl.s [vi a1, vi 0, vi (σ 172 16)] [] dX9_end_6 ckX9_72 rfl rfl (Nat.le_of_ble_eq_true rfl) (Nat.le_of_ble_eq_true rfl)) (k_Mo_isIn a1 0 (σ 172 16) ha1 (inRk 0 rfl) (hok _ _)) (fun r1 hr1 => ?_)
  refine Rk.if_ne (pc := 9) (tgt := 14) dX9_end_9 (nmI (inZ.R hr1)) rfl (fun hc2 => ?_) (fun hc2 => ?_)
  · refine Rk.sp (G_iconst (pc := 12) dX9_end_12) ?_
    exact Rk.end_ (fun h => G_zreturn (pc := 13) rfl (nz inZ0) dX9_end_13 (q_Z h inZ0 hok))
  · refine Rk.sp (G_aload_n (pc := 14) 0 rfl rfl dX9_end_14) ?_
    refine Rk.sp (G_iload_n (pc := 15) 1 rfl rfl dX9_end_15) ?_
    refine Rk.pI (pc := 16) hok (nmI ha1) flX9_94 cl9 rfl rfl lb172 dX9_end_16 (fun σ3 hσ3 => ?_)
    refine Rk.sp (G_iconst (pc := 19) dX9_end_19) ?_
    exact Rk.end_ (fun h => G_zreturn (pc := 20) rfl (nz inZ1) dX9_end_20 (q_Z h inZ1 hσ3))
theorem k_Mo_size {κ : Kx} {b : Bool} {μ σ : Sg} (a1 : Int) (ha1 : inR a1) : CtRI κ mX9_size 0 [vi a1] b μ σ (Mo_size a1) := by
  intro r h
  refine con_of (by decide) (Nat.le_of_ble_eq_true rfl) 0 ?_
  refine (?_ : Rk κ mX9_size _ 0 [some (vi a1)] [] (ms b μ σ) (Mo_size a1) (fun a => a = r)) _ h rfl
  unfold Mo_size
  refine Rk.sp (G_iload_n (pc := 0) 0 rfl rfl dX9_size_0) ?_
  refine Rk.if_ge (pc := 1) (tgt := 9) dX9_size_1 (nmI ha1) rfl (fun hc1 => ?_) (fun hc1 => ?_)
  · refine Rk.sp (G_iload_n (pc := 4) 0 rfl rfl dX9_size_4) ?_
    refine Rk.sp (G_ineg (pc := 5) dX9_size_5) ?_
    refine Rk.sp (G_goto (pc := 6) (tgt := 10) dX9_size_6 rfl) ?_
    refine Rk.sp (Go.n0 (nmW _)) ?_
    exact Rk.end_ (fun h => G_ireturn (pc := 10) rfl dX9_size_10 (q_RI h (wrR _)))
  · refine Rk.sp (G_iload_n (pc := 9) 0 rfl rfl dX9_size_9) ?_
    exact Rk.end_ (fun h => G_ireturn (pc := 10) rfl dX9_size_10 (q_RI h ha1))
theorem k_Mo_farFromMiddle {κ : Kx} {μ : Sg} (a1 : Int) (a2 : Int) (σ : Sg) (ha1 : inR a1) (ha2 : inR a2) (hok : okS σ) : CtRI κ mX9_farFromMiddle 1 [vr 172, vi a1, vi a2] true μ σ (Mo_farFromMiddle a1 a2 σ) := by
  intro r h
  refine con_of (by decide) (Nat.le_of_ble_eq_true rfl) 2 ?_
  refine (?_ : Rk κ mX9_farFromMiddle _ 0 [some (vr 172), some (vi a1), some (vi a2), none, none] [] (ms true μ σ) (Mo_farFromMiddle a1 a2 σ) (fun a => a = r)) _ h rfl
  unfold Mo_farFromMiddle
  refine Rk.sp (G_iconst (pc := 0) dX9_farFromMiddle_0) ?_
  refine Rk.isa_n (pc := 1) 3 (L' := [some (vr 172), some (vi a1), some (vi a2), some (vi 0), none]) rfl (Nat.le_of_ble_eq_true rfl) rfl dX9_farFromMiddle_1 rfl ?_
  refine Rk.sp (G_iload_n (pc := 2) 1 rfl rfl dX9_farFromMiddle_2) ?_
  refine Rk.isa_w (pc := 3) 4 (L' := [some (vr 172), some (vi a1), some (vi a2), some (vi 0), some (vi a1)]) (Nat.le_of_ble_eq_true rfl) rfl dX9_farFromMiddle_3 rfl ?_
  refine Rk.loop (pc := 5) (B := (fun p => Mo_farFromMiddle_5_b a2 a1 σ p.1 p.2)) (fun p => inR p.1 ∧ inR p.2) (fun p => [some (vr 172), some (vi a1), some (vi a2), some (vi p.1), some (vi p.2)]) (fun p => (ms true μ σ)) (fun p hp => ?_) (0, a1) ⟨(inRk 0 rfl), ha1⟩
  obtain ⟨v3_1, v4_2⟩ := p
  obtain ⟨hv3_1, hv4_2⟩ := hp
  try dsimp only
  unfold Mo_farFromMiddle_5_b
  refine Rk.sp (G_iload_w (pc := 5) 4 rfl dX9_farFromMiddle_5) ?_
  refine Rk.sp (G_iload_n (pc := 7) 2 rfl rfl dX9_farFromMiddle_7) ?_
  refine Rk.icmp_ge (pc := 8) (tgt := 43) dX9_farFromMiddle_8 (nmI hv4_2) (nmI ha2) rfl (fun hc3 => ?_) (fun hc3 => ?_)
  · refine Rk.sp (G_iload_n (pc := 11) 3 rfl rfl dX9_farFromMiddle_11) ?_
    refine Rk.sp (G_aload_n (pc := 12) 0 rfl rfl dX9_farFromMiddle_12) ?_
    refine Rk.gR (pc := 13) 186 flX9_56 cl9 rfl lb172 dX9_farFromMiddle_13 ?_
    refine Rk.sp (G_iload_w (pc := 16) 4 rfl dX9_farFromMiddle_16) ?_
    refine Rk.al (pc := 18) lb186 dX9_farFromMiddle_18 (fun hi4 => ?_)
    refine Rk.sp (G_aload_n (pc := 19) 0 rfl rfl dX9_farFromMiddle_19) ?_
    refine Rk.gR (pc := 20) 186 flX9_56 cl9 rfl lb172 dX9_farFromMiddle_20 ?_
    refine Rk.sp (G_iload_n (pc := 23) 1 rfl rfl dX9_farFromMiddle_23) ?_
    refine Rk.sp (G_iload_n (pc := 24) 2 rfl rfl dX9_farFromMiddle_24) ?_
    refine Rk.sp (G_iadd (pc := 25) dX9_farFromMiddle_25) ?_
    refine Rk.sp (G_iconst (pc := 26) dX9_farFromMiddle_26) ?_
    refine Rk.sp (G_isub (pc := 27) dX9_farFromMiddle_27) ?_
    refine Rk.sp (G_iconst (pc := 28) dX9_farFromMiddle_28) ?_
    refine Rk.sp (G_idiv (pc := 29) dX9_farFromMiddle_29 (nmW _) (nmI (inRk 2 rfl)) (by decide)) ?_
    refine Rk.al (pc := 30) lb186 dX9_farFromMiddle_30 (fun hi5 => ?_)
    refine Rk.sp (G_isub (pc := 31) dX9_farFromMiddle_31) ?_
    refine Rk.sp (Go.n0 (nmW _)) ?_
    refine Rk.cRI (pc := 32) (Cl.s [vi (wr ((σ 186 (v4_2).toNat) - (σ 186 ((Int.tdiv (wr ((a1 + a2) - 1)) 2)).toNat)))] [vi v3_1] dX9_farFromMiddle_32 ckX9_445 rfl rfl (Nat.le_of_ble_eq_true rfl) (Nat.le_of_ble_eq_true rfl)) (k_Mo_size (wr ((σ 186 (v4_2).toNat) - (σ 186 ((Int.tdiv (wr ((a1 + a2) - 1)) 2)).toNat))) (wrR _)) (fun r6 hr6 => ?_)
    refine Rk.sp (G_iadd (pc := 35) dX9_farFromMiddle_35) ?_
    refine Rk.ist_n (pc := 36) 3 (fun v3_7 => [some (vr 172), some (vi a1), some (vi a2), some (vi v3_7), some (vi v4_2)]) rfl (Nat.le_of_ble_eq_true rfl) rfl dX9_farFromMiddle_36 (nmW _) (fun _ => rfl) (fun v3_7 hv3_7 => ?_)
    refine Rk.inc (pc := 37) 4 (fun v4_8 => [some (vr 172), some (vi a1), some (vi a2), some (vi v3_7), some (vi v4_8)]) rfl (Nat.le_of_ble_eq_true rfl) rfl dX9_farFromMiddle_37 (fun _ => rfl) (fun v4_8 hv4_8 => ?_)
    refine Rk.sp (G_goto (pc := 40) (tgt := 5) dX9_farFromMiddle_40 rfl) ?_
    exact Rk.end_ (fun h => h ⟨hv3_7, hv4_8⟩)
  · refine Rk.sp (G_iload_n (pc := 43) 3 rfl rfl dX9_farFromMiddle_43) ?_
    exact Rk.end_ (fun h => G_ireturn (pc := 44) rfl dX9_farFromMiddle_44 (q_RI h hv3_1))
theorem k_Mo_fault {κ : Kx} {μ : Sg} (a1 : Int) (σ : Sg) (ha1 : inR a1) (hok : okS σ) : CtRI κ mX9_fault 0 [vr 172, vi a1] true μ σ (Mo_fault a1 σ) := by
  intro r h
  refine con_of (by decide) (Nat.le_of_ble_eq_true rfl) 0 ?_
  refine (?_ : Rk κ mX9_fault _ 0 [some (vr 172), some (vi a1)] [] (ms true μ σ) (Mo_fault a1 σ) (fun a => a = r)) _ h rfl
  unfold Mo_fault
  refine Rk.sp (G_iload_n (pc := 0) 1 rfl rfl dX9_fault_0) ?_
  refine Rk.if_ne (pc := 1) (tgt := 11) dX9_fault_1 (nmI ha1) rfl (fun hc1 => ?_) (fun hc1 => ?_)
  · refine Rk.sp (G_aload_n (pc := 4) 0 rfl rfl dX9_fault_4) ?_
    refine Rk.gI (pc := 5) flX9_290 cl9 rfl lb172 dX9_fault_5 ?_
    refine Rk.sp (G_goto (pc := 8) (tgt := 24) dX9_fault_8 rfl) ?_
    exact Rk.end_ (fun h => G_ireturn (pc := 24) rfl dX9_fault_24 (q_RI h (hok _ _)))
  · refine Rk.sp (G_iload_n (pc := 11) 1 rfl rfl dX9_fault_11) ?_
    refine Rk.sp (G_iconst (pc := 12) dX9_fault_12) ?_
    refine Rk.icmp_ne (pc := 13) (tgt := 23) dX9_fault_13 (nmI ha1) (nmI (inRk 1 rfl)) rfl (fun hc2 => ?_) (fun hc2 => ?_)
    · refine Rk.sp (G_aload_n (pc := 16) 0 rfl rfl dX9_fault_16) ?_
      refine Rk.gI (pc := 17) flX9_40 cl9 rfl lb172 dX9_fault_17 ?_
      refine Rk.sp (G_goto (pc := 20) (tgt := 24) dX9_fault_20 rfl) ?_
      exact Rk.end_ (fun h => G_ireturn (pc := 24) rfl dX9_fault_24 (q_RI h (hok _ _)))
    · refine Rk.sp (G_iconst (pc := 23) dX9_fault_23) ?_
      exact Rk.end_ (fun h => G_ireturn (pc := 24) rfl dX9_fault_24 (q_RI h (inRk (-1) rfl)))
theorem k_Mo_feed {κ : Kx} {μ : Sg} (a1 : Int) (a2 : Int) (a3 : Int) (a4 : Int) (a5 : Int) (σ : Sg) (ha1 : inR a1) (ha2 : inR a2) (ha3 : inR a3) (ha4 : inR a4) (ha5 : inR a5) (hok : okS σ) : CtI κ mX9_feed 0 [vr 172, vi a1, vi a2, vi a3, vi a4, vi a5] true μ σ (Mo_feed a1 a2 a3 a4 a5 σ) := by
  intro r τ h
  refine con_of (by decide) (Nat.le_of_ble_eq_true rfl) 2 ?_
  refine (?_ : Rk κ mX9_feed _ 0 [some (vr 172), some (vi a1), some (vi a2), some (vi a3), some (vi a4), some (vi a5), none, none] [] (ms true μ σ) (Mo_feed a1 a2 a3 a4 a5 σ) (fun a => a = (r, τ))) _ h rfl
  unfold Mo_feed
  refine Rk.sp (G_aload_n (pc := 0) 0 rfl rfl dX9_feed_0) ?_
  refine Rk.gI (pc := 1) flX9_94 cl9 rfl lb172 dX9_feed_1 ?_
  refine Rk.sp (G_bipush (pc := 4) dX9_feed_4 rfl) ?_
  refine Rk.sp (G_iadd (pc := 6) dX9_feed_6) ?_
  refine Rk.sp (G_sipush (pc := 7) dX9_feed_7 rfl) ?_
  refine Rk.icmp_le (pc := 10) (tgt := 15) dX9_feed_10 (nmW _) (nmI (inRk 400 rfl)) rfl (fun hc1 => ?_) (fun hc1 => ?_)
  · refine Rk.sp (G_iconst (pc := 13) dX9_feed_13) ?_
    exact Rk.end_ (fun h => G_ireturn (pc := 14) rfl dX9_feed_14 (q_I h (inRk (-1) rfl) hok))
  · refine Rk.sp (G_iconst (pc := 15) dX9_feed_15) ?_
    refine Rk.isa_w (pc := 16) 6 (L' := [some (vr 172), some (vi a1), some (vi a2), some (vi a3), some (vi a4), some (vi a5), some (vi 0), none]) (Nat.le_of_ble_eq_true rfl) rfl dX9_feed_16 rfl ?_
    refine Rk.loop (pc := 18) (B := (fun p => Mo_feed_18_b a1 a2 a3 a4 a5 p.1 p.2)) (fun p => inR p.1 ∧ okS p.2) (fun p => [some (vr 172), some (vi a1), some (vi a2), some (vi a3), some (vi a4), some (vi a5), some (vi p.1), none]) (fun p => (ms true μ p.2)) (fun p hp => ?_) (0, σ) ⟨(inRk 0 rfl), hok⟩
    obtain ⟨v6_2, σ3⟩ := p
    obtain ⟨hv6_2, hσ3⟩ := hp
    try dsimp only
    unfold Mo_feed_18_b
    refine Rk.sp (G_iload_w (pc := 18) 6 rfl dX9_feed_18) ?_
    refine Rk.sp (G_bipush (pc := 20) dX9_feed_20 rfl) ?_
    refine Rk.icmp_ge (pc := 22) (tgt := 115) dX9_feed_22 (nmI hv6_2) (nmI (inRk 20 rfl)) rfl (fun hc4 => ?_) (fun hc4 => ?_)
    · refine Rk.sp (G_iload_w (pc := 25) 6 rfl dX9_feed_25) ?_
      refine Rk.sp (G_iconst (pc := 27) dX9_feed_27) ?_
      refine Rk.join (P := fun p => inR p) (pcj := 71) (fun p => [some (vr 172), some (vi a1), some (vi a2), some (vi a3), some (vi a4), some (vi a5), some (vi v6_2), none]) (fun p => [vi p]) (fun p => (ms true μ σ3)) ?_ (fun p hp => ?_)
      · refine Rk.icmp_ge (pc := 28) (tgt := 35) dX9_feed_28 (nmI hv6_2) (nmI (inRk 4 rfl)) rfl (fun hc5 => ?_) (fun hc5 => ?_)
        · refine Rk.sp (G_iload_n (pc := 31) 1 rfl rfl dX9_feed_31) ?_
          refine Rk.sp (G_goto (pc := 32) (tgt := 71) dX9_feed_32 rfl) ?_
          exact Rk.end_ (fun h => h ha1)
        · refine Rk.sp (G_iload_w (pc := 35) 6 rfl dX9_feed_35) ?_
          refine Rk.sp (G_bipush (pc := 37) dX9_feed_37 rfl) ?_
          refine Rk.icmp_ge (pc := 39) (tgt := 46) dX9_feed_39 (nmI hv6_2) (nmI (inRk 8 rfl)) rfl (fun hc7 => ?_) (fun hc7 => ?_)
          · refine Rk.sp (G_iload_n (pc := 42) 2 rfl rfl dX9_feed_42) ?_
            refine Rk.sp (G_goto (pc := 43) (tgt := 71) dX9_feed_43 rfl) ?_
            exact Rk.end_ (fun h => h ha2)
          · refine Rk.sp (G_iload_w (pc := 46) 6 rfl dX9_feed_46) ?_
            refine Rk.sp (G_bipush (pc := 48) dX9_feed_48 rfl) ?_
            refine Rk.icmp_ge (pc := 50) (tgt := 57) dX9_feed_50 (nmI hv6_2) (nmI (inRk 12 rfl)) rfl (fun hc8 => ?_) (fun hc8 => ?_)
            · refine Rk.sp (G_iload_n (pc := 53) 3 rfl rfl dX9_feed_53) ?_
              refine Rk.sp (G_goto (pc := 54) (tgt := 71) dX9_feed_54 rfl) ?_
              exact Rk.end_ (fun h => h ha3)
            · refine Rk.sp (G_iload_w (pc := 57) 6 rfl dX9_feed_57) ?_
              refine Rk.sp (G_bipush (pc := 59) dX9_feed_59 rfl) ?_
              refine Rk.icmp_ge (pc := 61) (tgt := 69) dX9_feed_61 (nmI hv6_2) (nmI (inRk 16 rfl)) rfl (fun hc9 => ?_) (fun hc9 => ?_)
              · refine Rk.sp (G_iload_w (pc := 64) 4 rfl dX9_feed_64) ?_
                refine Rk.sp (G_goto (pc := 66) (tgt := 71) dX9_feed_66 rfl) ?_
                exact Rk.end_ (fun h => h ha4)
              · refine Rk.sp (G_iload_w (pc := 69) 5 rfl dX9_feed_69) ?_
                exact Rk.end_ (fun h => h ha5)
      · revert hp; revert p; intro t6 ht6
        try dsimp only
        refine Rk.isa_w (pc := 71) 7 (L' := [some (vr 172), some (vi a1), some (vi a2), some (vi a3), some (vi a4), some (vi a5), some (vi v6_2), some (vi t6)]) (Nat.le_of_ble_eq_true rfl) rfl dX9_feed_71 rfl ?_
        refine Rk.sp (G_aload_n (pc := 73) 0 rfl rfl dX9_feed_73) ?_
        refine Rk.gR (pc := 74) 180 flX9_31 cl9 rfl lb172 dX9_feed_74 ?_
        refine Rk.sp (G_aload_n (pc := 77) 0 rfl rfl dX9_feed_77) ?_
        refine Rk.gI (pc := 78) flX9_94 cl9 rfl lb172 dX9_feed_78 ?_
        refine Rk.sp (G_iload_w (pc := 81) 7 rfl dX9_feed_81) ?_
        refine Rk.sp (G_bipush (pc := 83) dX9_feed_83 rfl) ?_
        refine Rk.sp (G_bipush (pc := 85) dX9_feed_85 rfl) ?_
        refine Rk.sp (G_iload_w (pc := 87) 6 rfl dX9_feed_87) ?_
        refine Rk.sp (G_iconst (pc := 89) dX9_feed_89) ?_
        refine Rk.sp (G_irem (pc := 90) dX9_feed_90 (nmI hv6_2) (nmI (inRk 4 rfl)) (by decide)) ?_
        refine Rk.sp (G_imul (pc := 91) dX9_feed_91) ?_
        refine Rk.sp (G_isub (pc := 92) dX9_feed_92) ?_
        refine Rk.sp (G_ishr (pc := 93) dX9_feed_93) ?_
        refine Rk.sp (G_sipush (pc := 94) dX9_feed_94 rfl) ?_
        refine Rk.sp (G_iand (pc := 97) dX9_feed_97) ?_
        refine Rk.as (pc := 98) hσ3 (nmI (bAnd_R _ _)) lb180 dX9_feed_98 (fun hi11 σ10 hσ10 => ?_)
        refine Rk.sp (G_aload_n (pc := 99) 0 rfl rfl dX9_feed_99) ?_
        refine Rk.sp (G_dup (pc := 100) dX9_feed_100 (fun _ h => by cases h)) ?_
        refine Rk.gI (pc := 101) flX9_94 cl9 rfl lb172 dX9_feed_101 ?_
        refine Rk.sp (G_iconst (pc := 104) dX9_feed_104) ?_
        refine Rk.sp (G_iadd (pc := 105) dX9_feed_105) ?_
        refine Rk.pI (pc := 106) hσ10 (nmW _) flX9_94 cl9 rfl rfl lb172 dX9_feed_106 (fun σ12 hσ12 => ?_)
        refine Rk.inc (pc := 109) 6 (fun v6_13 => [some (vr 172), some (vi a1), some (vi a2), some (vi a3), some (vi a4), some (vi a5), some (vi v6_13), some (vi t6)]) rfl (Nat.le_of_ble_eq_true rfl) rfl dX9_feed_109 (fun _ => rfl) (fun v6_13 hv6_13 => ?_)
        refine Rk.sp (G_goto (pc := 112) (tgt := 18) dX9_feed_112 rfl) ?_
        refine Rk.fg [true, true, true, true, true, true, true, false] (L' := [some (vr 172), some (vi a1), some (vi a2), some (vi a3), some (vi a4), some (vi a5), some (vi v6_13), none]) rfl ?_
        exact Rk.end_ (fun h => h ⟨hv6_13, hσ12⟩)
    · refine Rk.sp (G_aload_n (pc := 115) 0 rfl rfl dX9_feed_115) ?_
      refine Rk.gI (pc := 116) flX9_94 cl9 rfl lb172 dX9_feed_116 ?_
      exact Rk.end_ (fun h => G_ireturn (pc := 119) rfl dX9_feed_119 (q_I h (hσ3 _ _) hσ3))
theorem k_Mo_isBusOf {κ : Kx} {μ : Sg} (a1 : Int) (a2 : Int) (σ : Sg) (ha1 : inR a1) (ha2 : inR a2) (hok : okS σ) : CtRZ κ mX9_isBusOf 0 [vr 172, vi a1, vi a2] true μ σ (Mo_isBusOf a1 a2 σ) := by
  intro r h
  refine con_of (by decide) (Nat.le_of_ble_eq_true rfl) 1 ?_
  refine (?_ : Rk κ mX9_isBusOf _ 0 [some (vr 172), some (vi a1), some (vi a2), none] [] (ms true μ σ) (Mo_isBusOf a1 a2 σ) (fun a => a = r)) _ h rfl
  unfold Mo_isBusOf
  refine Rk.sp (G_iconst (pc := 0) dX9_isBusOf_0) ?_
  refine Rk.isa_n (pc := 1) 3 (L' := [some (vr 172), some (vi a1), some (vi a2), some (vi 0)]) rfl (Nat.le_of_ble_eq_true rfl) rfl dX9_isBusOf_1 rfl ?_
  refine Rk.loop (pc := 2) (B := (fun p => Mo_isBusOf_2_b σ a1 a2 p)) (fun p => inR p) (fun p => [some (vr 172), some (vi a1), some (vi a2), some (vi p)]) (fun p => (ms true μ σ)) (fun p hp => ?_) 0 (inRk 0 rfl)
  revert hp; revert p; intro v3_1 hv3_1
  try dsimp only
  unfold Mo_isBusOf_2_b
  refine Rk.sp (G_iload_n (pc := 2) 3 rfl rfl dX9_isBusOf_2) ?_
  refine Rk.sp (G_aload_n (pc := 3) 0 rfl rfl dX9_isBusOf_3) ?_
  refine Rk.gR (pc := 4) 173 flX9_7 cl9 rfl lb172 dX9_isBusOf_4 ?_
  refine Rk.sp (G_sipush (pc := 7) dX9_isBusOf_7 rfl) ?_
  refine Rk.alc (pc := 10) 554 rfl (Nat.le_of_ble_eq_true rfl) lb173 dX9_isBusOf_10 ?_
  refine Rk.icmp_ge (pc := 11) (tgt := 54) dX9_isBusOf_11 (nmI hv3_1) (nmI (hok _ _)) rfl (fun hc2 => ?_) (fun hc2 => ?_)
  · refine Rk.sp (G_aload_n (pc := 14) 0 rfl rfl dX9_isBusOf_14) ?_
    refine Rk.gR (pc := 15) 173 flX9_7 cl9 rfl lb172 dX9_isBusOf_15 ?_
    refine Rk.sp (G_sipush (pc := 18) dX9_isBusOf_18 rfl) ?_
    refine Rk.sp (G_iload_n (pc := 21) 3 rfl rfl dX9_isBusOf_21) ?_
    refine Rk.sp (G_iadd (pc := 22) dX9_isBusOf_22) ?_
    refine Rk.al (pc := 23) lb173 dX9_isBusOf_23 (fun hi3 => ?_)
    refine Rk.sp (G_iload_n (pc := 24) 1 rfl rfl dX9_isBusOf_24) ?_
    refine Rk.icmp_lt (pc := 25) (tgt := 46) dX9_isBusOf_25 (nmI (hok _ _)) (nmI ha1) rfl (fun hc4 => ?_) (fun hc4 => ?_)
    · refine Rk.sp (G_iconst (pc := 46) dX9_isBusOf_46) ?_
      exact Rk.end_ (fun h => G_zreturn (pc := 47) rfl (nz inZ0) dX9_isBusOf_47 (q_RZ h inZ0))
    · refine Rk.sp (G_aload_n (pc := 28) 0 rfl rfl dX9_isBusOf_28) ?_
      refine Rk.gR (pc := 29) 173 flX9_7 cl9 rfl lb172 dX9_isBusOf_29 ?_
      refine Rk.sp (G_sipush (pc := 32) dX9_isBusOf_32 rfl) ?_
      refine Rk.sp (G_iload_n (pc := 35) 3 rfl rfl dX9_isBusOf_35) ?_
      refine Rk.sp (G_iadd (pc := 36) dX9_isBusOf_36) ?_
      refine Rk.al (pc := 37) lb173 dX9_isBusOf_37 (fun hi5 => ?_)
      refine Rk.sp (G_iload_n (pc := 38) 1 rfl rfl dX9_isBusOf_38) ?_
      refine Rk.sp (G_isub (pc := 39) dX9_isBusOf_39) ?_
      refine Rk.sp (G_iload_n (pc := 40) 2 rfl rfl dX9_isBusOf_40) ?_
      refine Rk.qnz (fun hz6 => ?_)
      refine Rk.sp (G_irem (pc := 41) dX9_isBusOf_41 (nmW _) (nmI ha2) hz6) ?_
      refine Rk.sp (G_iconst (pc := 42) dX9_isBusOf_42) ?_
      refine Rk.icmp_le (pc := 43) (tgt := 48) dX9_isBusOf_43 (nmI (tmodR (wrR _))) (nmI (inRk 1 rfl)) rfl (fun hc7 => ?_) (fun hc7 => ?_)
      · refine Rk.sp (G_iconst (pc := 46) dX9_isBusOf_46) ?_
        exact Rk.end_ (fun h => G_zreturn (pc := 47) rfl (nz inZ0) dX9_isBusOf_47 (q_RZ h inZ0))
      · refine Rk.inc (pc := 48) 3 (fun v3_8 => [some (vr 172), some (vi a1), some (vi a2), some (vi v3_8)]) rfl (Nat.le_of_ble_eq_true rfl) rfl dX9_isBusOf_48 (fun _ => rfl) (fun v3_8 hv3_8 => ?_)
        refine Rk.sp (G_goto (pc := 51) (tgt := 2) dX9_isBusOf_51 rfl) ?_
        exact Rk.end_ (fun h => h hv3_8)
  · refine Rk.sp (G_iconst (pc := 54) dX9_isBusOf_54) ?_
    exact Rk.end_ (fun h => G_zreturn (pc := 55) rfl (nz inZ1) dX9_isBusOf_55 (q_RZ h inZ1))
theorem k_Mo_fits {κ : Kx} {μ : Sg} (a1 : Int) (σ : Sg) (ha1 : inR a1) (hok : okS σ) : CtRI κ mX9_fits 1 [vr 172, vi a1] true μ σ (Mo_fits a1 σ) := by
  intro r h
  refine con_of (by decide) (Nat.le_of_ble_eq_true rfl) 5 ?_
  refine (?_ : Rk κ mX9_fits _ 0 [some (vr 172), some (vi a1), none, none, none, none, none] [] (ms true μ σ) (Mo_fits a1 σ) (fun a => a = r)) _ h rfl
  unfold Mo_fits
  refine Rk.sp (G_iload_n (pc := 0) 1 rfl rfl dX9_fits_0) ?_
  refine Rk.sp (G_iconst (pc := 1) dX9_fits_1) ?_
  refine Rk.sp (G_iconst (pc := 2) dX9_fits_2) ?_
  refine Rk.cRZ (pc := 3) (Cl.s [vi a1, vi 0, vi 2] [] dX9_fits_3 ckX9_72 rfl rfl (Nat.le_of_ble_eq_true rfl) (Nat.le_of_ble_eq_true rfl)) (k_Mo_isIn a1 0 2 ha1 (inRk 0 rfl) (inRk 2 rfl)) (fun r1 hr1 => ?_)
  refine Rk.if_ne (pc := 6) (tgt := 11) dX9_fits_6 (nmI (inZ.R hr1)) rfl (fun hc2 => ?_) (fun hc2 => ?_)
  · refine Rk.sp (G_iconst (pc := 9) dX9_fits_9) ?_
    exact Rk.end_ (fun h => G_ireturn (pc := 10) rfl dX9_fits_10 (q_RI h (inRk (-1) rfl)))
  · refine Rk.sp (G_iconst (pc := 11) dX9_fits_11) ?_
    refine Rk.isa_n (pc := 12) 2 (L' := [some (vr 172), some (vi a1), some (vi 0), none, none, none, none]) rfl (Nat.le_of_ble_eq_true rfl) rfl dX9_fits_12 rfl ?_
    refine Rk.sp (G_iconst (pc := 13) dX9_fits_13) ?_
    refine Rk.isa_n (pc := 14) 3 (L' := [some (vr 172), some (vi a1), some (vi 0), some (vi (-1)), none, none, none]) rfl (Nat.le_of_ble_eq_true rfl) rfl dX9_fits_14 rfl ?_
    refine Rk.sp (G_iconst (pc := 15) dX9_fits_15) ?_
    refine Rk.isa_w (pc := 16) 4 (L' := [some (vr 172), some (vi a1), some (vi 0), some (vi (-1)), some (vi (-1)), none, none]) (Nat.le_of_ble_eq_true rfl) rfl dX9_fits_16 rfl ?_
    refine Rk.sp (G_bipush (pc := 18) dX9_fits_18 rfl) ?_
    refine Rk.isa_w (pc := 20) 5 (L' := [some (vr 172), some (vi a1), some (vi 0), some (vi (-1)), some (vi (-1)), some (vi 10), none]) (Nat.le_of_ble_eq_true rfl) rfl dX9_fits_20 rfl ?_
    refine Rk.loop (pc := 22) (B := (fun p => Mo_fits_22_b a1 σ p.1 p.2.1 p.2.2.1 p.2.2.2)) (fun p => inR p.1 ∧ inR p.2.1 ∧ inR p.2.2.1 ∧ inR p.2.2.2) (fun p => [some (vr 172), some (vi a1), some (vi p.1), some (vi p.2.1), some (vi p.2.2.1), some (vi p.2.2.2), none]) (fun p => (ms true μ σ)) (fun p hp => ?_) (0, (-1), (-1), 10) ⟨(inRk 0 rfl), (inRk (-1) rfl), (inRk (-1) rfl), (inRk 10 rfl)⟩
    obtain ⟨v2_3, v3_4, v4_5, v5_6⟩ := p
    obtain ⟨hv2_3, hv3_4, hv4_5, hv5_6⟩ := hp
    try dsimp only
    unfold Mo_fits_22_b
    refine Rk.sp (G_iload_w (pc := 22) 5 rfl dX9_fits_22) ?_
    refine Rk.sp (G_bipush (pc := 24) dX9_fits_24 rfl) ?_
    refine Rk.icmp_gt (pc := 26) (tgt := 76) dX9_fits_26 (nmI hv5_6) (nmI (inRk 60 rfl)) rfl (fun hc7 => ?_) (fun hc7 => ?_)
    · refine Rk.sp (G_iload_n (pc := 76) 1 rfl rfl dX9_fits_76) ?_
      refine Rk.if_ne (pc := 77) (tgt := 84) dX9_fits_77 (nmI ha1) rfl (fun hc8 => ?_) (fun hc8 => ?_)
      · refine Rk.sp (G_iload_n (pc := 80) 2 rfl rfl dX9_fits_80) ?_
        refine Rk.sp (G_goto (pc := 81) (tgt := 95) dX9_fits_81 rfl) ?_
        exact Rk.end_ (fun h => G_ireturn (pc := 95) rfl dX9_fits_95 (q_RI h hv2_3))
      · refine Rk.sp (G_iload_n (pc := 84) 1 rfl rfl dX9_fits_84) ?_
        refine Rk.sp (G_iconst (pc := 85) dX9_fits_85) ?_
        refine Rk.icmp_ne (pc := 86) (tgt := 93) dX9_fits_86 (nmI ha1) (nmI (inRk 1 rfl)) rfl (fun hc9 => ?_) (fun hc9 => ?_)
        · refine Rk.sp (G_iload_n (pc := 89) 3 rfl rfl dX9_fits_89) ?_
          refine Rk.sp (G_goto (pc := 90) (tgt := 95) dX9_fits_90 rfl) ?_
          exact Rk.end_ (fun h => G_ireturn (pc := 95) rfl dX9_fits_95 (q_RI h hv3_4))
        · refine Rk.sp (G_iload_w (pc := 93) 4 rfl dX9_fits_93) ?_
          exact Rk.end_ (fun h => G_ireturn (pc := 95) rfl dX9_fits_95 (q_RI h hv4_5))
    · refine Rk.sp (G_iload_w (pc := 29) 5 rfl dX9_fits_29) ?_
      refine Rk.sp (G_iconst (pc := 31) dX9_fits_31) ?_
      refine Rk.sp (G_isub (pc := 32) dX9_fits_32) ?_
      refine Rk.ist_w (pc := 33) 6 (fun v6_10 => [some (vr 172), some (vi a1), some (vi v2_3), some (vi v3_4), some (vi v4_5), some (vi v5_6), some (vi v6_10)]) (Nat.le_of_ble_eq_true rfl) rfl dX9_fits_33 (nmW _) (fun _ => rfl) (fun v6_10 hv6_10 => ?_)
      refine Rk.loop (pc := 35) (B := (fun p => Mo_fits_35_b v5_6 σ p.1 p.2.1 p.2.2.1 p.2.2.2)) (fun p => inR p.1 ∧ inR p.2.1 ∧ inR p.2.2.1 ∧ inR p.2.2.2) (fun p => [some (vr 172), some (vi a1), some (vi p.1), some (vi p.2.1), some (vi p.2.2.1), some (vi v5_6), some (vi p.2.2.2)]) (fun p => (ms true μ σ)) (fun p hp => ?_) (v2_3, v3_4, v4_5, v6_10) ⟨hv2_3, hv3_4, hv4_5, hv6_10⟩
      obtain ⟨v2_11, v3_12, v4_13, v6_14⟩ := p
      obtain ⟨hv2_11, hv3_12, hv4_13, hv6_14⟩ := hp
      try dsimp only
      unfold Mo_fits_35_b
      refine Rk.sp (G_iload_w (pc := 35) 6 rfl dX9_fits_35) ?_
      refine Rk.if_lt (pc := 37) (tgt := 70) dX9_fits_37 (nmI hv6_14) rfl (fun hc15 => ?_) (fun hc15 => ?_)
      · refine Rk.inc (pc := 70) 5 (fun v5_16 => [some (vr 172), some (vi a1), some (vi v2_11), some (vi v3_12), some (vi v4_13), some (vi v5_16), some (vi v6_14)]) rfl (Nat.le_of_ble_eq_true rfl) rfl dX9_fits_70 (fun _ => rfl) (fun v5_16 hv5_16 => ?_)
        refine Rk.sp (G_goto (pc := 73) (tgt := 22) dX9_fits_73 rfl) ?_
        refine Rk.fg [true, true, true, true, true, true, false] (L' := [some (vr 172), some (vi a1), some (vi v2_11), some (vi v3_12), some (vi v4_13), some (vi v5_16), none]) rfl ?_
        exact Rk.end_ (fun h => h ⟨hv2_11, hv3_12, hv4_13, hv5_16⟩)
      · refine Rk.sp (G_aload_n (pc := 40) 0 rfl rfl dX9_fits_40) ?_
        refine Rk.sp (G_iload_w (pc := 41) 6 rfl dX9_fits_41) ?_
        refine Rk.sp (G_iload_w (pc := 43) 5 rfl dX9_fits_43) ?_
        refine Rk.cRZ (pc := 45) (Cl.v [vi v6_14, vi v5_6] [] dX9_fits_45 ckX9_454 lb172 rfl rfl rfl (Nat.le_of_ble_eq_true rfl) (Nat.le_of_ble_eq_true rfl)) (k_Mo_isBusOf v6_14 v5_6 σ hv6_14 hv5_6 hok) (fun r17 hr17 => ?_)
        refine Rk.if_ne (pc := 48) (tgt := 54) dX9_fits_48 (nmI (inZ.R hr17)) rfl (fun hc18 => ?_) (fun hc18 => ?_)
        · refine Rk.sp (G_goto (pc := 51) (tgt := 64) dX9_fits_51 rfl) ?_
          refine Rk.inc (pc := 64) 6 (fun v6_19 => [some (vr 172), some (vi a1), some (vi v2_11), some (vi v3_12), some (vi v4_13), some (vi v5_6), some (vi v6_19)]) rfl (Nat.le_of_ble_eq_true rfl) rfl dX9_fits_64 (fun _ => rfl) (fun v6_19 hv6_19 => ?_)
          refine Rk.sp (G_goto (pc := 67) (tgt := 35) dX9_fits_67 rfl) ?_
          exact Rk.end_ (fun h => h ⟨hv2_11, hv3_12, hv4_13, hv6_19⟩)
        · refine Rk.inc (pc := 54) 2 (fun v2_20 => [some (vr 172), some (vi a1), some (vi v2_20), some (vi v3_12), some (vi v4_13), some (vi v5_6), some (vi v6_14)]) rfl (Nat.le_of_ble_eq_true rfl) rfl dX9_fits_54 (fun _ => rfl) (fun v2_20 hv2_20 => ?_)
          refine Rk.sp (G_iload_w (pc := 57) 5 rfl dX9_fits_57) ?_
          refine Rk.isa_n (pc := 59) 3 (L' := [some (vr 172), some (vi a1), some (vi v2_20), some (vi v5_6), some (vi v4_13), some (vi v5_6), some (vi v6_14)]) rfl (Nat.le_of_ble_eq_true rfl) rfl dX9_fits_59 rfl ?_
          refine Rk.sp (G_iload_w (pc := 60) 6 rfl dX9_fits_60) ?_
          refine Rk.isa_w (pc := 62) 4 (L' := [some (vr 172), some (vi a1), some (vi v2_20), some (vi v5_6), some (vi v6_14), some (vi v5_6), some (vi v6_14)]) (Nat.le_of_ble_eq_true rfl) rfl dX9_fits_62 rfl ?_
          refine Rk.inc (pc := 64) 6 (fun v6_21 => [some (vr 172), some (vi a1), some (vi v2_20), some (vi v5_6), some (vi v6_14), some (vi v5_6), some (vi v6_21)]) rfl (Nat.le_of_ble_eq_true rfl) rfl dX9_fits_64 (fun _ => rfl) (fun v6_21 hv6_21 => ?_)
          refine Rk.sp (G_goto (pc := 67) (tgt := 35) dX9_fits_67 rfl) ?_
          exact Rk.end_ (fun h => h ⟨hv2_20, hv5_6, hv6_14, hv6_21⟩)
theorem k_Mo_forgets {κ : Kx} {μ : Sg} (σ : Sg) (hok : okS σ) : CtV κ mX9_forgets 0 [vr 172] true μ σ (Mo_forgets σ) := by
  intro τ h
  refine con_of (by decide) (Nat.le_of_ble_eq_true rfl) 0 ?_
  refine (?_ : Rk κ mX9_forgets _ 0 [some (vr 172)] [] (ms true μ σ) (Mo_forgets σ) (fun a => a = τ)) _ h rfl
  unfold Mo_forgets
  refine Rk.sp (G_aload_n (pc := 0) 0 rfl rfl dX9_forgets_0) ?_
  refine Rk.sp (G_iconst (pc := 1) dX9_forgets_1) ?_
  refine Rk.pI (pc := 2) hok (nmI (inRk 0 rfl)) flX9_83 cl9 rfl rfl lb172 dX9_forgets_2 (fun σ1 hσ1 => ?_)
  exact Rk.end_ (fun h => G_return (pc := 5) rfl dX9_forgets_5 (q_V h hσ1))
theorem k_Mo_heapOf {κ : Kx} {μ : Sg} (a1 : Int) (σ : Sg) (ha1 : inR a1) (hok : okS σ) : CtRI κ mX9_heapOf 3 [vr 172, vi a1] true μ σ (Mo_heapOf a1 σ) := by
  intro r h
  refine con_of (by decide) (Nat.le_of_ble_eq_true rfl) 0 ?_
  refine (?_ : Rk κ mX9_heapOf _ 0 [some (vr 172), some (vi a1)] [] (ms true μ σ) (Mo_heapOf a1 σ) (fun a => a = r)) _ h rfl
  unfold Mo_heapOf
  refine Rk.sp (G_aload_n (pc := 0) 0 rfl rfl dX9_heapOf_0) ?_
  refine Rk.sp (G_iload_n (pc := 1) 1 rfl rfl dX9_heapOf_1) ?_
  refine Rk.cRZ (pc := 2) (Cl.v [vi a1] [] dX9_heapOf_2 ckX9_354 lb172 rfl rfl rfl (Nat.le_of_ble_eq_true rfl) (Nat.le_of_ble_eq_true rfl)) (k_Mo_isUnread a1 σ ha1 hok) (fun r1 hr1 => ?_)
  refine Rk.if_eq (pc := 5) (tgt := 26) dX9_heapOf_5 (nmI (inZ.R hr1)) rfl (fun hc2 => ?_) (fun hc2 => ?_)
  · refine Rk.sp (G_iconst (pc := 26) dX9_heapOf_26) ?_
    exact Rk.end_ (fun h => G_ireturn (pc := 27) rfl dX9_heapOf_27 (q_RI h (inRk 0 rfl)))
  · refine Rk.sp (G_aload_n (pc := 8) 0 rfl rfl dX9_heapOf_8) ?_
    refine Rk.sp (G_iload_n (pc := 9) 1 rfl rfl dX9_heapOf_9) ?_
    refine Rk.sp (G_iconst (pc := 10) dX9_heapOf_10) ?_
    refine Rk.cRI (pc := 11) (Cl.v [vi a1, vi 3] [] dX9_heapOf_11 ckX9_76 lb172 rfl rfl rfl (Nat.le_of_ble_eq_true rfl) (Nat.le_of_ble_eq_true rfl)) (k_Mo_of0 a1 3 σ ha1 (inRk 3 rfl) hok) (fun r3 hr3 => ?_)
    refine Rk.sp (G_aload_n (pc := 14) 0 rfl rfl dX9_heapOf_14) ?_
    refine Rk.sp (G_iload_n (pc := 15) 1 rfl rfl dX9_heapOf_15) ?_
    refine Rk.sp (G_iconst (pc := 16) dX9_heapOf_16) ?_
    refine Rk.cRI (pc := 17) (Cl.v [vi a1, vi 4] [vi r3] dX9_heapOf_17 ckX9_76 lb172 rfl rfl rfl (Nat.le_of_ble_eq_true rfl) (Nat.le_of_ble_eq_true rfl)) (k_Mo_of0 a1 4 σ ha1 (inRk 4 rfl) hok) (fun r4 hr4 => ?_)
    refine Rk.sp (G_iconst (pc := 20) dX9_heapOf_20) ?_
    refine Rk.sp (G_iadd (pc := 21) dX9_heapOf_21) ?_
    refine Rk.qnz (fun hz5 => ?_)
    refine Rk.sp (G_irem (pc := 22) dX9_heapOf_22 (nmI hr3) (nmW _) hz5) ?_
    refine Rk.sp (G_goto (pc := 23) (tgt := 27) dX9_heapOf_23 rfl) ?_
    exact Rk.end_ (fun h => G_ireturn (pc := 27) rfl dX9_heapOf_27 (q_RI h (tmodR hr3)))
