theorem k_Re_parseSingle {κ : Kx} {μ : Sg} : ∀ (n : Nat) (a1 : Int) (σ : Sg) (ha1 : inR a1) (hok : okS σ), CtZ κ mX4_parseSingle (9 + 3 * n) [vr 141, vi a1] false μ σ (Re_parseSingle n a1 σ)
  | 0, a1, σ, ha1, hok => by
    intro r τ h; cases h
  | n + 1, a1, σ, ha1, hok => by
    have ih := k_Re_parseSingle (κ := κ) (μ := μ) n
    generalize hen : 9 + 3 * n = e at ih
    intro r τ h
    refine con_of (by decide) (Nat.le_of_ble_eq_true rfl) 2 ?_
    refine (?_ : Rk κ mX4_parseSingle _ 0 [some (vr 141), some (vi a1), none, none] [] (ms false μ σ) (Re_parseSingle (n + 1) a1 σ) (fun a => a = (r, τ))) _ h rfl
    unfold Re_parseSingle
    refine Rk.sp (G_aload_n (pc := 0) 0 rfl rfl dX4_parseSingle_0) ?_
    refine Rk.sp (G_bipush (pc := 1) dX4_parseSingle_1 rfl) ?_
    refine Rk.cRZ (pc := 3) (Cl.v [vi 8] [] dX4_parseSingle_3 ckX4_134 lb141 rfl rfl rfl (Nat.le_of_ble_eq_true rfl) (by omega)) (k_Re_isWord 8 σ (inRk 8 rfl) hok) (fun r1 hr1 => ?_)
    refine Rk.isa_n (pc := 6) 2 (L' := [some (vr 141), some (vi a1), some (vi r1), none]) rfl (Nat.le_of_ble_eq_true rfl) rfl dX4_parseSingle_6 rfl ?_
    refine Rk.sp (G_iload_n (pc := 7) 2 rfl rfl dX4_parseSingle_7) ?_
    refine Rk.sel (A := 20) (B := 87) (st' := []) ?_ ?_ ?_
    · refine Rk.if_ne (pc := 8) (tgt := 20) dX4_parseSingle_8 (nmI (inZ.R hr1)) rfl (fun hc2 => ?_) (fun hc2 => ?_)
      · refine Rk.sp (G_aload_n (pc := 11) 0 rfl rfl dX4_parseSingle_11) ?_
        refine Rk.sp (G_bipush (pc := 12) dX4_parseSingle_12 rfl) ?_
        refine Rk.cRZ (pc := 14) (Cl.v [vi 40] [] dX4_parseSingle_14 ckX4_156 lb141 rfl rfl rfl (Nat.le_of_ble_eq_true rfl) (by omega)) (k_Re_isSign 40 σ (inRk 40 rfl) hok) (fun r3 hr3 => ?_)
        refine Rk.if_eq (pc := 17) (tgt := 87) dX4_parseSingle_17 (nmI (inZ.R hr3)) rfl (fun hc4 => ?_) (fun hc4 => ?_)
        · exact Rk.end_ (fun h => h inZ0)
        · exact Rk.end_ (fun h => h inZ1)
      · exact Rk.end_ (fun h => h inZ1)
    · refine Rk.sp (G_aload_n (pc := 87) 0 rfl rfl dX4_parseSingle_87) ?_
      refine Rk.cZ (pc := 88) (Cl.v [] [] dX4_parseSingle_88 ckX4_131 lb141 rfl rfl rfl (Nat.le_of_ble_eq_true rfl) (by omega)) (k_Re_parseSum σ hok) (fun r20 σ21 hr20 hσ21 => ?_)
      refine Rk.if_ne (pc := 91) (tgt := 96) dX4_parseSingle_91 (nmI (inZ.R hr20)) rfl (fun hc22 => ?_) (fun hc22 => ?_)
      · refine Rk.sp (G_iconst (pc := 94) dX4_parseSingle_94) ?_
        exact Rk.end_ (fun h => G_zreturn (pc := 95) rfl (nz inZ0) dX4_parseSingle_95 (q_Z h inZ0 hσ21))
      · refine Rk.sp (G_aload_n (pc := 96) 0 rfl rfl dX4_parseSingle_96) ?_
        refine Rk.cRI (pc := 97) (Cl.v [] [] dX4_parseSingle_97 ckX4_159 lb141 rfl rfl rfl (Nat.le_of_ble_eq_true rfl) (by omega)) (k_Re_comparisonHere σ21 hσ21) (fun r23 hr23 => ?_)
        refine Rk.isa_n (pc := 100) 3 (L' := [some (vr 141), some (vi a1), some (vi r1), some (vi r23)]) rfl (Nat.le_of_ble_eq_true rfl) rfl dX4_parseSingle_100 rfl ?_
        refine Rk.sp (G_iload_n (pc := 101) 3 rfl rfl dX4_parseSingle_101) ?_
        refine Rk.sp (G_iconst (pc := 102) dX4_parseSingle_102) ?_
        refine Rk.icmp_ne (pc := 103) (tgt := 112) dX4_parseSingle_103 (nmI hr23) (nmI (inRk (-1) rfl)) rfl (fun hc24 => ?_) (fun hc24 => ?_)
        · refine Rk.sp (G_aload_n (pc := 106) 0 rfl rfl dX4_parseSingle_106) ?_
          refine Rk.sp (G_iconst (pc := 107) dX4_parseSingle_107) ?_
          refine Rk.cZ (pc := 108) (Cl.v [vi 1] [] dX4_parseSingle_108 ckX4_100 lb141 rfl rfl rfl (Nat.le_of_ble_eq_true rfl) (by omega)) (k_Re_refuse 1 σ21 (inRk 1 rfl) hσ21) (fun r25 σ26 hr25 hσ26 => ?_)
          exact Rk.end_ (fun h => G_zreturn (pc := 111) rfl (nz hr25) dX4_parseSingle_111 (q_Z h hr25 hσ26))
        · refine Rk.sp (G_aload_n (pc := 112) 0 rfl rfl dX4_parseSingle_112) ?_
          refine Rk.cV (pc := 113) (Cl.v [] [] dX4_parseSingle_113 ckX4_125 lb141 rfl rfl rfl (Nat.le_of_ble_eq_true rfl) (by omega)) (k_Re_advance σ21 hσ21) (fun σ27 hσ27 => ?_)
          refine Rk.sp (G_aload_n (pc := 116) 0 rfl rfl dX4_parseSingle_116) ?_
          refine Rk.cZ (pc := 117) (Cl.v [] [] dX4_parseSingle_117 ckX4_131 lb141 rfl rfl rfl (Nat.le_of_ble_eq_true rfl) (by omega)) (k_Re_parseSum σ27 hσ27) (fun r28 σ29 hr28 hσ29 => ?_)
          refine Rk.if_ne (pc := 120) (tgt := 125) dX4_parseSingle_120 (nmI (inZ.R hr28)) rfl (fun hc30 => ?_) (fun hc30 => ?_)
          · refine Rk.sp (G_iconst (pc := 123) dX4_parseSingle_123) ?_
            exact Rk.end_ (fun h => G_zreturn (pc := 124) rfl (nz inZ0) dX4_parseSingle_124 (q_Z h inZ0 hσ29))
          · refine Rk.sp (G_aload_n (pc := 125) 0 rfl rfl dX4_parseSingle_125) ?_
            refine Rk.gR (pc := 126) 142 flX4_16 cl4 rfl lb141 dX4_parseSingle_126 ?_
            refine Rk.sp (G_iload_n (pc := 129) 3 rfl rfl dX4_parseSingle_129) ?_
            refine Rk.cV (pc := 130) (Cl.v [vi r23] [] dX4_parseSingle_130 ckX4_153 lb142 rfl rfl rfl (Nat.le_of_ble_eq_true rfl) (by omega)) (k_Sh_emit 142 r23 σ29 lb142 hr23 hσ29) (fun σ31 hσ31 => ?_)
            refine Rk.sp (G_iconst (pc := 133) dX4_parseSingle_133) ?_
            exact Rk.end_ (fun h => G_zreturn (pc := 134) rfl (nz inZ1) dX4_parseSingle_134 (q_Z h inZ1 hσ31))
    · refine Rk.sp (G_iload_n (pc := 20) 1 rfl rfl dX4_parseSingle_20) ?_
      refine Rk.sp (G_bipush (pc := 21) dX4_parseSingle_21 rfl) ?_
      refine Rk.icmp_lt (pc := 23) (tgt := 32) dX4_parseSingle_23 (nmI ha1) (nmI (inRk 8 rfl)) rfl (fun hc5 => ?_) (fun hc5 => ?_)
      · refine Rk.sp (G_aload_n (pc := 32) 0 rfl rfl dX4_parseSingle_32) ?_
        refine Rk.cV (pc := 33) (Cl.v [] [] dX4_parseSingle_33 ckX4_125 lb141 rfl rfl rfl (Nat.le_of_ble_eq_true rfl) (by omega)) (k_Re_advance σ hok) (fun σ6 hσ6 => ?_)
        refine Rk.sp (G_iload_n (pc := 36) 2 rfl rfl dX4_parseSingle_36) ?_
        refine Rk.if_ne (pc := 37) (tgt := 65) dX4_parseSingle_37 (nmI (inZ.R hr1)) rfl (fun hc7 => ?_) (fun hc7 => ?_)
        · refine Rk.sp (G_aload_n (pc := 40) 0 rfl rfl dX4_parseSingle_40) ?_
          refine Rk.sp (G_iload_n (pc := 41) 1 rfl rfl dX4_parseSingle_41) ?_
          refine Rk.sp (G_iconst (pc := 42) dX4_parseSingle_42) ?_
          refine Rk.sp (G_iadd (pc := 43) dX4_parseSingle_43) ?_
          refine Rk.sp (Go.n0 (nmW _)) ?_
          refine Rk.cZ (pc := 44) (Cl.v [vi (wr (a1 + 1))] [] dX4_parseSingle_44 ckX4_137 lb141 rfl rfl rfl (Nat.le_of_ble_eq_true rfl) (by omega)) (k_Re_parseCondition (Re_parseSingle n) e ih (by omega) (wr (a1 + 1)) σ6 (wrR _) hσ6) (fun r8 σ9 hr8 hσ9 => ?_)
          refine Rk.if_eq (pc := 47) (tgt := 63) dX4_parseSingle_47 (nmI (inZ.R hr8)) rfl (fun hc10 => ?_) (fun hc10 => ?_)
          · refine Rk.sp (G_iconst (pc := 63) dX4_parseSingle_63) ?_
            exact Rk.end_ (fun h => G_zreturn (pc := 64) rfl (nz inZ0) dX4_parseSingle_64 (q_Z h inZ0 hσ9))
          · refine Rk.sp (G_aload_n (pc := 50) 0 rfl rfl dX4_parseSingle_50) ?_
            refine Rk.sp (G_bipush (pc := 51) dX4_parseSingle_51 rfl) ?_
            refine Rk.cZ (pc := 53) (Cl.v [vi 41] [] dX4_parseSingle_53 ckX4_119 lb141 rfl rfl rfl (Nat.le_of_ble_eq_true rfl) (by omega)) (k_Re_takeSign 41 σ9 (inRk 41 rfl) hσ9) (fun r11 σ12 hr11 hσ12 => ?_)
            refine Rk.if_eq (pc := 56) (tgt := 63) dX4_parseSingle_56 (nmI (inZ.R hr11)) rfl (fun hc13 => ?_) (fun hc13 => ?_)
            · refine Rk.sp (G_iconst (pc := 63) dX4_parseSingle_63) ?_
              exact Rk.end_ (fun h => G_zreturn (pc := 64) rfl (nz inZ0) dX4_parseSingle_64 (q_Z h inZ0 hσ12))
            · refine Rk.sp (G_iconst (pc := 59) dX4_parseSingle_59) ?_
              refine Rk.sp (G_goto (pc := 60) (tgt := 64) dX4_parseSingle_60 rfl) ?_
              exact Rk.end_ (fun h => G_zreturn (pc := 64) rfl (nz inZ1) dX4_parseSingle_64 (q_Z h inZ1 hσ12))
        · refine Rk.sp (G_aload_n (pc := 65) 0 rfl rfl dX4_parseSingle_65) ?_
          refine Rk.sp (G_iload_n (pc := 66) 1 rfl rfl dX4_parseSingle_66) ?_
          refine Rk.sp (G_iconst (pc := 67) dX4_parseSingle_67) ?_
          refine Rk.sp (G_iadd (pc := 68) dX4_parseSingle_68) ?_
          refine Rk.sp (Go.n0 (nmW _)) ?_
          refine Rk.cZ (pc := 69) (Cl.v [vi (wr (a1 + 1))] [] dX4_parseSingle_69 ckX4_150 lb141 rfl rfl rfl (Nat.le_of_ble_eq_true rfl) (by omega)) (ih (wr (a1 + 1)) σ6 (wrR _) hσ6) (fun r14 σ15 hr14 hσ15 => ?_)
          refine Rk.if_ne (pc := 72) (tgt := 77) dX4_parseSingle_72 (nmI (inZ.R hr14)) rfl (fun hc16 => ?_) (fun hc16 => ?_)
          · refine Rk.sp (G_iconst (pc := 75) dX4_parseSingle_75) ?_
            exact Rk.end_ (fun h => G_zreturn (pc := 76) rfl (nz inZ0) dX4_parseSingle_76 (q_Z h inZ0 hσ15))
          · refine Rk.sp (G_aload_n (pc := 77) 0 rfl rfl dX4_parseSingle_77) ?_
            refine Rk.gR (pc := 78) 142 flX4_16 cl4 rfl lb141 dX4_parseSingle_78 ?_
            refine Rk.sp (G_iconst (pc := 81) dX4_parseSingle_81) ?_
            refine Rk.cV (pc := 82) (Cl.v [vi 3] [] dX4_parseSingle_82 ckX4_153 lb142 rfl rfl rfl (Nat.le_of_ble_eq_true rfl) (by omega)) (k_Sh_emit 142 3 σ15 lb142 (inRk 3 rfl) hσ15) (fun σ17 hσ17 => ?_)
            refine Rk.sp (G_iconst (pc := 85) dX4_parseSingle_85) ?_
            exact Rk.end_ (fun h => G_zreturn (pc := 86) rfl (nz inZ1) dX4_parseSingle_86 (q_Z h inZ1 hσ17))
      · refine Rk.sp (G_aload_n (pc := 26) 0 rfl rfl dX4_parseSingle_26) ?_
        refine Rk.sp (G_iconst (pc := 27) dX4_parseSingle_27) ?_
        refine Rk.cZ (pc := 28) (Cl.v [vi 3] [] dX4_parseSingle_28 ckX4_100 lb141 rfl rfl rfl (Nat.le_of_ble_eq_true rfl) (by omega)) (k_Re_refuse 3 σ (inRk 3 rfl) hok) (fun r18 σ19 hr18 hσ19 => ?_)
        exact Rk.end_ (fun h => G_zreturn (pc := 31) rfl (nz hr18) dX4_parseSingle_31 (q_Z h hr18 hσ19))
theorem k_Ta_has {κ : Kx} {μ : Sg} (t0 : Nat) (a1 : Int) (σ : Sg) (ht0 : LB false t0 (1, 6)) (ha1 : inR a1) (hok : okS σ) : CtRZ κ mX6_has 0 [vr t0, vi a1] false μ σ (Ta_has t0 a1 σ) := by
  intro r h
  refine con_of (by decide) (Nat.le_of_ble_eq_true rfl) 0 ?_
  refine (?_ : Rk κ mX6_has _ 0 [some (vr t0), some (vi a1)] [] (ms false μ σ) (Ta_has t0 a1 σ) (fun a => a = r)) _ h rfl
  unfold Ta_has
  refine Rk.sp (G_iload_n (pc := 0) 1 rfl rfl dX6_has_0) ?_
  refine Rk.if_lt (pc := 1) (tgt := 16) dX6_has_1 (nmI ha1) rfl (fun hc1 => ?_) (fun hc1 => ?_)
  · refine Rk.sp (G_iconst (pc := 16) dX6_has_16) ?_
    exact Rk.end_ (fun h => G_zreturn (pc := 17) rfl (nz inZ0) dX6_has_17 (q_RZ h inZ0))
  · refine Rk.sp (G_iload_n (pc := 4) 1 rfl rfl dX6_has_4) ?_
    refine Rk.sp (G_aload_n (pc := 5) 0 rfl rfl dX6_has_5) ?_
    refine Rk.gI (pc := 6) flX6_55 cl6 rfl ht0 dX6_has_6 ?_
    refine Rk.icmp_ge (pc := 9) (tgt := 16) dX6_has_9 (nmI ha1) (nmI (hok _ _)) rfl (fun hc2 => ?_) (fun hc2 => ?_)
    · refine Rk.sp (G_iconst (pc := 12) dX6_has_12) ?_
      refine Rk.sp (G_goto (pc := 13) (tgt := 17) dX6_has_13 rfl) ?_
      exact Rk.end_ (fun h => G_zreturn (pc := 17) rfl (nz inZ1) dX6_has_17 (q_RZ h inZ1))
    · refine Rk.sp (G_iconst (pc := 16) dX6_has_16) ?_
      exact Rk.end_ (fun h => G_zreturn (pc := 17) rfl (nz inZ0) dX6_has_17 (q_RZ h inZ0))
theorem k_Td_within {κ : Kx} {b : Bool} {μ σ : Sg} (a1 : Int) (a2 : Int) (a3 : Int) (ha1 : inR a1) (ha2 : inR a2) (ha3 : inR a3) : CtRZ κ mX8_within 0 [vi a1, vi a2, vi a3] b μ σ (Td_within a1 a2 a3) := by
  intro r h
  refine con_of (by decide) (Nat.le_of_ble_eq_true rfl) 0 ?_
  refine (?_ : Rk κ mX8_within _ 0 [some (vi a1), some (vi a2), some (vi a3)] [] (ms b μ σ) (Td_within a1 a2 a3) (fun a => a = r)) _ h rfl
  unfold Td_within
  refine Rk.sp (G_iload_n (pc := 0) 0 rfl rfl dX8_within_0) ?_
  refine Rk.sp (G_iload_n (pc := 1) 1 rfl rfl dX8_within_1) ?_
  refine Rk.icmp_lt (pc := 2) (tgt := 14) dX8_within_2 (nmI ha1) (nmI ha2) rfl (fun hc1 => ?_) (fun hc1 => ?_)
  · refine Rk.sp (G_iconst (pc := 14) dX8_within_14) ?_
    exact Rk.end_ (fun h => G_zreturn (pc := 15) rfl (nz inZ0) dX8_within_15 (q_RZ h inZ0))
  · refine Rk.sp (G_iload_n (pc := 5) 0 rfl rfl dX8_within_5) ?_
    refine Rk.sp (G_iload_n (pc := 6) 2 rfl rfl dX8_within_6) ?_
    refine Rk.icmp_gt (pc := 7) (tgt := 14) dX8_within_7 (nmI ha1) (nmI ha3) rfl (fun hc2 => ?_) (fun hc2 => ?_)
    · refine Rk.sp (G_iconst (pc := 14) dX8_within_14) ?_
      exact Rk.end_ (fun h => G_zreturn (pc := 15) rfl (nz inZ0) dX8_within_15 (q_RZ h inZ0))
    · refine Rk.sp (G_iconst (pc := 10) dX8_within_10) ?_
      refine Rk.sp (G_goto (pc := 11) (tgt := 15) dX8_within_11 rfl) ?_
      exact Rk.end_ (fun h => G_zreturn (pc := 15) rfl (nz inZ1) dX8_within_15 (q_RZ h inZ1))
theorem k_Ta_hour {κ : Kx} {μ : Sg} (t0 : Nat) (σ : Sg) (ht0 : LB false t0 (1, 6)) (hok : okS σ) : CtRI κ mX6_hour 0 [vr t0] false μ σ (Ta_hour t0 σ) := by
  intro r h
  refine con_of (by decide) (Nat.le_of_ble_eq_true rfl) 0 ?_
  refine (?_ : Rk κ mX6_hour _ 0 [some (vr t0)] [] (ms false μ σ) (Ta_hour t0 σ) (fun a => a = r)) _ h rfl
  unfold Ta_hour
  refine Rk.sp (G_aload_n (pc := 0) 0 rfl rfl dX6_hour_0) ?_
  refine Rk.gI (pc := 1) flX6_48 cl6 rfl ht0 dX6_hour_1 ?_
  refine Rk.sp (G_bipush (pc := 4) dX6_hour_4 rfl) ?_
  refine Rk.sp (G_idiv (pc := 6) dX6_hour_6 (nmI (hok _ _)) (nmI (inRk 60 rfl)) (by decide)) ?_
  refine Rk.sp (G_bipush (pc := 7) dX6_hour_7 rfl) ?_
  refine Rk.sp (G_irem (pc := 9) dX6_hour_9 (nmI (tdivR (hok _ _) (by decide))) (nmI (inRk 24 rfl)) (by decide)) ?_
  exact Rk.end_ (fun h => G_ireturn (pc := 10) rfl dX6_hour_10 (q_RI h (tmodR (tdivR (hok _ _) (by decide)))))
theorem k_Sh_cell {κ : Kx} {μ : Sg} (t0 : Nat) (a1 : Int) (a2 : Int) (σ : Sg) (ht0 : LB false t0 (1, 5)) (ha1 : inR a1) (ha2 : inR a2) (hok : okS σ) : CtRI κ mX5_cell 0 [vr t0, vi a1, vi a2] false μ σ (Sh_cell t0 a1 a2 σ) := by
  intro r h
  refine con_of (by decide) (Nat.le_of_ble_eq_true rfl) 1 ?_
  refine (?_ : Rk κ mX5_cell _ 0 [some (vr t0), some (vi a1), some (vi a2), none] [] (ms false μ σ) (Sh_cell t0 a1 a2 σ) (fun a => a = r)) _ h rfl
  unfold Sh_cell
  refine Rk.sp (G_iload_n (pc := 0) 1 rfl rfl dX5_cell_0) ?_
  refine Rk.sp (G_aload_n (pc := 1) 0 rfl rfl dX5_cell_1) ?_
  refine Rk.gI (pc := 2) flX5_20 cl5 rfl ht0 dX5_cell_2 ?_
  refine Rk.sp (G_imul (pc := 5) dX5_cell_5) ?_
  refine Rk.sp (G_iload_n (pc := 6) 2 rfl rfl dX5_cell_6) ?_
  refine Rk.sp (G_iadd (pc := 7) dX5_cell_7) ?_
  refine Rk.ist_n (pc := 8) 3 (fun v3_1 => [some (vr t0), some (vi a1), some (vi a2), some (vi v3_1)]) rfl (Nat.le_of_ble_eq_true rfl) rfl dX5_cell_8 (nmW _) (fun _ => rfl) (fun v3_1 hv3_1 => ?_)
  refine Rk.sp (G_iload_n (pc := 9) 3 rfl rfl dX5_cell_9) ?_
  refine Rk.if_lt (pc := 10) (tgt := 30) dX5_cell_10 (nmI hv3_1) rfl (fun hc2 => ?_) (fun hc2 => ?_)
  · refine Rk.sp (G_iconst (pc := 30) dX5_cell_30) ?_
    exact Rk.end_ (fun h => G_ireturn (pc := 31) rfl dX5_cell_31 (q_RI h (inRk 0 rfl)))
  · refine Rk.sp (G_iload_n (pc := 13) 3 rfl rfl dX5_cell_13) ?_
    refine Rk.sp (G_aload_n (pc := 14) 0 rfl rfl dX5_cell_14) ?_
    refine Rk.gI (pc := 15) flX5_23 cl5 rfl ht0 dX5_cell_15 ?_
    refine Rk.icmp_ge (pc := 18) (tgt := 30) dX5_cell_18 (nmI hv3_1) (nmI (hok _ _)) rfl (fun hc3 => ?_) (fun hc3 => ?_)
    · refine Rk.sp (G_aload_n (pc := 21) 0 rfl rfl dX5_cell_21) ?_
      refine Rk.gR (pc := 22) (t0 + 1) flX5_7 cl5 rfl ht0 dX5_cell_22 ?_
      refine Rk.sp (G_iload_n (pc := 25) 3 rfl rfl dX5_cell_25) ?_
      refine Rk.al (pc := 26) (LBs ht0 1 (by decide)) dX5_cell_26 (fun hi4 => ?_)
      refine Rk.sp (G_goto (pc := 27) (tgt := 31) dX5_cell_27 rfl) ?_
      exact Rk.end_ (fun h => G_ireturn (pc := 31) rfl dX5_cell_31 (q_RI h (hok _ _)))
    · refine Rk.sp (G_iconst (pc := 30) dX5_cell_30) ?_
      exact Rk.end_ (fun h => G_ireturn (pc := 31) rfl dX5_cell_31 (q_RI h (inRk 0 rfl)))
theorem k_Wo_doing {κ : Kx} {μ : Sg} (t0 : Nat) (a1 : Int) (a2 : Int) (σ : Sg) (ht0 : LB false t0 (1, 7)) (ha1 : inR a1) (ha2 : inR a2) (hok : okS σ) : CtRI κ mX7_doing 1 [vr t0, vi a1, vi a2] false μ σ (Wo_doing t0 a1 a2 σ) := by
  intro r h
  refine con_of (by decide) (Nat.le_of_ble_eq_true rfl) 3 ?_
  refine (?_ : Rk κ mX7_doing _ 0 [some (vr t0), some (vi a1), some (vi a2), none, none, none] [] (ms false μ σ) (Wo_doing t0 a1 a2 σ) (fun a => a = r)) _ h rfl
  unfold Wo_doing
  refine Rk.sp (G_aload_n (pc := 0) 0 rfl rfl dX7_doing_0) ?_
  refine Rk.gR (pc := 1) (t0 + 15) flX7_27 cl7 rfl ht0 dX7_doing_1 ?_
  refine Rk.sp (G_iconst (pc := 4) dX7_doing_4) ?_
  refine Rk.sp (fun k => G_aaload2 (pc := 5) (t0 + 19) ((LBw ht0).2.2.1).1 ⟨by decide, by decide⟩ rfl dX7_doing_5 k) ?_
  refine Rk.ast_n (pc := 6) 3 (L' := [some (vr t0), some (vi a1), some (vi a2), some (vr (t0 + 19)), none, none]) rfl (Nat.le_of_ble_eq_true rfl) rfl dX7_doing_6 rfl ?_
  refine Rk.sp (G_iconst (pc := 7) dX7_doing_7) ?_
  refine Rk.isa_w (pc := 8) 4 (L' := [some (vr t0), some (vi a1), some (vi a2), some (vr (t0 + 19)), some (vi 0), none]) (Nat.le_of_ble_eq_true rfl) rfl dX7_doing_8 rfl ?_
  refine Rk.fg [false, true, true, true, true, false] (L' := [none, some (vi a1), some (vi a2), some (vr (t0 + 19)), some (vi 0), none]) rfl ?_
  refine Rk.loop (pc := 10) (B := (fun p => Wo_doing_10_b σ t0 a2 a1 p)) (fun p => inR p) (fun p => [none, some (vi a1), some (vi a2), some (vr (t0 + 19)), some (vi p), none]) (fun p => (ms false μ σ)) (fun p hp => ?_) 0 (inRk 0 rfl)
  revert hp; revert p; intro v4_1 hv4_1
  try dsimp only
  unfold Wo_doing_10_b
  refine Rk.sp (G_iload_w (pc := 10) 4 rfl dX7_doing_10) ?_
  refine Rk.sp (G_aload_n (pc := 12) 3 rfl rfl dX7_doing_12) ?_
  refine Rk.gI (pc := 13) flX7_57 cl5 rfl ((LBw ht0).2.2.2.2.2 1 (by decide)) dX7_doing_13 ?_
  refine Rk.icmp_ge (pc := 16) (tgt := 73) dX7_doing_16 (nmI hv4_1) (nmI (hok _ _)) rfl (fun hc2 => ?_) (fun hc2 => ?_)
  · refine Rk.sp (G_iload_n (pc := 19) 2 rfl rfl dX7_doing_19) ?_
    refine Rk.sp (G_aload_n (pc := 20) 3 rfl rfl dX7_doing_20) ?_
    refine Rk.sp (G_iload_w (pc := 21) 4 rfl dX7_doing_21) ?_
    refine Rk.sp (G_iconst (pc := 23) dX7_doing_23) ?_
    refine Rk.cRI (pc := 24) (Cl.v [vi v4_1, vi 1] [vi a2] dX7_doing_24 ckX7_60 ((LBw ht0).2.2.2.2.2 1 (by decide)) rfl rfl rfl (Nat.le_of_ble_eq_true rfl) (Nat.le_of_ble_eq_true rfl)) (k_Sh_cell (t0 + 19) v4_1 1 σ ((LBw ht0).2.2.2.2.2 1 (by decide)) hv4_1 (inRk 1 rfl) hok) (fun r3 hr3 => ?_)
    refine Rk.sp (G_isub (pc := 27) dX7_doing_27) ?_
    refine Rk.sp (G_bipush (pc := 28) dX7_doing_28 rfl) ?_
    refine Rk.sp (G_iadd (pc := 30) dX7_doing_30) ?_
    refine Rk.sp (G_bipush (pc := 31) dX7_doing_31 rfl) ?_
    refine Rk.sp (G_irem (pc := 33) dX7_doing_33 (nmW _) (nmI (inRk 24 rfl)) (by decide)) ?_
    refine Rk.ist_w (pc := 34) 5 (fun v5_4 => [none, some (vi a1), some (vi a2), some (vr (t0 + 19)), some (vi v4_1), some (vi v5_4)]) (Nat.le_of_ble_eq_true rfl) rfl dX7_doing_34 (nmI (tmodR (wrR _))) (fun _ => rfl) (fun v5_4 hv5_4 => ?_)
    refine Rk.sp (G_aload_n (pc := 36) 3 rfl rfl dX7_doing_36) ?_
    refine Rk.sp (G_iload_w (pc := 37) 4 rfl dX7_doing_37) ?_
    refine Rk.sp (G_iconst (pc := 39) dX7_doing_39) ?_
    refine Rk.cRI (pc := 40) (Cl.v [vi v4_1, vi 0] [] dX7_doing_40 ckX7_60 ((LBw ht0).2.2.2.2.2 1 (by decide)) rfl rfl rfl (Nat.le_of_ble_eq_true rfl) (Nat.le_of_ble_eq_true rfl)) (k_Sh_cell (t0 + 19) v4_1 0 σ ((LBw ht0).2.2.2.2.2 1 (by decide)) hv4_1 (inRk 0 rfl) hok) (fun r5 hr5 => ?_)
    refine Rk.sp (G_iload_n (pc := 43) 1 rfl rfl dX7_doing_43) ?_
    refine Rk.icmp_ne (pc := 44) (tgt := 67) dX7_doing_44 (nmI hr5) (nmI ha1) rfl (fun hc6 => ?_) (fun hc6 => ?_)
    · refine Rk.sp (G_iload_w (pc := 47) 5 rfl dX7_doing_47) ?_
      refine Rk.sp (G_aload_n (pc := 49) 3 rfl rfl dX7_doing_49) ?_
      refine Rk.sp (G_iload_w (pc := 50) 4 rfl dX7_doing_50) ?_
      refine Rk.sp (G_iconst (pc := 52) dX7_doing_52) ?_
      refine Rk.cRI (pc := 53) (Cl.v [vi v4_1, vi 2] [vi v5_4] dX7_doing_53 ckX7_60 ((LBw ht0).2.2.2.2.2 1 (by decide)) rfl rfl rfl (Nat.le_of_ble_eq_true rfl) (Nat.le_of_ble_eq_true rfl)) (k_Sh_cell (t0 + 19) v4_1 2 σ ((LBw ht0).2.2.2.2.2 1 (by decide)) hv4_1 (inRk 2 rfl) hok) (fun r7 hr7 => ?_)
      refine Rk.icmp_ge (pc := 56) (tgt := 67) dX7_doing_56 (nmI hv5_4) (nmI hr7) rfl (fun hc8 => ?_) (fun hc8 => ?_)
      · refine Rk.sp (G_aload_n (pc := 59) 3 rfl rfl dX7_doing_59) ?_
        refine Rk.sp (G_iload_w (pc := 60) 4 rfl dX7_doing_60) ?_
        refine Rk.sp (G_iconst (pc := 62) dX7_doing_62) ?_
        refine Rk.cRI (pc := 63) (Cl.v [vi v4_1, vi 3] [] dX7_doing_63 ckX7_60 ((LBw ht0).2.2.2.2.2 1 (by decide)) rfl rfl rfl (Nat.le_of_ble_eq_true rfl) (Nat.le_of_ble_eq_true rfl)) (k_Sh_cell (t0 + 19) v4_1 3 σ ((LBw ht0).2.2.2.2.2 1 (by decide)) hv4_1 (inRk 3 rfl) hok) (fun r9 hr9 => ?_)
        exact Rk.end_ (fun h => G_ireturn (pc := 66) rfl dX7_doing_66 (q_RI h hr9))
      · refine Rk.inc (pc := 67) 4 (fun v4_10 => [none, some (vi a1), some (vi a2), some (vr (t0 + 19)), some (vi v4_10), some (vi v5_4)]) rfl (Nat.le_of_ble_eq_true rfl) rfl dX7_doing_67 (fun _ => rfl) (fun v4_10 hv4_10 => ?_)
        refine Rk.sp (G_goto (pc := 70) (tgt := 10) dX7_doing_70 rfl) ?_
        refine Rk.fg [false, true, true, true, true, false] (L' := [none, some (vi a1), some (vi a2), some (vr (t0 + 19)), some (vi v4_10), none]) rfl ?_
        exact Rk.end_ (fun h => h hv4_10)
    · refine Rk.inc (pc := 67) 4 (fun v4_11 => [none, some (vi a1), some (vi a2), some (vr (t0 + 19)), some (vi v4_11), some (vi v5_4)]) rfl (Nat.le_of_ble_eq_true rfl) rfl dX7_doing_67 (fun _ => rfl) (fun v4_11 hv4_11 => ?_)
      refine Rk.sp (G_goto (pc := 70) (tgt := 10) dX7_doing_70 rfl) ?_
      refine Rk.fg [false, true, true, true, true, false] (L' := [none, some (vi a1), some (vi a2), some (vr (t0 + 19)), some (vi v4_11), none]) rfl ?_
      exact Rk.end_ (fun h => h hv4_11)
  · refine Rk.sp (G_iconst (pc := 73) dX7_doing_73) ?_
    exact Rk.end_ (fun h => G_ireturn (pc := 74) rfl dX7_doing_74 (q_RI h (inRk 0 rfl)))
theorem k_Ju_sit {κ : Kx} {μ : Sg} (a1 : Nat) (a2 : Nat) (a3 : Int) (σ : Sg) (ha1 : LB false a1 (1, 7)) (ha2 : LB false a2 (1, 6)) (ha3 : inR a3) (hok : okS σ) : CtV κ mX2_sit 2 [vr 149, vr a1, vr a2, vi a3] false μ σ (Ju_sit a1 a2 a3 σ) := by
  intro τ h
  refine con_of (by decide) (Nat.le_of_ble_eq_true rfl) 1 ?_
  refine (?_ : Rk κ mX2_sit _ 0 [some (vr 149), some (vr a1), some (vr a2), some (vi a3), none] [] (ms false μ σ) (Ju_sit a1 a2 a3 σ) (fun a => a = τ)) _ h rfl
  unfold Ju_sit
  refine Rk.sp (G_aload_n (pc := 0) 2 rfl rfl dX2_sit_0) ?_
  refine Rk.cRI (pc := 1) (Cl.v [] [] dX2_sit_1 ckX2_16 ha2 rfl rfl rfl (Nat.le_of_ble_eq_true rfl) (Nat.le_of_ble_eq_true rfl)) (k_Ta_hour a2 σ ha2 hok) (fun r1 hr1 => ?_)
  refine Rk.isa_w (pc := 4) 4 (L' := [some (vr 149), some (vr a1), some (vr a2), some (vi a3), some (vi r1)]) (Nat.le_of_ble_eq_true rfl) rfl dX2_sit_4 rfl ?_
  refine Rk.sp (G_aload_n (pc := 6) 0 rfl rfl dX2_sit_6) ?_
  refine Rk.gR (pc := 7) 150 flX2_9 cl2 rfl lb149 dX2_sit_7 ?_
  refine Rk.sp (G_iconst (pc := 10) dX2_sit_10) ?_
  refine Rk.sp (G_iload_n (pc := 11) 3 rfl rfl dX2_sit_11) ?_
  refine Rk.asc (pc := 12) hok (nmI ha3) 0 rfl (Nat.le_of_ble_eq_true rfl) lb150 dX2_sit_12 (fun σ2 hσ2 => ?_)
  refine Rk.sp (G_aload_n (pc := 13) 0 rfl rfl dX2_sit_13) ?_
  refine Rk.gR (pc := 14) 150 flX2_9 cl2 rfl lb149 dX2_sit_14 ?_
  refine Rk.sp (G_iconst (pc := 17) dX2_sit_17) ?_
  refine Rk.sp (G_aload_n (pc := 18) 2 rfl rfl dX2_sit_18) ?_
  refine Rk.gR (pc := 19) (a2 + 1) flX2_22 cl6 rfl ha2 dX2_sit_19 ?_
  refine Rk.sp (G_iload_n (pc := 22) 3 rfl rfl dX2_sit_22) ?_
  refine Rk.al (pc := 23) (LBt2 ha2 1 (by decide)) dX2_sit_23 (fun hi3 => ?_)
  refine Rk.asc (pc := 24) hσ2 (nmI (hσ2 _ _)) 1 rfl (Nat.le_of_ble_eq_true rfl) lb150 dX2_sit_24 (fun σ4 hσ4 => ?_)
  refine Rk.sp (G_aload_n (pc := 25) 0 rfl rfl dX2_sit_25) ?_
  refine Rk.gR (pc := 26) 150 flX2_9 cl2 rfl lb149 dX2_sit_26 ?_
  refine Rk.sp (G_iconst (pc := 29) dX2_sit_29) ?_
  refine Rk.sp (G_aload_n (pc := 30) 2 rfl rfl dX2_sit_30) ?_
  refine Rk.gR (pc := 31) (a2 + 2) flX2_25 cl6 rfl ha2 dX2_sit_31 ?_
  refine Rk.sp (G_iload_n (pc := 34) 3 rfl rfl dX2_sit_34) ?_
  refine Rk.al (pc := 35) (LBt2 ha2 2 (by decide)) dX2_sit_35 (fun hi5 => ?_)
  refine Rk.asc (pc := 36) hσ4 (nmI (hσ4 _ _)) 2 rfl (Nat.le_of_ble_eq_true rfl) lb150 dX2_sit_36 (fun σ6 hσ6 => ?_)
  refine Rk.sp (G_aload_n (pc := 37) 0 rfl rfl dX2_sit_37) ?_
  refine Rk.gR (pc := 38) 150 flX2_9 cl2 rfl lb149 dX2_sit_38 ?_
  refine Rk.sp (G_bipush (pc := 41) dX2_sit_41 rfl) ?_
  refine Rk.sp (G_aload_n (pc := 43) 1 rfl rfl dX2_sit_43) ?_
  refine Rk.sp (G_iload_n (pc := 44) 3 rfl rfl dX2_sit_44) ?_
  refine Rk.sp (G_iload_w (pc := 45) 4 rfl dX2_sit_45) ?_
  refine Rk.cRI (pc := 47) (Cl.v [vi a3, vi r1] [vi 6, vr 150] dX2_sit_47 ckX2_28 ha1 rfl rfl rfl (Nat.le_of_ble_eq_true rfl) (Nat.le_of_ble_eq_true rfl)) (k_Wo_doing a1 a3 r1 σ6 ha1 ha3 hr1 hσ6) (fun r7 hr7 => ?_)
  refine Rk.sp (G_iconst (pc := 50) dX2_sit_50) ?_
  refine Rk.join (P := fun p => inR p) (pcj := 59) (fun p => [some (vr 149), none, some (vr a2), some (vi a3), some (vi r1)]) (fun p => [vi p, vi 6, vr 150]) (fun p => (ms false μ σ6)) ?_ (fun p hp => ?_)
  · refine Rk.icmp_ne (pc := 51) (tgt := 58) dX2_sit_51 (nmI hr7) (nmI (inRk 1 rfl)) rfl (fun hc8 => ?_) (fun hc8 => ?_)
    · refine Rk.sp (G_iconst (pc := 54) dX2_sit_54) ?_
      refine Rk.sp (G_goto (pc := 55) (tgt := 59) dX2_sit_55 rfl) ?_
      refine Rk.fg [true, false, true, true, true] (L' := [some (vr 149), none, some (vr a2), some (vi a3), some (vi r1)]) rfl ?_
      exact Rk.end_ (fun h => h (inRk 1 rfl))
    · refine Rk.sp (G_iconst (pc := 58) dX2_sit_58) ?_
      refine Rk.fg [true, false, true, true, true] (L' := [some (vr 149), none, some (vr a2), some (vi a3), some (vi r1)]) rfl ?_
      exact Rk.end_ (fun h => h (inRk 0 rfl))
  · revert hp; revert p; intro t9 ht9
    try dsimp only
    refine Rk.asc (pc := 59) hσ6 (nmI ht9) 6 rfl (Nat.le_of_ble_eq_true rfl) lb150 dX2_sit_59 (fun σ10 hσ10 => ?_)
    refine Rk.sp (G_aload_n (pc := 60) 0 rfl rfl dX2_sit_60) ?_
    refine Rk.gR (pc := 61) 150 flX2_9 cl2 rfl lb149 dX2_sit_61 ?_
    refine Rk.sp (G_bipush (pc := 64) dX2_sit_64 rfl) ?_
    refine Rk.sp (G_iload_w (pc := 66) 4 rfl dX2_sit_66) ?_
    refine Rk.asc (pc := 68) hσ10 (nmI hr1) 7 rfl (Nat.le_of_ble_eq_true rfl) lb150 dX2_sit_68 (fun σ11 hσ11 => ?_)
    refine Rk.sp (G_aload_n (pc := 69) 0 rfl rfl dX2_sit_69) ?_
    refine Rk.gR (pc := 70) 150 flX2_9 cl2 rfl lb149 dX2_sit_70 ?_
    refine Rk.sp (G_bipush (pc := 73) dX2_sit_73 rfl) ?_
    refine Rk.sp (G_aload_n (pc := 75) 2 rfl rfl dX2_sit_75) ?_
    refine Rk.gR (pc := 76) (a2 + 3) flX2_34 cl6 rfl ha2 dX2_sit_76 ?_
    refine Rk.sp (G_iconst (pc := 79) dX2_sit_79) ?_
    refine Rk.sp (G_iload_n (pc := 80) 3 rfl rfl dX2_sit_80) ?_
    refine Rk.sp (G_isub (pc := 81) dX2_sit_81) ?_
    refine Rk.al (pc := 82) (LBt2 ha2 3 (by decide)) dX2_sit_82 (fun hi12 => ?_)
    refine Rk.asc (pc := 83) hσ11 (nmI (hσ11 _ _)) 8 rfl (Nat.le_of_ble_eq_true rfl) lb150 dX2_sit_83 (fun σ13 hσ13 => ?_)
    refine Rk.sp (G_aload_n (pc := 84) 0 rfl rfl dX2_sit_84) ?_
    refine Rk.gR (pc := 85) 150 flX2_9 cl2 rfl lb149 dX2_sit_85 ?_
    refine Rk.sp (G_bipush (pc := 88) dX2_sit_88 rfl) ?_
    refine Rk.sp (G_aload_n (pc := 90) 2 rfl rfl dX2_sit_90) ?_
    refine Rk.gI (pc := 91) flX2_37 cl6 rfl ha2 dX2_sit_91 ?_
    refine Rk.asc (pc := 94) hσ13 (nmI (hσ13 _ _)) 9 rfl (Nat.le_of_ble_eq_true rfl) lb150 dX2_sit_94 (fun σ14 hσ14 => ?_)
    exact Rk.end_ (fun h => G_return (pc := 95) rfl dX2_sit_95 (q_V h hσ14))
theorem k_Ju_lay {κ : Kx} {μ : Sg} (a1 : Int) (a2 : Int) (a3 : Int) (σ : Sg) (ha1 : inR a1) (ha2 : inR a2) (ha3 : inR a3) (hok : okS σ) : CtV κ mX2_lay 0 [vr 149, vi a1, vi a2, vi a3] false μ σ (Ju_lay a1 a2 a3 σ) := by
  intro τ h
  refine con_of (by decide) (Nat.le_of_ble_eq_true rfl) 0 ?_
  refine (?_ : Rk κ mX2_lay _ 0 [some (vr 149), some (vi a1), some (vi a2), some (vi a3)] [] (ms false μ σ) (Ju_lay a1 a2 a3 σ) (fun a => a = τ)) _ h rfl
  unfold Ju_lay
  refine Rk.sp (G_aload_n (pc := 0) 0 rfl rfl dX2_lay_0) ?_
  refine Rk.gR (pc := 1) 150 flX2_9 cl2 rfl lb149 dX2_lay_1 ?_
  refine Rk.sp (G_iconst (pc := 4) dX2_lay_4) ?_
  refine Rk.sp (G_iload_n (pc := 5) 1 rfl rfl dX2_lay_5) ?_
  refine Rk.asc (pc := 6) hok (nmI ha1) 3 rfl (Nat.le_of_ble_eq_true rfl) lb150 dX2_lay_6 (fun σ1 hσ1 => ?_)
  refine Rk.sp (G_aload_n (pc := 7) 0 rfl rfl dX2_lay_7) ?_
  refine Rk.gR (pc := 8) 150 flX2_9 cl2 rfl lb149 dX2_lay_8 ?_
  refine Rk.sp (G_iconst (pc := 11) dX2_lay_11) ?_
  refine Rk.sp (G_iload_n (pc := 12) 2 rfl rfl dX2_lay_12) ?_
  refine Rk.asc (pc := 13) hσ1 (nmI ha2) 4 rfl (Nat.le_of_ble_eq_true rfl) lb150 dX2_lay_13 (fun σ2 hσ2 => ?_)
  refine Rk.sp (G_aload_n (pc := 14) 0 rfl rfl dX2_lay_14) ?_
  refine Rk.gR (pc := 15) 150 flX2_9 cl2 rfl lb149 dX2_lay_15 ?_
  refine Rk.sp (G_iconst (pc := 18) dX2_lay_18) ?_
  refine Rk.sp (G_iload_n (pc := 19) 3 rfl rfl dX2_lay_19) ?_
  refine Rk.asc (pc := 20) hσ2 (nmI ha3) 5 rfl (Nat.le_of_ble_eq_true rfl) lb150 dX2_lay_20 (fun σ3 hσ3 => ?_)
  exact Rk.end_ (fun h => G_return (pc := 21) rfl dX2_lay_21 (q_V h hσ3))
theorem k_Ju_untold {κ : Kx} {μ : Sg} (a1 : Int) (σ : Sg) (ha1 : inR a1) (hok : okS σ) : CtRI κ mX2_untold 0 [vr 149, vi a1] false μ σ (Ju_untold a1 σ) := by
  intro r h
  refine con_of (by decide) (Nat.le_of_ble_eq_true rfl) 0 ?_
  refine (?_ : Rk κ mX2_untold _ 0 [some (vr 149), some (vi a1)] [] (ms false μ σ) (Ju_untold a1 σ) (fun a => a = r)) _ h rfl
  unfold Ju_untold
  refine Rk.sp (G_iload_n (pc := 0) 1 rfl rfl dX2_untold_0) ?_
  refine Rk.ite (fun hc1 => ?_) (fun hc1 => ?_)
  · refine Rk.tblI (pc := 1) (tgt := 32) 0 hc1 dX2_untold_1 (nmI ha1) (by decide) (by decide) rfl rfl ?_
    refine Rk.sp (G_aload_n (pc := 32) 0 rfl rfl dX2_untold_32) ?_
    refine Rk.gR (pc := 33) 150 flX2_9 cl2 rfl lb149 dX2_untold_33 ?_
    refine Rk.sp (G_iconst (pc := 36) dX2_untold_36) ?_
    refine Rk.alc (pc := 37) 2 rfl (Nat.le_of_ble_eq_true rfl) lb150 dX2_untold_37 ?_
    exact Rk.end_ (fun h => G_ireturn (pc := 38) rfl dX2_untold_38 (q_RI h (hok _ _)))
  · refine Rk.ite (fun hc2 => ?_) (fun hc2 => ?_)
    · refine Rk.tblI (pc := 1) (tgt := 39) 1 hc2 dX2_untold_1 (nmI ha1) (by decide) (by decide) rfl rfl ?_
      refine Rk.sp (G_aload_n (pc := 39) 0 rfl rfl dX2_untold_39) ?_
      refine Rk.gR (pc := 40) 150 flX2_9 cl2 rfl lb149 dX2_untold_40 ?_
      refine Rk.sp (G_iconst (pc := 43) dX2_untold_43) ?_
      refine Rk.alc (pc := 44) 3 rfl (Nat.le_of_ble_eq_true rfl) lb150 dX2_untold_44 ?_
      refine Rk.sp (G_iconst (pc := 45) dX2_untold_45) ?_
      refine Rk.sp (G_idiv (pc := 46) dX2_untold_46 (nmI (hok _ _)) (nmI (inRk 2 rfl)) (by decide)) ?_
      refine Rk.sp (G_iconst (pc := 47) dX2_untold_47) ?_
      refine Rk.sp (G_iadd (pc := 48) dX2_untold_48) ?_
      refine Rk.sp (Go.n0 (nmW _)) ?_
      exact Rk.end_ (fun h => G_ireturn (pc := 49) rfl dX2_untold_49 (q_RI h (wrR _)))
    · refine Rk.ite (fun hc3 => ?_) (fun hc3 => ?_)
      · refine Rk.tblI (pc := 1) (tgt := 50) 2 hc3 dX2_untold_1 (nmI ha1) (by decide) (by decide) rfl rfl ?_
        refine Rk.sp (G_aload_n (pc := 50) 0 rfl rfl dX2_untold_50) ?_
        refine Rk.gR (pc := 51) 150 flX2_9 cl2 rfl lb149 dX2_untold_51 ?_
        refine Rk.sp (G_iconst (pc := 54) dX2_untold_54) ?_
        refine Rk.alc (pc := 55) 4 rfl (Nat.le_of_ble_eq_true rfl) lb150 dX2_untold_55 ?_
        exact Rk.end_ (fun h => G_ireturn (pc := 56) rfl dX2_untold_56 (q_RI h (hok _ _)))
      · refine Rk.ite (fun hc4 => ?_) (fun hc4 => ?_)
        · refine Rk.tblI (pc := 1) (tgt := 57) 3 hc4 dX2_untold_1 (nmI ha1) (by decide) (by decide) rfl rfl ?_
          refine Rk.sp (G_iconst (pc := 57) dX2_untold_57) ?_
          refine Rk.sp (G_aload_n (pc := 58) 0 rfl rfl dX2_untold_58) ?_
          refine Rk.gR (pc := 59) 150 flX2_9 cl2 rfl lb149 dX2_untold_59 ?_
          refine Rk.sp (G_iconst (pc := 62) dX2_untold_62) ?_
          refine Rk.alc (pc := 63) 5 rfl (Nat.le_of_ble_eq_true rfl) lb150 dX2_untold_63 ?_
          refine Rk.sp (G_imul (pc := 64) dX2_untold_64) ?_
          refine Rk.sp (Go.n0 (nmW _)) ?_
          exact Rk.end_ (fun h => G_ireturn (pc := 65) rfl dX2_untold_65 (q_RI h (wrR _)))
        · refine Rk.tblO (pc := 1) (tgt := 66) dX2_untold_1 (nmI ha1) (by omega) rfl ?_
          refine Rk.sp (G_sipush (pc := 66) dX2_untold_66 rfl) ?_
          exact Rk.end_ (fun h => G_ireturn (pc := 69) rfl dX2_untold_69 (q_RI h (inRk 900 rfl)))


theorem k_Ju_join {κ : Kx} {b : Bool} {μ σ : Sg} (a1 : Int) (a2 : Int) (a3 : Int) (ha1 : inR a1) (ha2 : inR a2) (ha3 : inR a3) : CtRI κ mX2_join 0 [vi a1, vi a2, vi a3] b μ σ (Ju_join a1 a2 a3) := by
  intro r h
  refine con_of (by decide) (Nat.le_of_ble_eq_true rfl) 0 ?_
  refine (?_ : Rk κ mX2_join _ 0 [some (vi a1), some (vi a2), some (vi a3)] [] (ms b μ σ) (Ju_join a1 a2 a3) (fun a => a = r)) _ h rfl
  unfold Ju_join
  refine Rk.sp (G_iload_n (pc := 0) 0 rfl rfl dX2_join_0) ?_
  refine Rk.ite (fun hc1 => ?_) (fun hc1 => ?_)
  · refine Rk.tblI (pc := 1) (tgt := 44) 4 hc1 dX2_join_1 (nmI ha1) (by decide) (by decide) rfl rfl ?_
    refine Rk.sp (G_iload_n (pc := 44) 1 rfl rfl dX2_join_44) ?_
    refine Rk.sp (G_iload_n (pc := 45) 2 rfl rfl dX2_join_45) ?_
    refine Rk.sp (G_iadd (pc := 46) dX2_join_46) ?_
    refine Rk.sp (Go.n0 (nmW _)) ?_
    exact Rk.end_ (fun h => G_ireturn (pc := 47) rfl dX2_join_47 (q_RI h (wrR _)))
  · refine Rk.ite (fun hc2 => ?_) (fun hc2 => ?_)
    · refine Rk.tblI (pc := 1) (tgt := 48) 5 hc2 dX2_join_1 (nmI ha1) (by decide) (by decide) rfl rfl ?_
      refine Rk.sp (G_iload_n (pc := 48) 1 rfl rfl dX2_join_48) ?_
      refine Rk.sp (G_iload_n (pc := 49) 2 rfl rfl dX2_join_49) ?_
      refine Rk.sp (G_isub (pc := 50) dX2_join_50) ?_
      refine Rk.sp (Go.n0 (nmW _)) ?_
      exact Rk.end_ (fun h => G_ireturn (pc := 51) rfl dX2_join_51 (q_RI h (wrR _)))
    · refine Rk.ite (fun hc3 => ?_) (fun hc3 => ?_)
      · refine Rk.tblI (pc := 1) (tgt := 52) 6 hc3 dX2_join_1 (nmI ha1) (by decide) (by decide) rfl rfl ?_
        refine Rk.sp (G_iload_n (pc := 52) 1 rfl rfl dX2_join_52) ?_
        refine Rk.sp (G_iload_n (pc := 53) 2 rfl rfl dX2_join_53) ?_
        refine Rk.sp (G_imul (pc := 54) dX2_join_54) ?_
        refine Rk.sp (Go.n0 (nmW _)) ?_
        exact Rk.end_ (fun h => G_ireturn (pc := 55) rfl dX2_join_55 (q_RI h (wrR _)))
      · refine Rk.ite (fun hc4 => ?_) (fun hc4 => ?_)
        · refine Rk.tblI (pc := 1) (tgt := 56) 7 hc4 dX2_join_1 (nmI ha1) (by decide) (by decide) rfl rfl ?_
          refine Rk.sp (G_iload_n (pc := 56) 1 rfl rfl dX2_join_56) ?_
          refine Rk.sp (G_iload_n (pc := 57) 2 rfl rfl dX2_join_57) ?_
          refine Rk.icmp_ge (pc := 58) (tgt := 65) dX2_join_58 (nmI ha2) (nmI ha3) rfl (fun hc5 => ?_) (fun hc5 => ?_)
          · refine Rk.sp (G_iconst (pc := 61) dX2_join_61) ?_
            refine Rk.sp (G_goto (pc := 62) (tgt := 66) dX2_join_62 rfl) ?_
            exact Rk.end_ (fun h => G_ireturn (pc := 66) rfl dX2_join_66 (q_RI h (inRk 1 rfl)))
          · refine Rk.sp (G_iconst (pc := 65) dX2_join_65) ?_
            exact Rk.end_ (fun h => G_ireturn (pc := 66) rfl dX2_join_66 (q_RI h (inRk 0 rfl)))
        · refine Rk.ite (fun hc6 => ?_) (fun hc6 => ?_)
          · refine Rk.tblI (pc := 1) (tgt := 67) 8 hc6 dX2_join_1 (nmI ha1) (by decide) (by decide) rfl rfl ?_
            refine Rk.sp (G_iload_n (pc := 67) 1 rfl rfl dX2_join_67) ?_
            refine Rk.sp (G_iload_n (pc := 68) 2 rfl rfl dX2_join_68) ?_
            refine Rk.icmp_ne (pc := 69) (tgt := 76) dX2_join_69 (nmI ha2) (nmI ha3) rfl (fun hc7 => ?_) (fun hc7 => ?_)
            · refine Rk.sp (G_iconst (pc := 72) dX2_join_72) ?_
              refine Rk.sp (G_goto (pc := 73) (tgt := 77) dX2_join_73 rfl) ?_
              exact Rk.end_ (fun h => G_ireturn (pc := 77) rfl dX2_join_77 (q_RI h (inRk 1 rfl)))
            · refine Rk.sp (G_iconst (pc := 76) dX2_join_76) ?_
              exact Rk.end_ (fun h => G_ireturn (pc := 77) rfl dX2_join_77 (q_RI h (inRk 0 rfl)))
          · refine Rk.ite (fun hc8 => ?_) (fun hc8 => ?_)
            · refine Rk.tblI (pc := 1) (tgt := 78) 9 hc8 dX2_join_1 (nmI ha1) (by decide) (by decide) rfl rfl ?_
              refine Rk.sp (G_iload_n (pc := 78) 1 rfl rfl dX2_join_78) ?_
              refine Rk.sp (G_iload_n (pc := 79) 2 rfl rfl dX2_join_79) ?_
              refine Rk.icmp_le (pc := 80) (tgt := 87) dX2_join_80 (nmI ha2) (nmI ha3) rfl (fun hc9 => ?_) (fun hc9 => ?_)
              · refine Rk.sp (G_iconst (pc := 83) dX2_join_83) ?_
                refine Rk.sp (G_goto (pc := 84) (tgt := 88) dX2_join_84 rfl) ?_
                exact Rk.end_ (fun h => G_ireturn (pc := 88) rfl dX2_join_88 (q_RI h (inRk 1 rfl)))
              · refine Rk.sp (G_iconst (pc := 87) dX2_join_87) ?_
                exact Rk.end_ (fun h => G_ireturn (pc := 88) rfl dX2_join_88 (q_RI h (inRk 0 rfl)))
            · refine Rk.ite (fun hc10 => ?_) (fun hc10 => ?_)
              · refine Rk.tblI (pc := 1) (tgt := 89) 10 hc10 dX2_join_1 (nmI ha1) (by decide) (by decide) rfl rfl ?_
                refine Rk.sp (G_iload_n (pc := 89) 1 rfl rfl dX2_join_89) ?_
                refine Rk.sp (G_iload_n (pc := 90) 2 rfl rfl dX2_join_90) ?_
                refine Rk.sp (G_iand (pc := 91) dX2_join_91) ?_
                exact Rk.end_ (fun h => G_ireturn (pc := 92) rfl dX2_join_92 (q_RI h (bAnd_R _ _)))
              · refine Rk.tblO (pc := 1) (tgt := 93) dX2_join_1 (nmI ha1) (by omega) rfl ?_
                refine Rk.sp (G_iload_n (pc := 93) 1 rfl rfl dX2_join_93) ?_
                refine Rk.sp (G_iload_n (pc := 94) 2 rfl rfl dX2_join_94) ?_
                refine Rk.sp (G_ior (pc := 95) dX2_join_95) ?_
                exact Rk.end_ (fun h => G_ireturn (pc := 96) rfl dX2_join_96 (q_RI h (bOr_R _ _)))
theorem k_Ju_reckon {κ : Kx} {μ : Sg} (a1 : Nat) (a2 : Int) (a3 : Int) (σ : Sg) (ha1 : LB false a1 (1, 5)) (ha2 : inR a2) (ha3 : inR a3) (hok : okS σ) : CtI κ mX2_reckon 1 [vr 149, vr a1, vi a2, vi a3] false μ σ (Ju_reckon a1 a2 a3 σ) := by
  intro r τ h
  refine con_of (by decide) (Nat.le_of_ble_eq_true rfl) 4 ?_
  refine (?_ : Rk κ mX2_reckon _ 0 [some (vr 149), some (vr a1), some (vi a2), some (vi a3), none, none, none, none] [] (ms false μ σ) (Ju_reckon a1 a2 a3 σ) (fun a => a = (r, τ))) _ h rfl
  unfold Ju_reckon
  refine Rk.sp (G_aload_n (pc := 0) 0 rfl rfl dX2_reckon_0) ?_
  refine Rk.sp (G_iconst (pc := 1) dX2_reckon_1) ?_
  refine Rk.pI (pc := 2) hok (nmI (inRk 0 rfl)) flX2_71 cl2 rfl rfl lb149 dX2_reckon_2 (fun σ1 hσ1 => ?_)
  refine Rk.sp (G_iload_n (pc := 5) 3 rfl rfl dX2_reckon_5) ?_
  refine Rk.sp (G_aload_n (pc := 6) 1 rfl rfl dX2_reckon_6) ?_
  refine Rk.gI (pc := 7) flX2_74 cl5 rfl ha1 dX2_reckon_7 ?_
  refine Rk.mmin (pc := 10) cmmX2_63 ha3 (hσ1 _ _) (Nat.le_of_ble_eq_true rfl) (Nat.le_of_ble_eq_true rfl) dX2_reckon_10 (fun r2 hr2 => ?_)
  refine Rk.isa_w (pc := 13) 4 (L' := [some (vr 149), some (vr a1), some (vi a2), some (vi a3), some (vi r2), none, none, none]) (Nat.le_of_ble_eq_true rfl) rfl dX2_reckon_13 rfl ?_
  refine Rk.sp (G_iconst (pc := 15) dX2_reckon_15) ?_
  refine Rk.sp (G_iload_n (pc := 16) 2 rfl rfl dX2_reckon_16) ?_
  refine Rk.mmax (pc := 17) cmmX2_68 (inRk 0 rfl) ha2 (Nat.le_of_ble_eq_true rfl) (Nat.le_of_ble_eq_true rfl) dX2_reckon_17 (fun r3 hr3 => ?_)
  refine Rk.isa_w (pc := 20) 5 (L' := [some (vr 149), some (vr a1), some (vi a2), some (vi a3), some (vi r2), some (vi r3), none, none]) (Nat.le_of_ble_eq_true rfl) rfl dX2_reckon_20 rfl ?_
  refine Rk.fg [true, true, false, false, true, true, false, false] (L' := [some (vr 149), some (vr a1), none, none, some (vi r2), some (vi r3), none, none]) rfl ?_
  refine Rk.loop (pc := 22) (B := (fun p => Ju_reckon_22_b r2 a1 p.1 p.2)) (fun p => inR p.1 ∧ okS p.2) (fun p => [some (vr 149), some (vr a1), none, none, some (vi r2), some (vi p.1), none, none]) (fun p => (ms false μ p.2)) (fun p hp => ?_) (r3, σ1) ⟨hr3, hσ1⟩
  obtain ⟨v5_4, σ5⟩ := p
  obtain ⟨hv5_4, hσ5⟩ := hp
  try dsimp only
  unfold Ju_reckon_22_b
  refine Rk.sp (G_iload_w (pc := 22) 5 rfl dX2_reckon_22) ?_
  refine Rk.sp (G_iload_w (pc := 24) 4 rfl dX2_reckon_24) ?_
  refine Rk.icmp_ge (pc := 26) (tgt := 290) dX2_reckon_26 (nmI hv5_4) (nmI hr2) rfl (fun hc6 => ?_) (fun hc6 => ?_)
  · refine Rk.sp (G_aload_n (pc := 29) 1 rfl rfl dX2_reckon_29) ?_
    refine Rk.gR (pc := 30) (a1 + 2) flX2_77 cl5 rfl ha1 dX2_reckon_30 ?_
    refine Rk.sp (G_iload_w (pc := 33) 5 rfl dX2_reckon_33) ?_
    refine Rk.al (pc := 35) (LBs ha1 2 (by decide)) dX2_reckon_35 (fun hi7 => ?_)
    refine Rk.sp (G_bipush (pc := 36) dX2_reckon_36 rfl) ?_
    refine Rk.sp (G_irem (pc := 38) dX2_reckon_38 (nmI (hσ5 _ _)) (nmI (inRk 16 rfl)) (by decide)) ?_
    refine Rk.ist_w (pc := 39) 6 (fun v6_8 => [some (vr 149), some (vr a1), none, none, some (vi r2), some (vi v5_4), some (vi v6_8), none]) (Nat.le_of_ble_eq_true rfl) rfl dX2_reckon_39 (nmI (tmodR (hσ5 _ _))) (fun _ => rfl) (fun v6_8 hv6_8 => ?_)
    refine Rk.sp (G_aload_n (pc := 41) 1 rfl rfl dX2_reckon_41) ?_
    refine Rk.gR (pc := 42) (a1 + 2) flX2_77 cl5 rfl ha1 dX2_reckon_42 ?_
    refine Rk.sp (G_iload_w (pc := 45) 5 rfl dX2_reckon_45) ?_
    refine Rk.al (pc := 47) (LBs ha1 2 (by decide)) dX2_reckon_47 (fun hi9 => ?_)
    refine Rk.sp (G_bipush (pc := 48) dX2_reckon_48 rfl) ?_
    refine Rk.sp (G_idiv (pc := 50) dX2_reckon_50 (nmI (hσ5 _ _)) (nmI (inRk 16 rfl)) (by decide)) ?_
    refine Rk.ist_w (pc := 51) 7 (fun v7_10 => [some (vr 149), some (vr a1), none, none, some (vi r2), some (vi v5_4), some (vi v6_8), some (vi v7_10)]) (Nat.le_of_ble_eq_true rfl) rfl dX2_reckon_51 (nmI (tdivR (hσ5 _ _) (by decide))) (fun _ => rfl) (fun v7_10 hv7_10 => ?_)
    refine Rk.sp (G_iload_w (pc := 53) 6 rfl dX2_reckon_53) ?_
    refine Rk.sel (A := 91) (B := 67) (st' := []) ?_ ?_ ?_
    · refine Rk.if_ne (pc := 55) (tgt := 91) dX2_reckon_55 (nmI hv6_8) rfl (fun hc11 => ?_) (fun hc11 => ?_)
      · refine Rk.sp (G_aload_n (pc := 58) 0 rfl rfl dX2_reckon_58) ?_
        refine Rk.gI (pc := 59) flX2_71 cl2 rfl lb149 dX2_reckon_59 ?_
        refine Rk.sp (G_bipush (pc := 62) dX2_reckon_62 rfl) ?_
        refine Rk.icmp_ge (pc := 64) (tgt := 91) dX2_reckon_64 (nmI (hσ5 _ _)) (nmI (inRk 64 rfl)) rfl (fun hc12 => ?_) (fun hc12 => ?_)
        · exact Rk.end_ (fun h => h inZ0)
        · exact Rk.end_ (fun h => h inZ1)
      · exact Rk.end_ (fun h => h inZ1)
    · refine Rk.sp (G_aload_n (pc := 67) 0 rfl rfl dX2_reckon_67) ?_
      refine Rk.gR (pc := 68) 151 flX2_13 cl2 rfl lb149 dX2_reckon_68 ?_
      refine Rk.sp (G_aload_n (pc := 71) 0 rfl rfl dX2_reckon_71) ?_
      refine Rk.gI (pc := 72) flX2_71 cl2 rfl lb149 dX2_reckon_72 ?_
      refine Rk.sp (G_iload_w (pc := 75) 7 rfl dX2_reckon_75) ?_
      refine Rk.as (pc := 77) hσ5 (nmI hv7_10) lb151 dX2_reckon_77 (fun hi51 σ50 hσ50 => ?_)
      refine Rk.sp (G_aload_n (pc := 78) 0 rfl rfl dX2_reckon_78) ?_
      refine Rk.sp (G_dup (pc := 79) dX2_reckon_79 (fun _ h => by cases h)) ?_
      refine Rk.gI (pc := 80) flX2_71 cl2 rfl lb149 dX2_reckon_80 ?_
      refine Rk.sp (G_iconst (pc := 83) dX2_reckon_83) ?_
      refine Rk.sp (G_iadd (pc := 84) dX2_reckon_84) ?_
      refine Rk.pI (pc := 85) hσ50 (nmW _) flX2_71 cl2 rfl rfl lb149 dX2_reckon_85 (fun σ52 hσ52 => ?_)
      refine Rk.sp (G_goto (pc := 88) (tgt := 284) dX2_reckon_88 rfl) ?_
      refine Rk.inc (pc := 284) 5 (fun v5_53 => [some (vr 149), some (vr a1), none, none, some (vi r2), some (vi v5_53), some (vi v6_8), some (vi v7_10)]) rfl (Nat.le_of_ble_eq_true rfl) rfl dX2_reckon_284 (fun _ => rfl) (fun v5_53 hv5_53 => ?_)
      refine Rk.sp (G_goto (pc := 287) (tgt := 22) dX2_reckon_287 rfl) ?_
      refine Rk.fg [true, true, false, false, true, true, false, false] (L' := [some (vr 149), some (vr a1), none, none, some (vi r2), some (vi v5_53), none, none]) rfl ?_
      exact Rk.end_ (fun h => h ⟨hv5_53, hσ52⟩)
    · refine Rk.sp (G_iload_w (pc := 91) 6 rfl dX2_reckon_91) ?_
      refine Rk.sp (G_iconst (pc := 93) dX2_reckon_93) ?_
      refine Rk.sel (A := 147) (B := 118) (st' := []) ?_ ?_ ?_
      · refine Rk.icmp_ne (pc := 94) (tgt := 147) dX2_reckon_94 (nmI hv6_8) (nmI (inRk 1 rfl)) rfl (fun hc13 => ?_) (fun hc13 => ?_)
        · refine Rk.sp (G_aload_n (pc := 97) 0 rfl rfl dX2_reckon_97) ?_
          refine Rk.gI (pc := 98) flX2_71 cl2 rfl lb149 dX2_reckon_98 ?_
          refine Rk.sp (G_bipush (pc := 101) dX2_reckon_101 rfl) ?_
          refine Rk.icmp_ge (pc := 103) (tgt := 147) dX2_reckon_103 (nmI (hσ5 _ _)) (nmI (inRk 64 rfl)) rfl (fun hc14 => ?_) (fun hc14 => ?_)
          · refine Rk.sp (G_iload_w (pc := 106) 7 rfl dX2_reckon_106) ?_
            refine Rk.if_lt (pc := 108) (tgt := 147) dX2_reckon_108 (nmI hv7_10) rfl (fun hc15 => ?_) (fun hc15 => ?_)
            · exact Rk.end_ (fun h => h inZ1)
            · refine Rk.sp (G_iload_w (pc := 111) 7 rfl dX2_reckon_111) ?_
              refine Rk.sp (G_bipush (pc := 113) dX2_reckon_113 rfl) ?_
              refine Rk.icmp_gt (pc := 115) (tgt := 147) dX2_reckon_115 (nmI hv7_10) (nmI (inRk 9 rfl)) rfl (fun hc16 => ?_) (fun hc16 => ?_)
              · exact Rk.end_ (fun h => h inZ1)
              · exact Rk.end_ (fun h => h inZ0)
          · exact Rk.end_ (fun h => h inZ1)
        · exact Rk.end_ (fun h => h inZ1)
      · refine Rk.sp (G_aload_n (pc := 118) 0 rfl rfl dX2_reckon_118) ?_
        refine Rk.gR (pc := 119) 151 flX2_13 cl2 rfl lb149 dX2_reckon_119 ?_
        refine Rk.sp (G_aload_n (pc := 122) 0 rfl rfl dX2_reckon_122) ?_
        refine Rk.gI (pc := 123) flX2_71 cl2 rfl lb149 dX2_reckon_123 ?_
        refine Rk.sp (G_aload_n (pc := 126) 0 rfl rfl dX2_reckon_126) ?_
        refine Rk.gR (pc := 127) 150 flX2_9 cl2 rfl lb149 dX2_reckon_127 ?_
        refine Rk.sp (G_iload_w (pc := 130) 7 rfl dX2_reckon_130) ?_
        refine Rk.al (pc := 132) lb150 dX2_reckon_132 (fun hi44 => ?_)
        refine Rk.as (pc := 133) hσ5 (nmI (hσ5 _ _)) lb151 dX2_reckon_133 (fun hi46 σ45 hσ45 => ?_)
        refine Rk.sp (G_aload_n (pc := 134) 0 rfl rfl dX2_reckon_134) ?_
        refine Rk.sp (G_dup (pc := 135) dX2_reckon_135 (fun _ h => by cases h)) ?_
        refine Rk.gI (pc := 136) flX2_71 cl2 rfl lb149 dX2_reckon_136 ?_
        refine Rk.sp (G_iconst (pc := 139) dX2_reckon_139) ?_
        refine Rk.sp (G_iadd (pc := 140) dX2_reckon_140) ?_
        refine Rk.pI (pc := 141) hσ45 (nmW _) flX2_71 cl2 rfl rfl lb149 dX2_reckon_141 (fun σ47 hσ47 => ?_)
        refine Rk.sp (G_goto (pc := 144) (tgt := 284) dX2_reckon_144 rfl) ?_
        refine Rk.inc (pc := 284) 5 (fun v5_48 => [some (vr 149), some (vr a1), none, none, some (vi r2), some (vi v5_48), some (vi v6_8), some (vi v7_10)]) rfl (Nat.le_of_ble_eq_true rfl) rfl dX2_reckon_284 (fun _ => rfl) (fun v5_48 hv5_48 => ?_)
        refine Rk.sp (G_goto (pc := 287) (tgt := 22) dX2_reckon_287 rfl) ?_
        refine Rk.fg [true, true, false, false, true, true, false, false] (L' := [some (vr 149), some (vr a1), none, none, some (vi r2), some (vi v5_48), none, none]) rfl ?_
        exact Rk.end_ (fun h => h ⟨hv5_48, hσ47⟩)
      · refine Rk.sp (G_iload_w (pc := 147) 6 rfl dX2_reckon_147) ?_
        refine Rk.sp (G_iconst (pc := 149) dX2_reckon_149) ?_
        refine Rk.sel (A := 184) (B := 165) (st' := []) ?_ ?_ ?_
        · refine Rk.icmp_ne (pc := 150) (tgt := 184) dX2_reckon_150 (nmI hv6_8) (nmI (inRk 2 rfl)) rfl (fun hc17 => ?_) (fun hc17 => ?_)
          · refine Rk.sp (G_aload_n (pc := 153) 0 rfl rfl dX2_reckon_153) ?_
            refine Rk.gI (pc := 154) flX2_71 cl2 rfl lb149 dX2_reckon_154 ?_
            refine Rk.if_le (pc := 157) (tgt := 184) dX2_reckon_157 (nmI (hσ5 _ _)) rfl (fun hc18 => ?_) (fun hc18 => ?_)
            · refine Rk.sp (G_iload_w (pc := 160) 7 rfl dX2_reckon_160) ?_
              refine Rk.if_le (pc := 162) (tgt := 184) dX2_reckon_162 (nmI hv7_10) rfl (fun hc19 => ?_) (fun hc19 => ?_)
              · exact Rk.end_ (fun h => h inZ0)
              · exact Rk.end_ (fun h => h inZ1)
            · exact Rk.end_ (fun h => h inZ1)
          · exact Rk.end_ (fun h => h inZ1)
        · refine Rk.sp (G_aload_n (pc := 165) 0 rfl rfl dX2_reckon_165) ?_
          refine Rk.gR (pc := 166) 151 flX2_13 cl2 rfl lb149 dX2_reckon_166 ?_
          refine Rk.sp (G_aload_n (pc := 169) 0 rfl rfl dX2_reckon_169) ?_
          refine Rk.gI (pc := 170) flX2_71 cl2 rfl lb149 dX2_reckon_170 ?_
          refine Rk.sp (G_iconst (pc := 173) dX2_reckon_173) ?_
          refine Rk.sp (G_isub (pc := 174) dX2_reckon_174) ?_
          refine Rk.sp (G_dup2 (pc := 175) dX2_reckon_175 (fun _ h => by cases h) (fun _ h => by cases h)) ?_
          refine Rk.al (pc := 176) lb151 dX2_reckon_176 (fun hi38 => ?_)
          refine Rk.sp (G_iload_w (pc := 177) 7 rfl dX2_reckon_177) ?_
          refine Rk.qnz (fun hz39 => ?_)
          refine Rk.sp (G_idiv (pc := 179) dX2_reckon_179 (nmI (hσ5 _ _)) (nmI hv7_10) hz39) ?_
          refine Rk.as (pc := 180) hσ5 (nmW _) lb151 dX2_reckon_180 (fun hi41 σ40 hσ40 => ?_)
          refine Rk.sp (G_goto (pc := 181) (tgt := 284) dX2_reckon_181 rfl) ?_
          refine Rk.inc (pc := 284) 5 (fun v5_42 => [some (vr 149), some (vr a1), none, none, some (vi r2), some (vi v5_42), some (vi v6_8), some (vi v7_10)]) rfl (Nat.le_of_ble_eq_true rfl) rfl dX2_reckon_284 (fun _ => rfl) (fun v5_42 hv5_42 => ?_)
          refine Rk.sp (G_goto (pc := 287) (tgt := 22) dX2_reckon_287 rfl) ?_
          refine Rk.fg [true, true, false, false, true, true, false, false] (L' := [some (vr 149), some (vr a1), none, none, some (vi r2), some (vi v5_42), none, none]) rfl ?_
          exact Rk.end_ (fun h => h ⟨hv5_42, hσ40⟩)
        · refine Rk.sp (G_iload_w (pc := 184) 6 rfl dX2_reckon_184) ?_
          refine Rk.sp (G_iconst (pc := 186) dX2_reckon_186) ?_
          refine Rk.sel (A := 224) (B := 197) (st' := []) ?_ ?_ ?_
          · refine Rk.icmp_ne (pc := 187) (tgt := 224) dX2_reckon_187 (nmI hv6_8) (nmI (inRk 3 rfl)) rfl (fun hc20 => ?_) (fun hc20 => ?_)
            · refine Rk.sp (G_aload_n (pc := 190) 0 rfl rfl dX2_reckon_190) ?_
              refine Rk.gI (pc := 191) flX2_71 cl2 rfl lb149 dX2_reckon_191 ?_
              refine Rk.if_le (pc := 194) (tgt := 224) dX2_reckon_194 (nmI (hσ5 _ _)) rfl (fun hc21 => ?_) (fun hc21 => ?_)
              · exact Rk.end_ (fun h => h inZ0)
              · exact Rk.end_ (fun h => h inZ1)
            · exact Rk.end_ (fun h => h inZ1)
          · refine Rk.sp (G_aload_n (pc := 197) 0 rfl rfl dX2_reckon_197) ?_
            refine Rk.gR (pc := 198) 151 flX2_13 cl2 rfl lb149 dX2_reckon_198 ?_
            refine Rk.sp (G_aload_n (pc := 201) 0 rfl rfl dX2_reckon_201) ?_
            refine Rk.gI (pc := 202) flX2_71 cl2 rfl lb149 dX2_reckon_202 ?_
            refine Rk.sp (G_iconst (pc := 205) dX2_reckon_205) ?_
            refine Rk.sp (G_isub (pc := 206) dX2_reckon_206) ?_
            refine Rk.sp (G_iconst (pc := 207) dX2_reckon_207) ?_
            refine Rk.sp (G_aload_n (pc := 208) 0 rfl rfl dX2_reckon_208) ?_
            refine Rk.gR (pc := 209) 151 flX2_13 cl2 rfl lb149 dX2_reckon_209 ?_
            refine Rk.sp (G_aload_n (pc := 212) 0 rfl rfl dX2_reckon_212) ?_
            refine Rk.gI (pc := 213) flX2_71 cl2 rfl lb149 dX2_reckon_213 ?_
            refine Rk.sp (G_iconst (pc := 216) dX2_reckon_216) ?_
            refine Rk.sp (G_isub (pc := 217) dX2_reckon_217) ?_
            refine Rk.al (pc := 218) lb151 dX2_reckon_218 (fun hi33 => ?_)
            refine Rk.sp (G_isub (pc := 219) dX2_reckon_219) ?_
            refine Rk.as (pc := 220) hσ5 (nmW _) lb151 dX2_reckon_220 (fun hi35 σ34 hσ34 => ?_)
            refine Rk.sp (G_goto (pc := 221) (tgt := 284) dX2_reckon_221 rfl) ?_
            refine Rk.inc (pc := 284) 5 (fun v5_36 => [some (vr 149), some (vr a1), none, none, some (vi r2), some (vi v5_36), some (vi v6_8), some (vi v7_10)]) rfl (Nat.le_of_ble_eq_true rfl) rfl dX2_reckon_284 (fun _ => rfl) (fun v5_36 hv5_36 => ?_)
            refine Rk.sp (G_goto (pc := 287) (tgt := 22) dX2_reckon_287 rfl) ?_
            refine Rk.fg [true, true, false, false, true, true, false, false] (L' := [some (vr 149), some (vr a1), none, none, some (vi r2), some (vi v5_36), none, none]) rfl ?_
            exact Rk.end_ (fun h => h ⟨hv5_36, hσ34⟩)
          · refine Rk.sp (G_iload_w (pc := 224) 6 rfl dX2_reckon_224) ?_
            refine Rk.sp (G_iconst (pc := 226) dX2_reckon_226) ?_
            refine Rk.icmp_lt (pc := 227) (tgt := 284) dX2_reckon_227 (nmI hv6_8) (nmI (inRk 4 rfl)) rfl (fun hc22 => ?_) (fun hc22 => ?_)
            · refine Rk.inc (pc := 284) 5 (fun v5_23 => [some (vr 149), some (vr a1), none, none, some (vi r2), some (vi v5_23), some (vi v6_8), some (vi v7_10)]) rfl (Nat.le_of_ble_eq_true rfl) rfl dX2_reckon_284 (fun _ => rfl) (fun v5_23 hv5_23 => ?_)
              refine Rk.sp (G_goto (pc := 287) (tgt := 22) dX2_reckon_287 rfl) ?_
              refine Rk.fg [true, true, false, false, true, true, false, false] (L' := [some (vr 149), some (vr a1), none, none, some (vi r2), some (vi v5_23), none, none]) rfl ?_
              exact Rk.end_ (fun h => h ⟨hv5_23, hσ5⟩)
            · refine Rk.sp (G_aload_n (pc := 230) 0 rfl rfl dX2_reckon_230) ?_
              refine Rk.gI (pc := 231) flX2_71 cl2 rfl lb149 dX2_reckon_231 ?_
              refine Rk.sp (G_iconst (pc := 234) dX2_reckon_234) ?_
              refine Rk.icmp_le (pc := 235) (tgt := 284) dX2_reckon_235 (nmI (hσ5 _ _)) (nmI (inRk 1 rfl)) rfl (fun hc24 => ?_) (fun hc24 => ?_)
              · refine Rk.sp (G_aload_n (pc := 238) 0 rfl rfl dX2_reckon_238) ?_
                refine Rk.sp (G_dup (pc := 239) dX2_reckon_239 (fun _ h => by cases h)) ?_
                refine Rk.gI (pc := 240) flX2_71 cl2 rfl lb149 dX2_reckon_240 ?_
                refine Rk.sp (G_iconst (pc := 243) dX2_reckon_243) ?_
                refine Rk.sp (G_isub (pc := 244) dX2_reckon_244) ?_
                refine Rk.pI (pc := 245) hσ5 (nmW _) flX2_71 cl2 rfl rfl lb149 dX2_reckon_245 (fun σ25 hσ25 => ?_)
                refine Rk.sp (G_aload_n (pc := 248) 0 rfl rfl dX2_reckon_248) ?_
                refine Rk.gR (pc := 249) 151 flX2_13 cl2 rfl lb149 dX2_reckon_249 ?_
                refine Rk.sp (G_aload_n (pc := 252) 0 rfl rfl dX2_reckon_252) ?_
                refine Rk.gI (pc := 253) flX2_71 cl2 rfl lb149 dX2_reckon_253 ?_
                refine Rk.sp (G_iconst (pc := 256) dX2_reckon_256) ?_
                refine Rk.sp (G_isub (pc := 257) dX2_reckon_257) ?_
                refine Rk.sp (G_iload_w (pc := 258) 6 rfl dX2_reckon_258) ?_
                refine Rk.sp (G_aload_n (pc := 260) 0 rfl rfl dX2_reckon_260) ?_
                refine Rk.gR (pc := 261) 151 flX2_13 cl2 rfl lb149 dX2_reckon_261 ?_
                refine Rk.sp (G_aload_n (pc := 264) 0 rfl rfl dX2_reckon_264) ?_
                refine Rk.gI (pc := 265) flX2_71 cl2 rfl lb149 dX2_reckon_265 ?_
                refine Rk.sp (G_iconst (pc := 268) dX2_reckon_268) ?_
                refine Rk.sp (G_isub (pc := 269) dX2_reckon_269) ?_
                refine Rk.al (pc := 270) lb151 dX2_reckon_270 (fun hi26 => ?_)
                refine Rk.sp (G_aload_n (pc := 271) 0 rfl rfl dX2_reckon_271) ?_
                refine Rk.gR (pc := 272) 151 flX2_13 cl2 rfl lb149 dX2_reckon_272 ?_
                refine Rk.sp (G_aload_n (pc := 275) 0 rfl rfl dX2_reckon_275) ?_
                refine Rk.gI (pc := 276) flX2_71 cl2 rfl lb149 dX2_reckon_276 ?_
                refine Rk.al (pc := 279) lb151 dX2_reckon_279 (fun hi27 => ?_)
                refine Rk.cRI (pc := 280) (Cl.s [vi v6_8, vi (σ25 151 (((σ25 149 2) - 1)).toNat), vi (σ25 151 ((σ25 149 2)).toNat)] [vi ((σ25 149 2) - 1), vr 151] dX2_reckon_280 ckX2_80 rfl rfl (Nat.le_of_ble_eq_true rfl) (Nat.le_of_ble_eq_true rfl)) (k_Ju_join v6_8 (σ25 151 (((σ25 149 2) - 1)).toNat) (σ25 151 ((σ25 149 2)).toNat) hv6_8 (hσ25 _ _) (hσ25 _ _)) (fun r28 hr28 => ?_)
                refine Rk.as (pc := 283) hσ25 (nmI hr28) lb151 dX2_reckon_283 (fun hi30 σ29 hσ29 => ?_)
                refine Rk.inc (pc := 284) 5 (fun v5_31 => [some (vr 149), some (vr a1), none, none, some (vi r2), some (vi v5_31), some (vi v6_8), some (vi v7_10)]) rfl (Nat.le_of_ble_eq_true rfl) rfl dX2_reckon_284 (fun _ => rfl) (fun v5_31 hv5_31 => ?_)
                refine Rk.sp (G_goto (pc := 287) (tgt := 22) dX2_reckon_287 rfl) ?_
                refine Rk.fg [true, true, false, false, true, true, false, false] (L' := [some (vr 149), some (vr a1), none, none, some (vi r2), some (vi v5_31), none, none]) rfl ?_
                exact Rk.end_ (fun h => h ⟨hv5_31, hσ29⟩)
              · refine Rk.inc (pc := 284) 5 (fun v5_32 => [some (vr 149), some (vr a1), none, none, some (vi r2), some (vi v5_32), some (vi v6_8), some (vi v7_10)]) rfl (Nat.le_of_ble_eq_true rfl) rfl dX2_reckon_284 (fun _ => rfl) (fun v5_32 hv5_32 => ?_)
                refine Rk.sp (G_goto (pc := 287) (tgt := 22) dX2_reckon_287 rfl) ?_
                refine Rk.fg [true, true, false, false, true, true, false, false] (L' := [some (vr 149), some (vr a1), none, none, some (vi r2), some (vi v5_32), none, none]) rfl ?_
                exact Rk.end_ (fun h => h ⟨hv5_32, hσ5⟩)
  · refine Rk.sp (G_aload_n (pc := 290) 0 rfl rfl dX2_reckon_290) ?_
    refine Rk.gI (pc := 291) flX2_71 cl2 rfl lb149 dX2_reckon_291 ?_
    refine Rk.if_le (pc := 294) (tgt := 311) dX2_reckon_294 (nmI (hσ5 _ _)) rfl (fun hc55 => ?_) (fun hc55 => ?_)
    · refine Rk.sp (G_aload_n (pc := 297) 0 rfl rfl dX2_reckon_297) ?_
      refine Rk.gR (pc := 298) 151 flX2_13 cl2 rfl lb149 dX2_reckon_298 ?_
      refine Rk.sp (G_aload_n (pc := 301) 0 rfl rfl dX2_reckon_301) ?_
      refine Rk.gI (pc := 302) flX2_71 cl2 rfl lb149 dX2_reckon_302 ?_
      refine Rk.sp (G_iconst (pc := 305) dX2_reckon_305) ?_
      refine Rk.sp (G_isub (pc := 306) dX2_reckon_306) ?_
      refine Rk.al (pc := 307) lb151 dX2_reckon_307 (fun hi56 => ?_)
      refine Rk.sp (G_goto (pc := 308) (tgt := 312) dX2_reckon_308 rfl) ?_
      exact Rk.end_ (fun h => G_ireturn (pc := 312) rfl dX2_reckon_312 (q_I h (hσ5 _ _) hσ5))
    · refine Rk.sp (G_iconst (pc := 311) dX2_reckon_311) ?_
      exact Rk.end_ (fun h => G_ireturn (pc := 312) rfl dX2_reckon_312 (q_I h (inRk 0 rfl) hσ5))
theorem k_Ju_tells {κ : Kx} {μ : Sg} (a1 : Nat) (a2 : Int) (σ : Sg) (ha1 : LB false a1 (1, 5)) (ha2 : inR a2) (hok : okS σ) : CtI κ mX2_tells 2 [vr 149, vr a1, vi a2] false μ σ (Ju_tells a1 a2 σ) := by
  intro r τ h
  refine con_of (by decide) (Nat.le_of_ble_eq_true rfl) 4 ?_
  refine (?_ : Rk κ mX2_tells _ 0 [some (vr 149), some (vr a1), some (vi a2), none, none, none, none] [] (ms false μ σ) (Ju_tells a1 a2 σ) (fun a => a = (r, τ))) _ h rfl
  unfold Ju_tells
  refine Rk.sp (G_aload_n (pc := 0) 0 rfl rfl dX2_tells_0) ?_
  refine Rk.sp (G_iload_n (pc := 1) 2 rfl rfl dX2_tells_1) ?_
  refine Rk.cRI (pc := 2) (Cl.v [vi a2] [] dX2_tells_2 ckX2_41 lb149 rfl rfl rfl (Nat.le_of_ble_eq_true rfl) (Nat.le_of_ble_eq_true rfl)) (k_Ju_untold a2 σ ha2 hok) (fun r1 hr1 => ?_)
  refine Rk.isa_n (pc := 5) 3 (L' := [some (vr 149), some (vr a1), some (vi a2), some (vi r1), none, none, none]) rfl (Nat.le_of_ble_eq_true rfl) rfl dX2_tells_5 rfl ?_
  refine Rk.sp (G_iconst (pc := 6) dX2_tells_6) ?_
  refine Rk.isa_w (pc := 7) 4 (L' := [some (vr 149), some (vr a1), some (vi a2), some (vi r1), some (vi 0), none, none]) (Nat.le_of_ble_eq_true rfl) rfl dX2_tells_7 rfl ?_
  refine Rk.loop (pc := 9) (B := (fun p => Ju_tells_9_b a1 a2 r1 p.1 p.2)) (fun p => inR p.1 ∧ okS p.2) (fun p => [some (vr 149), some (vr a1), some (vi a2), some (vi r1), some (vi p.1), none, none]) (fun p => (ms false μ p.2)) (fun p hp => ?_) (0, σ) ⟨(inRk 0 rfl), hok⟩
  obtain ⟨v4_2, σ3⟩ := p
  obtain ⟨hv4_2, hσ3⟩ := hp
  try dsimp only
  unfold Ju_tells_9_b
  refine Rk.sp (G_iload_w (pc := 9) 4 rfl dX2_tells_9) ?_
  refine Rk.sp (G_aload_n (pc := 11) 1 rfl rfl dX2_tells_11) ?_
  refine Rk.gI (pc := 12) flX2_45 cl5 rfl ha1 dX2_tells_12 ?_
  refine Rk.icmp_ge (pc := 15) (tgt := 90) dX2_tells_15 (nmI hv4_2) (nmI (hσ3 _ _)) rfl (fun hc4 => ?_) (fun hc4 => ?_)
  · refine Rk.sp (G_aload_n (pc := 18) 1 rfl rfl dX2_tells_18) ?_
    refine Rk.sp (G_iload_w (pc := 19) 4 rfl dX2_tells_19) ?_
    refine Rk.sp (G_iconst (pc := 21) dX2_tells_21) ?_
    refine Rk.cRI (pc := 22) (Cl.v [vi v4_2, vi 2] [] dX2_tells_22 ckX2_50 ha1 rfl rfl rfl (Nat.le_of_ble_eq_true rfl) (Nat.le_of_ble_eq_true rfl)) (k_Sh_cell a1 v4_2 2 σ3 ha1 hv4_2 (inRk 2 rfl) hσ3) (fun r5 hr5 => ?_)
    refine Rk.isa_w (pc := 25) 5 (L' := [some (vr 149), some (vr a1), some (vi a2), some (vi r1), some (vi v4_2), some (vi r5), none]) (Nat.le_of_ble_eq_true rfl) rfl dX2_tells_25 rfl ?_
    refine Rk.sp (G_aload_n (pc := 27) 1 rfl rfl dX2_tells_27) ?_
    refine Rk.sp (G_iload_w (pc := 28) 4 rfl dX2_tells_28) ?_
    refine Rk.sp (G_iconst (pc := 30) dX2_tells_30) ?_
    refine Rk.cRI (pc := 31) (Cl.v [vi v4_2, vi 3] [] dX2_tells_31 ckX2_50 ha1 rfl rfl rfl (Nat.le_of_ble_eq_true rfl) (Nat.le_of_ble_eq_true rfl)) (k_Sh_cell a1 v4_2 3 σ3 ha1 hv4_2 (inRk 3 rfl) hσ3) (fun r6 hr6 => ?_)
    refine Rk.isa_w (pc := 34) 6 (L' := [some (vr 149), some (vr a1), some (vi a2), some (vi r1), some (vi v4_2), some (vi r5), some (vi r6)]) (Nat.le_of_ble_eq_true rfl) rfl dX2_tells_34 rfl ?_
    refine Rk.sp (G_aload_n (pc := 36) 1 rfl rfl dX2_tells_36) ?_
    refine Rk.sp (G_iload_w (pc := 37) 4 rfl dX2_tells_37) ?_
    refine Rk.sp (G_iconst (pc := 39) dX2_tells_39) ?_
    refine Rk.cRI (pc := 40) (Cl.v [vi v4_2, vi 0] [] dX2_tells_40 ckX2_50 ha1 rfl rfl rfl (Nat.le_of_ble_eq_true rfl) (Nat.le_of_ble_eq_true rfl)) (k_Sh_cell a1 v4_2 0 σ3 ha1 hv4_2 (inRk 0 rfl) hσ3) (fun r7 hr7 => ?_)
    refine Rk.sp (G_iload_n (pc := 43) 2 rfl rfl dX2_tells_43) ?_
    refine Rk.icmp_ne (pc := 44) (tgt := 84) dX2_tells_44 (nmI hr7) (nmI ha2) rfl (fun hc8 => ?_) (fun hc8 => ?_)
    · refine Rk.sp (G_iload_w (pc := 47) 5 rfl dX2_tells_47) ?_
      refine Rk.sp (G_iload_w (pc := 49) 6 rfl dX2_tells_49) ?_
      refine Rk.icmp_eq (pc := 51) (tgt := 66) dX2_tells_51 (nmI hr5) (nmI hr6) rfl (fun hc9 => ?_) (fun hc9 => ?_)
      · refine Rk.sp (G_aload_n (pc := 66) 0 rfl rfl dX2_tells_66) ?_
        refine Rk.sp (G_aload_n (pc := 67) 1 rfl rfl dX2_tells_67) ?_
        refine Rk.sp (G_aload_n (pc := 68) 1 rfl rfl dX2_tells_68) ?_
        refine Rk.sp (G_iload_w (pc := 69) 4 rfl dX2_tells_69) ?_
        refine Rk.sp (G_iconst (pc := 71) dX2_tells_71) ?_
        refine Rk.cRI (pc := 72) (Cl.v [vi v4_2, vi 1] [vr a1, vr 149] dX2_tells_72 ckX2_50 ha1 rfl rfl rfl (Nat.le_of_ble_eq_true rfl) (Nat.le_of_ble_eq_true rfl)) (k_Sh_cell a1 v4_2 1 σ3 ha1 hv4_2 (inRk 1 rfl) hσ3) (fun r10 hr10 => ?_)
        refine Rk.sp (G_iload_w (pc := 75) 5 rfl dX2_tells_75) ?_
        refine Rk.cI (pc := 77) (Cl.v [vr a1, vi r10, vi r5] [] dX2_tells_77 ckX2_53 lb149 rfl rfl rfl (Nat.le_of_ble_eq_true rfl) (Nat.le_of_ble_eq_true rfl)) (k_Ju_reckon a1 r10 r5 σ3 ha1 hr10 hr5 hσ3) (fun r11 σ12 hr11 hσ12 => ?_)
        refine Rk.isa_n (pc := 80) 3 (L' := [some (vr 149), some (vr a1), some (vi a2), some (vi r11), some (vi v4_2), some (vi r5), some (vi r6)]) rfl (Nat.le_of_ble_eq_true rfl) rfl dX2_tells_80 rfl ?_
        refine Rk.sp (G_goto (pc := 81) (tgt := 90) dX2_tells_81 rfl) ?_
        refine Rk.sp (G_gsL (pc := 90) gsX2_57 dX2_tells_90) ?_
        refine Rk.sp (G_iload_n (pc := 93) 2 rfl rfl dX2_tells_93) ?_
        refine Rk.lo (pc := 94) dX2_tells_94 (fun hi13 => ?_)
        refine Rk.sp (G_gsM (pc := 95) gsX2_60 dX2_tells_95) ?_
        refine Rk.sp (G_iload_n (pc := 98) 2 rfl rfl dX2_tells_98) ?_
        refine Rk.hi (pc := 99) dX2_tells_99 (fun hi14 => ?_)
        refine Rk.sp (G_iload_n (pc := 100) 3 rfl rfl dX2_tells_100) ?_
        refine Rk.mmin (pc := 101) cmmX2_63 (mHiR _) hr11 (Nat.le_of_ble_eq_true rfl) (Nat.le_of_ble_eq_true rfl) dX2_tells_101 (fun r15 hr15 => ?_)
        refine Rk.mmax (pc := 104) cmmX2_68 (mLoR _) hr15 (Nat.le_of_ble_eq_true rfl) (Nat.le_of_ble_eq_true rfl) dX2_tells_104 (fun r16 hr16 => ?_)
        exact Rk.end_ (fun h => G_ireturn (pc := 107) rfl dX2_tells_107 (q_I h hr16 hσ12))
      · refine Rk.sp (G_aload_n (pc := 54) 0 rfl rfl dX2_tells_54) ?_
        refine Rk.sp (G_aload_n (pc := 55) 1 rfl rfl dX2_tells_55) ?_
        refine Rk.sp (G_iload_w (pc := 56) 5 rfl dX2_tells_56) ?_
        refine Rk.sp (G_iload_w (pc := 58) 6 rfl dX2_tells_58) ?_
        refine Rk.cI (pc := 60) (Cl.v [vr a1, vi r5, vi r6] [] dX2_tells_60 ckX2_53 lb149 rfl rfl rfl (Nat.le_of_ble_eq_true rfl) (Nat.le_of_ble_eq_true rfl)) (k_Ju_reckon a1 r5 r6 σ3 ha1 hr5 hr6 hσ3) (fun r17 σ18 hr17 hσ18 => ?_)
        refine Rk.if_eq (pc := 63) (tgt := 84) dX2_tells_63 (nmI hr17) rfl (fun hc19 => ?_) (fun hc19 => ?_)
        · refine Rk.inc (pc := 84) 4 (fun v4_20 => [some (vr 149), some (vr a1), some (vi a2), some (vi r1), some (vi v4_20), some (vi r5), some (vi r6)]) rfl (Nat.le_of_ble_eq_true rfl) rfl dX2_tells_84 (fun _ => rfl) (fun v4_20 hv4_20 => ?_)
          refine Rk.sp (G_goto (pc := 87) (tgt := 9) dX2_tells_87 rfl) ?_
          refine Rk.fg [true, true, true, true, true, false, false] (L' := [some (vr 149), some (vr a1), some (vi a2), some (vi r1), some (vi v4_20), none, none]) rfl ?_
          exact Rk.end_ (fun h => h ⟨hv4_20, hσ18⟩)
        · refine Rk.sp (G_aload_n (pc := 66) 0 rfl rfl dX2_tells_66) ?_
          refine Rk.sp (G_aload_n (pc := 67) 1 rfl rfl dX2_tells_67) ?_
          refine Rk.sp (G_aload_n (pc := 68) 1 rfl rfl dX2_tells_68) ?_
          refine Rk.sp (G_iload_w (pc := 69) 4 rfl dX2_tells_69) ?_
          refine Rk.sp (G_iconst (pc := 71) dX2_tells_71) ?_
          refine Rk.cRI (pc := 72) (Cl.v [vi v4_2, vi 1] [vr a1, vr 149] dX2_tells_72 ckX2_50 ha1 rfl rfl rfl (Nat.le_of_ble_eq_true rfl) (Nat.le_of_ble_eq_true rfl)) (k_Sh_cell a1 v4_2 1 σ18 ha1 hv4_2 (inRk 1 rfl) hσ18) (fun r21 hr21 => ?_)
          refine Rk.sp (G_iload_w (pc := 75) 5 rfl dX2_tells_75) ?_
          refine Rk.cI (pc := 77) (Cl.v [vr a1, vi r21, vi r5] [] dX2_tells_77 ckX2_53 lb149 rfl rfl rfl (Nat.le_of_ble_eq_true rfl) (Nat.le_of_ble_eq_true rfl)) (k_Ju_reckon a1 r21 r5 σ18 ha1 hr21 hr5 hσ18) (fun r22 σ23 hr22 hσ23 => ?_)
          refine Rk.isa_n (pc := 80) 3 (L' := [some (vr 149), some (vr a1), some (vi a2), some (vi r22), some (vi v4_2), some (vi r5), some (vi r6)]) rfl (Nat.le_of_ble_eq_true rfl) rfl dX2_tells_80 rfl ?_
          refine Rk.sp (G_goto (pc := 81) (tgt := 90) dX2_tells_81 rfl) ?_
          refine Rk.sp (G_gsL (pc := 90) gsX2_57 dX2_tells_90) ?_
          refine Rk.sp (G_iload_n (pc := 93) 2 rfl rfl dX2_tells_93) ?_
          refine Rk.lo (pc := 94) dX2_tells_94 (fun hi24 => ?_)
          refine Rk.sp (G_gsM (pc := 95) gsX2_60 dX2_tells_95) ?_
          refine Rk.sp (G_iload_n (pc := 98) 2 rfl rfl dX2_tells_98) ?_
          refine Rk.hi (pc := 99) dX2_tells_99 (fun hi25 => ?_)
          refine Rk.sp (G_iload_n (pc := 100) 3 rfl rfl dX2_tells_100) ?_
          refine Rk.mmin (pc := 101) cmmX2_63 (mHiR _) hr22 (Nat.le_of_ble_eq_true rfl) (Nat.le_of_ble_eq_true rfl) dX2_tells_101 (fun r26 hr26 => ?_)
          refine Rk.mmax (pc := 104) cmmX2_68 (mLoR _) hr26 (Nat.le_of_ble_eq_true rfl) (Nat.le_of_ble_eq_true rfl) dX2_tells_104 (fun r27 hr27 => ?_)
          exact Rk.end_ (fun h => G_ireturn (pc := 107) rfl dX2_tells_107 (q_I h hr27 hσ23))
    · refine Rk.inc (pc := 84) 4 (fun v4_28 => [some (vr 149), some (vr a1), some (vi a2), some (vi r1), some (vi v4_28), some (vi r5), some (vi r6)]) rfl (Nat.le_of_ble_eq_true rfl) rfl dX2_tells_84 (fun _ => rfl) (fun v4_28 hv4_28 => ?_)
      refine Rk.sp (G_goto (pc := 87) (tgt := 9) dX2_tells_87 rfl) ?_
      refine Rk.fg [true, true, true, true, true, false, false] (L' := [some (vr 149), some (vr a1), some (vi a2), some (vi r1), some (vi v4_28), none, none]) rfl ?_
      exact Rk.end_ (fun h => h ⟨hv4_28, hσ3⟩)
  · refine Rk.sp (G_gsL (pc := 90) gsX2_57 dX2_tells_90) ?_
    refine Rk.sp (G_iload_n (pc := 93) 2 rfl rfl dX2_tells_93) ?_
    refine Rk.lo (pc := 94) dX2_tells_94 (fun hi29 => ?_)
    refine Rk.sp (G_gsM (pc := 95) gsX2_60 dX2_tells_95) ?_
    refine Rk.sp (G_iload_n (pc := 98) 2 rfl rfl dX2_tells_98) ?_
    refine Rk.hi (pc := 99) dX2_tells_99 (fun hi30 => ?_)
    refine Rk.sp (G_iload_n (pc := 100) 3 rfl rfl dX2_tells_100) ?_
    refine Rk.mmin (pc := 101) cmmX2_63 (mHiR _) hr1 (Nat.le_of_ble_eq_true rfl) (Nat.le_of_ble_eq_true rfl) dX2_tells_101 (fun r31 hr31 => ?_)
    refine Rk.mmax (pc := 104) cmmX2_68 (mLoR _) hr31 (Nat.le_of_ble_eq_true rfl) (Nat.le_of_ble_eq_true rfl) dX2_tells_104 (fun r32 hr32 => ?_)
    exact Rk.end_ (fun h => G_ireturn (pc := 107) rfl dX2_tells_107 (q_I h hr32 hσ3))
theorem k_Td_asks {κ : Kx} {μ : Sg} (a1 : Int) (a2 : Int) (σ : Sg) (ha1 : inR a1) (ha2 : inR a2) (hok : okS σ) : CtI κ mX8_asks 3 [vr 0, vi a1, vi a2] false μ σ (Td_asks a1 a2 σ) := by
  intro r τ h
  refine con_of (by decide) (Nat.le_of_ble_eq_true rfl) 0 ?_
  refine (?_ : Rk κ mX8_asks _ 0 [some (vr 0), some (vi a1), some (vi a2)] [] (ms false μ σ) (Td_asks a1 a2 σ) (fun a => a = (r, τ))) _ h rfl
  unfold Td_asks
  refine Rk.sp (G_aload_n (pc := 0) 0 rfl rfl dX8_asks_0) ?_
  refine Rk.gR (pc := 1) 1 flX8_12 cl8 rfl lb0 dX8_asks_1 ?_
  refine Rk.gR (pc := 4) 2 flX8_71 cl7 rfl lb1 dX8_asks_4 ?_
  refine Rk.sp (G_iload_n (pc := 7) 1 rfl rfl dX8_asks_7) ?_
  refine Rk.cRZ (pc := 8) (Cl.v [vi a1] [] dX8_asks_8 ckX8_120 lb2 rfl rfl rfl (Nat.le_of_ble_eq_true rfl) (Nat.le_of_ble_eq_true rfl)) (k_Ta_has 2 a1 σ lb2 ha1 hok) (fun r1 hr1 => ?_)
  refine Rk.if_eq (pc := 11) (tgt := 23) dX8_asks_11 (nmI (inZ.R hr1)) rfl (fun hc2 => ?_) (fun hc2 => ?_)
  · refine Rk.sp (G_bipush (pc := 23) dX8_asks_23 rfl) ?_
    exact Rk.end_ (fun h => G_ireturn (pc := 25) rfl dX8_asks_25 (q_I h (inRk (-100) rfl) hok))
  · refine Rk.sp (G_iload_n (pc := 14) 2 rfl rfl dX8_asks_14) ?_
    refine Rk.sp (G_iconst (pc := 15) dX8_asks_15) ?_
    refine Rk.sp (G_iconst (pc := 16) dX8_asks_16) ?_
    refine Rk.cRZ (pc := 17) (Cl.s [vi a2, vi 0, vi 4] [] dX8_asks_17 ckX8_81 rfl rfl (Nat.le_of_ble_eq_true rfl) (Nat.le_of_ble_eq_true rfl)) (k_Td_within a2 0 4 ha2 (inRk 0 rfl) (inRk 4 rfl)) (fun r3 hr3 => ?_)
    refine Rk.if_ne (pc := 20) (tgt := 26) dX8_asks_20 (nmI (inZ.R hr3)) rfl (fun hc4 => ?_) (fun hc4 => ?_)
    · refine Rk.sp (G_bipush (pc := 23) dX8_asks_23 rfl) ?_
      exact Rk.end_ (fun h => G_ireturn (pc := 25) rfl dX8_asks_25 (q_I h (inRk (-100) rfl) hok))
    · refine Rk.sp (G_aload_n (pc := 26) 0 rfl rfl dX8_asks_26) ?_
      refine Rk.gR (pc := 27) 149 flX8_36 cl8 rfl lb0 dX8_asks_27 ?_
      refine Rk.sp (G_aload_n (pc := 30) 0 rfl rfl dX8_asks_30) ?_
      refine Rk.gR (pc := 31) 1 flX8_12 cl8 rfl lb0 dX8_asks_31 ?_
      refine Rk.sp (G_aload_n (pc := 34) 0 rfl rfl dX8_asks_34) ?_
      refine Rk.gR (pc := 35) 1 flX8_12 cl8 rfl lb0 dX8_asks_35 ?_
      refine Rk.gR (pc := 38) 2 flX8_71 cl7 rfl lb1 dX8_asks_38 ?_
      refine Rk.sp (G_iconst (pc := 41) dX8_asks_41) ?_
      refine Rk.sp (G_aload_n (pc := 42) 0 rfl rfl dX8_asks_42) ?_
      refine Rk.gR (pc := 43) 1 flX8_12 cl8 rfl lb0 dX8_asks_43 ?_
      refine Rk.gR (pc := 46) 2 flX8_71 cl7 rfl lb1 dX8_asks_46 ?_
      refine Rk.gR (pc := 49) 6 flX8_197 cl6 rfl lb2 dX8_asks_49 ?_
      refine Rk.sp (G_iload_n (pc := 52) 1 rfl rfl dX8_asks_52) ?_
      refine Rk.al (pc := 53) lb6 dX8_asks_53 (fun hi5 => ?_)
      refine Rk.sp (G_isub (pc := 54) dX8_asks_54) ?_
      refine Rk.sp (Go.n0 (nmW _)) ?_
      refine Rk.cV (pc := 55) (Cl.v [vr 1, vr 2, vi (wr (1 - (σ 6 (a1).toNat)))] [] dX8_asks_55 ckX8_224 lb149 rfl rfl rfl (Nat.le_of_ble_eq_true rfl) (Nat.le_of_ble_eq_true rfl)) (k_Ju_sit 1 2 (wr (1 - (σ 6 (a1).toNat))) σ lb1 lb2 (wrR _) hok) (fun σ6 hσ6 => ?_)
      refine Rk.sp (G_aload_n (pc := 58) 0 rfl rfl dX8_asks_58) ?_
      refine Rk.gR (pc := 59) 149 flX8_36 cl8 rfl lb0 dX8_asks_59 ?_
      refine Rk.sp (G_aload_n (pc := 62) 0 rfl rfl dX8_asks_62) ?_
      refine Rk.gR (pc := 63) 1 flX8_12 cl8 rfl lb0 dX8_asks_63 ?_
      refine Rk.gR (pc := 66) 2 flX8_71 cl7 rfl lb1 dX8_asks_66 ?_
      refine Rk.gR (pc := 69) 9 flX8_206 cl6 rfl lb2 dX8_asks_69 ?_
      refine Rk.sp (G_iload_n (pc := 72) 1 rfl rfl dX8_asks_72) ?_
      refine Rk.al (pc := 73) lb9 dX8_asks_73 (fun hi7 => ?_)
      refine Rk.sp (G_aload_n (pc := 74) 0 rfl rfl dX8_asks_74) ?_
      refine Rk.gR (pc := 75) 1 flX8_12 cl8 rfl lb0 dX8_asks_75 ?_
      refine Rk.gR (pc := 78) 2 flX8_71 cl7 rfl lb1 dX8_asks_78 ?_
      refine Rk.gR (pc := 81) 10 flX8_209 cl6 rfl lb2 dX8_asks_81 ?_
      refine Rk.sp (G_iload_n (pc := 84) 1 rfl rfl dX8_asks_84) ?_
      refine Rk.al (pc := 85) lb10 dX8_asks_85 (fun hi8 => ?_)
      refine Rk.sp (G_aload_n (pc := 86) 0 rfl rfl dX8_asks_86) ?_
      refine Rk.gR (pc := 87) 1 flX8_12 cl8 rfl lb0 dX8_asks_87 ?_
      refine Rk.gR (pc := 90) 2 flX8_71 cl7 rfl lb1 dX8_asks_90 ?_
      refine Rk.gR (pc := 93) 11 flX8_212 cl6 rfl lb2 dX8_asks_93 ?_
      refine Rk.sp (G_iload_n (pc := 96) 1 rfl rfl dX8_asks_96) ?_
      refine Rk.al (pc := 97) lb11 dX8_asks_97 (fun hi9 => ?_)
      refine Rk.cV (pc := 98) (Cl.v [vi (σ6 9 (a1).toNat), vi (σ6 10 (a1).toNat), vi (σ6 11 (a1).toNat)] [] dX8_asks_98 ckX8_228 lb149 rfl rfl rfl (Nat.le_of_ble_eq_true rfl) (Nat.le_of_ble_eq_true rfl)) (k_Ju_lay (σ6 9 (a1).toNat) (σ6 10 (a1).toNat) (σ6 11 (a1).toNat) σ6 (hσ6 _ _) (hσ6 _ _) (hσ6 _ _) hσ6) (fun σ10 hσ10 => ?_)
      refine Rk.sp (G_aload_n (pc := 101) 0 rfl rfl dX8_asks_101) ?_
      refine Rk.gR (pc := 102) 149 flX8_36 cl8 rfl lb0 dX8_asks_102 ?_
      refine Rk.sp (G_aload_n (pc := 105) 0 rfl rfl dX8_asks_105) ?_
      refine Rk.gR (pc := 106) 1 flX8_12 cl8 rfl lb0 dX8_asks_106 ?_
      refine Rk.gR (pc := 109) 16 flX8_168 cl7 rfl lb1 dX8_asks_109 ?_
      refine Rk.sp (G_iconst (pc := 112) dX8_asks_112) ?_
      refine Rk.sp (fun k => G_aaload2 (pc := 113) 17 (lb16).1 ⟨by decide, by decide⟩ rfl dX8_asks_113 k) ?_
      refine Rk.sp (G_iload_n (pc := 114) 2 rfl rfl dX8_asks_114) ?_
      refine Rk.cI (pc := 115) (Cl.v [vr 17, vi a2] [] dX8_asks_115 ckX8_232 lb149 rfl rfl rfl (Nat.le_of_ble_eq_true rfl) (Nat.le_of_ble_eq_true rfl)) (k_Ju_tells 17 a2 σ10 lb17 ha2 hσ10) (fun r11 σ12 hr11 hσ12 => ?_)
      exact Rk.end_ (fun h => G_ireturn (pc := 118) rfl dX8_asks_118 (q_I h hr11 hσ12))
theorem k_Wo_reads {κ : Kx} {μ : Sg} (t0 : Nat) (a1 : Int) (a2 : Int) (σ : Sg) (ht0 : LB false t0 (1, 7)) (ha1 : inR a1) (ha2 : inR a2) (hok : okS σ) : CtRZ κ mX7_reads 2 [vr t0, vi a1, vi a2] false μ σ (Wo_reads t0 a1 a2 σ) := by
  intro r h
  refine con_of (by decide) (Nat.le_of_ble_eq_true rfl) 0 ?_
  refine (?_ : Rk κ mX7_reads _ 0 [some (vr t0), some (vi a1), some (vi a2)] [] (ms false μ σ) (Wo_reads t0 a1 a2 σ) (fun a => a = r)) _ h rfl
  unfold Wo_reads
  refine Rk.sp (G_aload_n (pc := 0) 0 rfl rfl dX7_reads_0) ?_
  refine Rk.sp (G_iload_n (pc := 1) 1 rfl rfl dX7_reads_1) ?_
  refine Rk.sp (G_iload_n (pc := 2) 2 rfl rfl dX7_reads_2) ?_
  refine Rk.cRI (pc := 3) (Cl.v [vi a1, vi a2] [] dX7_reads_3 ckX7_64 ht0 rfl rfl rfl (Nat.le_of_ble_eq_true rfl) (Nat.le_of_ble_eq_true rfl)) (k_Wo_doing t0 a1 a2 σ ht0 ha1 ha2 hok) (fun r1 hr1 => ?_)
  refine Rk.sp (G_iconst (pc := 6) dX7_reads_6) ?_
  refine Rk.icmp_gt (pc := 7) (tgt := 14) dX7_reads_7 (nmI hr1) (nmI (inRk 1 rfl)) rfl (fun hc2 => ?_) (fun hc2 => ?_)
  · refine Rk.sp (G_iconst (pc := 14) dX7_reads_14) ?_
    exact Rk.end_ (fun h => G_zreturn (pc := 15) rfl (nz inZ0) dX7_reads_15 (q_RZ h inZ0))
  · refine Rk.sp (G_iconst (pc := 10) dX7_reads_10) ?_
    refine Rk.sp (G_goto (pc := 11) (tgt := 15) dX7_reads_11 rfl) ?_
    exact Rk.end_ (fun h => G_zreturn (pc := 15) rfl (nz inZ1) dX7_reads_15 (q_RZ h inZ1))
theorem k_Td_awake {κ : Kx} {μ : Sg} (a1 : Int) (a2 : Int) (σ : Sg) (ha1 : inR a1) (ha2 : inR a2) (hok : okS σ) : CtRI κ mX8_awake 3 [vr 0, vi a1, vi a2] false μ σ (Td_awake a1 a2 σ) := by
  intro r h
  refine con_of (by decide) (Nat.le_of_ble_eq_true rfl) 7 ?_
  refine (?_ : Rk κ mX8_awake _ 0 [some (vr 0), some (vi a1), some (vi a2), none, none, none, none, none, none, none] [] (ms false μ σ) (Td_awake a1 a2 σ) (fun a => a = r)) _ h rfl
  unfold Td_awake
  refine Rk.sp (G_iload_n (pc := 0) 1 rfl rfl dX8_awake_0) ?_
  refine Rk.sp (G_iconst (pc := 1) dX8_awake_1) ?_
  refine Rk.sp (G_bipush (pc := 2) dX8_awake_2 rfl) ?_
  refine Rk.cRZ (pc := 4) (Cl.s [vi a1, vi 1, vi 48] [] dX8_awake_4 ckX8_81 rfl rfl (Nat.le_of_ble_eq_true rfl) (Nat.le_of_ble_eq_true rfl)) (k_Td_within a1 1 48 ha1 (inRk 1 rfl) (inRk 48 rfl)) (fun r1 hr1 => ?_)
  refine Rk.if_eq (pc := 7) (tgt := 19) dX8_awake_7 (nmI (inZ.R hr1)) rfl (fun hc2 => ?_) (fun hc2 => ?_)
  · refine Rk.sp (G_iconst (pc := 19) dX8_awake_19) ?_
    exact Rk.end_ (fun h => G_ireturn (pc := 20) rfl dX8_awake_20 (q_RI h (inRk (-1) rfl)))
  · refine Rk.sp (G_iload_n (pc := 10) 2 rfl rfl dX8_awake_10) ?_
    refine Rk.sp (G_iconst (pc := 11) dX8_awake_11) ?_
    refine Rk.sp (G_iconst (pc := 12) dX8_awake_12) ?_
    refine Rk.cRZ (pc := 13) (Cl.s [vi a2, vi 0, vi 2] [] dX8_awake_13 ckX8_81 rfl rfl (Nat.le_of_ble_eq_true rfl) (Nat.le_of_ble_eq_true rfl)) (k_Td_within a2 0 2 ha2 (inRk 0 rfl) (inRk 2 rfl)) (fun r3 hr3 => ?_)
    refine Rk.if_ne (pc := 16) (tgt := 21) dX8_awake_16 (nmI (inZ.R hr3)) rfl (fun hc4 => ?_) (fun hc4 => ?_)
    · refine Rk.sp (G_iconst (pc := 19) dX8_awake_19) ?_
      exact Rk.end_ (fun h => G_ireturn (pc := 20) rfl dX8_awake_20 (q_RI h (inRk (-1) rfl)))
    · refine Rk.sp (G_iconst (pc := 21) dX8_awake_21) ?_
      refine Rk.isa_n (pc := 22) 3 (L' := [some (vr 0), some (vi a1), some (vi a2), some (vi 0), none, none, none, none, none, none]) rfl (Nat.le_of_ble_eq_true rfl) rfl dX8_awake_22 rfl ?_
      refine Rk.sp (G_iconst (pc := 23) dX8_awake_23) ?_
      refine Rk.isa_w (pc := 24) 4 (L' := [some (vr 0), some (vi a1), some (vi a2), some (vi 0), some (vi (-1)), none, none, none, none, none]) (Nat.le_of_ble_eq_true rfl) rfl dX8_awake_24 rfl ?_
      refine Rk.sp (G_iconst (pc := 26) dX8_awake_26) ?_
      refine Rk.isa_w (pc := 27) 5 (L' := [some (vr 0), some (vi a1), some (vi a2), some (vi 0), some (vi (-1)), some (vi 0), none, none, none, none]) (Nat.le_of_ble_eq_true rfl) rfl dX8_awake_27 rfl ?_
      refine Rk.sp (G_iconst (pc := 29) dX8_awake_29) ?_
      refine Rk.isa_w (pc := 30) 6 (L' := [some (vr 0), some (vi a1), some (vi a2), some (vi 0), some (vi (-1)), some (vi 0), some (vi 0), none, none, none]) (Nat.le_of_ble_eq_true rfl) rfl dX8_awake_30 rfl ?_
      refine Rk.sp (G_iconst (pc := 32) dX8_awake_32) ?_
      refine Rk.isa_w (pc := 33) 7 (L' := [some (vr 0), some (vi a1), some (vi a2), some (vi 0), some (vi (-1)), some (vi 0), some (vi 0), some (vi 0), none, none]) (Nat.le_of_ble_eq_true rfl) rfl dX8_awake_33 rfl ?_
      refine Rk.loop (pc := 35) (B := (fun p => Td_awake_35_b a1 σ a2 p.1 p.2.1 p.2.2.1 p.2.2.2.1 p.2.2.2.2)) (fun p => inR p.1 ∧ inR p.2.1 ∧ inR p.2.2.1 ∧ inR p.2.2.2.1 ∧ inR p.2.2.2.2) (fun p => [some (vr 0), some (vi a1), some (vi a2), some (vi p.1), some (vi p.2.1), some (vi p.2.2.1), some (vi p.2.2.2.1), some (vi p.2.2.2.2), none, none]) (fun p => (ms false μ σ)) (fun p hp => ?_) (0, (-1), 0, 0, 0) ⟨(inRk 0 rfl), (inRk (-1) rfl), (inRk 0 rfl), (inRk 0 rfl), (inRk 0 rfl)⟩
      obtain ⟨v3_5, v4_6, v5_7, v6_8, v7_9⟩ := p
      obtain ⟨hv3_5, hv4_6, hv5_7, hv6_8, hv7_9⟩ := hp
      try dsimp only
      unfold Td_awake_35_b
      refine Rk.sp (G_iload_w (pc := 35) 7 rfl dX8_awake_35) ?_
      refine Rk.sp (G_iload_n (pc := 37) 1 rfl rfl dX8_awake_37) ?_
      refine Rk.icmp_ge (pc := 38) (tgt := 155) dX8_awake_38 (nmI hv7_9) (nmI ha1) rfl (fun hc10 => ?_) (fun hc10 => ?_)
      · refine Rk.sp (G_aload_n (pc := 41) 0 rfl rfl dX8_awake_41) ?_
        refine Rk.gR (pc := 42) 1 flX8_12 cl8 rfl lb0 dX8_awake_42 ?_
        refine Rk.gR (pc := 45) 2 flX8_71 cl7 rfl lb1 dX8_awake_45 ?_
        refine Rk.cRI (pc := 48) (Cl.v [] [] dX8_awake_48 ckX8_191 lb2 rfl rfl rfl (Nat.le_of_ble_eq_true rfl) (Nat.le_of_ble_eq_true rfl)) (k_Ta_hour 2 σ lb2 hok) (fun r11 hr11 => ?_)
        refine Rk.sp (G_iload_w (pc := 51) 7 rfl dX8_awake_51) ?_
        refine Rk.sp (G_iadd (pc := 53) dX8_awake_53) ?_
        refine Rk.sp (G_bipush (pc := 54) dX8_awake_54 rfl) ?_
        refine Rk.sp (G_irem (pc := 56) dX8_awake_56 (nmW _) (nmI (inRk 24 rfl)) (by decide)) ?_
        refine Rk.ist_w (pc := 57) 8 (fun v8_12 => [some (vr 0), some (vi a1), some (vi a2), some (vi v3_5), some (vi v4_6), some (vi v5_7), some (vi v6_8), some (vi v7_9), some (vi v8_12), none]) (Nat.le_of_ble_eq_true rfl) rfl dX8_awake_57 (nmI (tmodR (wrR _))) (fun _ => rfl) (fun v8_12 hv8_12 => ?_)
        refine Rk.sp (G_aload_n (pc := 59) 0 rfl rfl dX8_awake_59) ?_
        refine Rk.gR (pc := 60) 1 flX8_12 cl8 rfl lb0 dX8_awake_60 ?_
        refine Rk.sp (G_iconst (pc := 63) dX8_awake_63) ?_
        refine Rk.sp (G_iload_w (pc := 64) 8 rfl dX8_awake_64) ?_
        refine Rk.cRZ (pc := 66) (Cl.v [vi 0, vi v8_12] [] dX8_awake_66 ckX8_330 lb1 rfl rfl rfl (Nat.le_of_ble_eq_true rfl) (Nat.le_of_ble_eq_true rfl)) (k_Wo_reads 1 0 v8_12 σ lb1 (inRk 0 rfl) hv8_12 hok) (fun r13 hr13 => ?_)
        refine Rk.join (P := fun p => inR p) (pcj := 90) (fun p => [some (vr 0), some (vi a1), some (vi a2), some (vi v3_5), some (vi v4_6), some (vi v5_7), some (vi v6_8), some (vi v7_9), none, none]) (fun p => [vi p]) (fun p => (ms false μ σ)) ?_ (fun p hp => ?_)
        · refine Rk.if_eq (pc := 69) (tgt := 89) dX8_awake_69 (nmI (inZ.R hr13)) rfl (fun hc14 => ?_) (fun hc14 => ?_)
          · refine Rk.sp (G_iconst (pc := 89) dX8_awake_89) ?_
            refine Rk.fg [true, true, true, true, true, true, true, true, false, false] (L' := [some (vr 0), some (vi a1), some (vi a2), some (vi v3_5), some (vi v4_6), some (vi v5_7), some (vi v6_8), some (vi v7_9), none, none]) rfl ?_
            exact Rk.end_ (fun h => h (inRk 0 rfl))
          · refine Rk.sp (G_aload_n (pc := 72) 0 rfl rfl dX8_awake_72) ?_
            refine Rk.gR (pc := 73) 1 flX8_12 cl8 rfl lb0 dX8_awake_73 ?_
            refine Rk.sp (G_iconst (pc := 76) dX8_awake_76) ?_
            refine Rk.sp (G_iload_w (pc := 77) 8 rfl dX8_awake_77) ?_
            refine Rk.cRZ (pc := 79) (Cl.v [vi 1, vi v8_12] [] dX8_awake_79 ckX8_330 lb1 rfl rfl rfl (Nat.le_of_ble_eq_true rfl) (Nat.le_of_ble_eq_true rfl)) (k_Wo_reads 1 1 v8_12 σ lb1 (inRk 1 rfl) hv8_12 hok) (fun r16 hr16 => ?_)
            refine Rk.if_eq (pc := 82) (tgt := 89) dX8_awake_82 (nmI (inZ.R hr16)) rfl (fun hc17 => ?_) (fun hc17 => ?_)
            · refine Rk.sp (G_iconst (pc := 89) dX8_awake_89) ?_
              refine Rk.fg [true, true, true, true, true, true, true, true, false, false] (L' := [some (vr 0), some (vi a1), some (vi a2), some (vi v3_5), some (vi v4_6), some (vi v5_7), some (vi v6_8), some (vi v7_9), none, none]) rfl ?_
              exact Rk.end_ (fun h => h (inRk 0 rfl))
            · refine Rk.sp (G_iconst (pc := 85) dX8_awake_85) ?_
              refine Rk.sp (G_goto (pc := 86) (tgt := 90) dX8_awake_86 rfl) ?_
              refine Rk.fg [true, true, true, true, true, true, true, true, false, false] (L' := [some (vr 0), some (vi a1), some (vi a2), some (vi v3_5), some (vi v4_6), some (vi v5_7), some (vi v6_8), some (vi v7_9), none, none]) rfl ?_
              exact Rk.end_ (fun h => h (inRk 1 rfl))
        · revert hp; revert p; intro t15 ht15
          try dsimp only
          refine Rk.isa_w (pc := 90) 9 (L' := [some (vr 0), some (vi a1), some (vi a2), some (vi v3_5), some (vi v4_6), some (vi v5_7), some (vi v6_8), some (vi v7_9), none, some (vi t15)]) (Nat.le_of_ble_eq_true rfl) rfl dX8_awake_90 rfl ?_
          refine Rk.sp (G_iload_w (pc := 92) 9 rfl dX8_awake_92) ?_
          refine Rk.join (P := fun p => inR p) (pcj := 105) (fun p => [some (vr 0), some (vi a1), some (vi a2), some (vi v3_5), some (vi v4_6), none, some (vi v6_8), some (vi v7_9), none, some (vi t15)]) (fun p => [vi p]) (fun p => (ms false μ σ)) ?_ (fun p hp => ?_)
          · refine Rk.if_eq (pc := 94) (tgt := 104) dX8_awake_94 (nmI ht15) rfl (fun hc18 => ?_) (fun hc18 => ?_)
            · refine Rk.sp (G_iconst (pc := 104) dX8_awake_104) ?_
              refine Rk.fg [true, true, true, true, true, false, true, true, false, true] (L' := [some (vr 0), some (vi a1), some (vi a2), some (vi v3_5), some (vi v4_6), none, some (vi v6_8), some (vi v7_9), none, some (vi t15)]) rfl ?_
              exact Rk.end_ (fun h => h (inRk 0 rfl))
            · refine Rk.sp (G_iload_w (pc := 97) 5 rfl dX8_awake_97) ?_
              refine Rk.sp (G_iconst (pc := 99) dX8_awake_99) ?_
              refine Rk.sp (G_iadd (pc := 100) dX8_awake_100) ?_
              refine Rk.sp (G_goto (pc := 101) (tgt := 105) dX8_awake_101 rfl) ?_
              refine Rk.sp (Go.n0 (nmW _)) ?_
              refine Rk.fg [true, true, true, true, true, false, true, true, false, true] (L' := [some (vr 0), some (vi a1), some (vi a2), some (vi v3_5), some (vi v4_6), none, some (vi v6_8), some (vi v7_9), none, some (vi t15)]) rfl ?_
              exact Rk.end_ (fun h => h (wrR _))
          · revert hp; revert p; intro t19 ht19
            try dsimp only
            refine Rk.isa_w (pc := 105) 5 (L' := [some (vr 0), some (vi a1), some (vi a2), some (vi v3_5), some (vi v4_6), some (vi t19), some (vi v6_8), some (vi v7_9), none, some (vi t15)]) (Nat.le_of_ble_eq_true rfl) rfl dX8_awake_105 rfl ?_
            refine Rk.sp (G_iload_n (pc := 107) 3 rfl rfl dX8_awake_107) ?_
            refine Rk.sp (G_iload_w (pc := 108) 9 rfl dX8_awake_108) ?_
            refine Rk.join (P := fun p => inR p) (pcj := 118) (fun p => [some (vr 0), some (vi a1), some (vi a2), none, some (vi v4_6), some (vi t19), some (vi v6_8), some (vi v7_9), none, some (vi t15)]) (fun p => [vi p, vi v3_5]) (fun p => (ms false μ σ)) ?_ (fun p hp => ?_)
            · refine Rk.if_eq (pc := 110) (tgt := 117) dX8_awake_110 (nmI ht15) rfl (fun hc20 => ?_) (fun hc20 => ?_)
              · refine Rk.sp (G_iconst (pc := 117) dX8_awake_117) ?_
                refine Rk.fg [true, true, true, false, true, true, true, true, false, true] (L' := [some (vr 0), some (vi a1), some (vi a2), none, some (vi v4_6), some (vi t19), some (vi v6_8), some (vi v7_9), none, some (vi t15)]) rfl ?_
                exact Rk.end_ (fun h => h (inRk 0 rfl))
              · refine Rk.sp (G_iconst (pc := 113) dX8_awake_113) ?_
                refine Rk.sp (G_goto (pc := 114) (tgt := 118) dX8_awake_114 rfl) ?_
                refine Rk.fg [true, true, true, false, true, true, true, true, false, true] (L' := [some (vr 0), some (vi a1), some (vi a2), none, some (vi v4_6), some (vi t19), some (vi v6_8), some (vi v7_9), none, some (vi t15)]) rfl ?_
                exact Rk.end_ (fun h => h (inRk 1 rfl))
            · revert hp; revert p; intro t21 ht21
              try dsimp only
              refine Rk.sp (G_iadd (pc := 118) dX8_awake_118) ?_
              refine Rk.ist_n (pc := 119) 3 (fun v3_22 => [some (vr 0), some (vi a1), some (vi a2), some (vi v3_22), some (vi v4_6), some (vi t19), some (vi v6_8), some (vi v7_9), none, some (vi t15)]) rfl (Nat.le_of_ble_eq_true rfl) rfl dX8_awake_119 (nmW _) (fun _ => rfl) (fun v3_22 hv3_22 => ?_)
              refine Rk.sp (G_iload_w (pc := 120) 9 rfl dX8_awake_120) ?_
              refine Rk.join (P := fun p => inR p) (pcj := 138) (fun p => [some (vr 0), some (vi a1), some (vi a2), some (vi v3_22), none, some (vi t19), some (vi v6_8), some (vi v7_9), none, none]) (fun p => [vi p]) (fun p => (ms false μ σ)) ?_ (fun p hp => ?_)
              · refine Rk.if_eq (pc := 122) (tgt := 136) dX8_awake_122 (nmI ht15) rfl (fun hc23 => ?_) (fun hc23 => ?_)
                · refine Rk.sp (G_iload_w (pc := 136) 4 rfl dX8_awake_136) ?_
                  refine Rk.fg [true, true, true, true, false, true, true, true, false, false] (L' := [some (vr 0), some (vi a1), some (vi a2), some (vi v3_22), none, some (vi t19), some (vi v6_8), some (vi v7_9), none, none]) rfl ?_
                  exact Rk.end_ (fun h => h hv4_6)
                · refine Rk.sp (G_iload_w (pc := 125) 4 rfl dX8_awake_125) ?_
                  refine Rk.sp (G_iconst (pc := 127) dX8_awake_127) ?_
                  refine Rk.icmp_ne (pc := 128) (tgt := 136) dX8_awake_128 (nmI hv4_6) (nmI (inRk (-1) rfl)) rfl (fun hc25 => ?_) (fun hc25 => ?_)
                  · refine Rk.sp (G_iload_w (pc := 131) 7 rfl dX8_awake_131) ?_
                    refine Rk.sp (G_goto (pc := 133) (tgt := 138) dX8_awake_133 rfl) ?_
                    refine Rk.fg [true, true, true, true, false, true, true, true, false, false] (L' := [some (vr 0), some (vi a1), some (vi a2), some (vi v3_22), none, some (vi t19), some (vi v6_8), some (vi v7_9), none, none]) rfl ?_
                    exact Rk.end_ (fun h => h hv7_9)
                  · refine Rk.sp (G_iload_w (pc := 136) 4 rfl dX8_awake_136) ?_
                    refine Rk.fg [true, true, true, true, false, true, true, true, false, false] (L' := [some (vr 0), some (vi a1), some (vi a2), some (vi v3_22), none, some (vi t19), some (vi v6_8), some (vi v7_9), none, none]) rfl ?_
                    exact Rk.end_ (fun h => h hv4_6)
              · revert hp; revert p; intro t24 ht24
                try dsimp only
                refine Rk.isa_w (pc := 138) 4 (L' := [some (vr 0), some (vi a1), some (vi a2), some (vi v3_22), some (vi t24), some (vi t19), some (vi v6_8), some (vi v7_9), none, none]) (Nat.le_of_ble_eq_true rfl) rfl dX8_awake_138 rfl ?_
                refine Rk.sp (G_iload_w (pc := 140) 6 rfl dX8_awake_140) ?_
                refine Rk.sp (G_iload_w (pc := 142) 5 rfl dX8_awake_142) ?_
                refine Rk.mmax (pc := 144) cmmX8_251 hv6_8 ht19 (Nat.le_of_ble_eq_true rfl) (Nat.le_of_ble_eq_true rfl) dX8_awake_144 (fun r26 hr26 => ?_)
                refine Rk.isa_w (pc := 147) 6 (L' := [some (vr 0), some (vi a1), some (vi a2), some (vi v3_22), some (vi t24), some (vi t19), some (vi r26), some (vi v7_9), none, none]) (Nat.le_of_ble_eq_true rfl) rfl dX8_awake_147 rfl ?_
                refine Rk.inc (pc := 149) 7 (fun v7_27 => [some (vr 0), some (vi a1), some (vi a2), some (vi v3_22), some (vi t24), some (vi t19), some (vi r26), some (vi v7_27), none, none]) rfl (Nat.le_of_ble_eq_true rfl) rfl dX8_awake_149 (fun _ => rfl) (fun v7_27 hv7_27 => ?_)
                refine Rk.sp (G_goto (pc := 152) (tgt := 35) dX8_awake_152 rfl) ?_
                exact Rk.end_ (fun h => h ⟨hv3_22, ht24, ht19, hr26, hv7_27⟩)
      · refine Rk.sp (G_iload_n (pc := 155) 2 rfl rfl dX8_awake_155) ?_
        refine Rk.if_ne (pc := 156) (tgt := 161) dX8_awake_156 (nmI ha2) rfl (fun hc28 => ?_) (fun hc28 => ?_)
        · refine Rk.sp (G_iload_n (pc := 159) 3 rfl rfl dX8_awake_159) ?_
          exact Rk.end_ (fun h => G_ireturn (pc := 160) rfl dX8_awake_160 (q_RI h hv3_5))
        · refine Rk.sp (G_iload_n (pc := 161) 2 rfl rfl dX8_awake_161) ?_
          refine Rk.sp (G_iconst (pc := 162) dX8_awake_162) ?_
          refine Rk.icmp_ne (pc := 163) (tgt := 171) dX8_awake_163 (nmI ha2) (nmI (inRk 1 rfl)) rfl (fun hc29 => ?_) (fun hc29 => ?_)
          · refine Rk.sp (G_iload_w (pc := 166) 4 rfl dX8_awake_166) ?_
            refine Rk.sp (G_goto (pc := 168) (tgt := 173) dX8_awake_168 rfl) ?_
            exact Rk.end_ (fun h => G_ireturn (pc := 173) rfl dX8_awake_173 (q_RI h hv4_6))
          · refine Rk.sp (G_iload_w (pc := 171) 6 rfl dX8_awake_171) ?_
            exact Rk.end_ (fun h => G_ireturn (pc := 173) rfl dX8_awake_173 (q_RI h hv6_8))
theorem k_Td_book {κ : Kx} {μ : Sg} (a1 : Int) (a2 : Int) (σ : Sg) (ha1 : inR a1) (ha2 : inR a2) (hok : okS σ) : CtRI κ mX8_book 1 [vr 0, vi a1, vi a2] false μ σ (Td_book a1 a2 σ) := by
  intro r h
  refine con_of (by decide) (Nat.le_of_ble_eq_true rfl) 0 ?_
  refine (?_ : Rk κ mX8_book _ 0 [some (vr 0), some (vi a1), some (vi a2)] [] (ms false μ σ) (Td_book a1 a2 σ) (fun a => a = r)) _ h rfl
  unfold Td_book
  refine Rk.sp (G_iload_n (pc := 0) 1 rfl rfl dX8_book_0) ?_
  refine Rk.sp (G_iconst (pc := 1) dX8_book_1) ?_
  refine Rk.sp (G_aload_n (pc := 2) 0 rfl rfl dX8_book_2) ?_
  refine Rk.gR (pc := 3) 1 flX8_12 cl8 rfl lb0 dX8_book_3 ?_
  refine Rk.gR (pc := 6) 2 flX8_71 cl7 rfl lb1 dX8_book_6 ?_
  refine Rk.gI (pc := 9) flX8_236 cl6 rfl lb2 dX8_book_9 ?_
  refine Rk.sp (G_iconst (pc := 12) dX8_book_12) ?_
  refine Rk.sp (G_isub (pc := 13) dX8_book_13) ?_
  refine Rk.sp (Go.n0 (nmW _)) ?_
  refine Rk.cRZ (pc := 14) (Cl.s [vi a1, vi 0, vi (wr ((σ 2 3) - 1))] [] dX8_book_14 ckX8_81 rfl rfl (Nat.le_of_ble_eq_true rfl) (Nat.le_of_ble_eq_true rfl)) (k_Td_within a1 0 (wr ((σ 2 3) - 1)) ha1 (inRk 0 rfl) (wrR _)) (fun r1 hr1 => ?_)
  refine Rk.if_eq (pc := 17) (tgt := 29) dX8_book_17 (nmI (inZ.R hr1)) rfl (fun hc2 => ?_) (fun hc2 => ?_)
  · refine Rk.sp (G_bipush (pc := 29) dX8_book_29 rfl) ?_
    exact Rk.end_ (fun h => G_ireturn (pc := 31) rfl dX8_book_31 (q_RI h (inRk (-2) rfl)))
  · refine Rk.sp (G_iload_n (pc := 20) 2 rfl rfl dX8_book_20) ?_
    refine Rk.sp (G_iconst (pc := 21) dX8_book_21) ?_
    refine Rk.sp (G_iconst (pc := 22) dX8_book_22) ?_
    refine Rk.cRZ (pc := 23) (Cl.s [vi a2, vi 0, vi 3] [] dX8_book_23 ckX8_81 rfl rfl (Nat.le_of_ble_eq_true rfl) (Nat.le_of_ble_eq_true rfl)) (k_Td_within a2 0 3 ha2 (inRk 0 rfl) (inRk 3 rfl)) (fun r3 hr3 => ?_)
    refine Rk.if_ne (pc := 26) (tgt := 32) dX8_book_26 (nmI (inZ.R hr3)) rfl (fun hc4 => ?_) (fun hc4 => ?_)
    · refine Rk.sp (G_bipush (pc := 29) dX8_book_29 rfl) ?_
      exact Rk.end_ (fun h => G_ireturn (pc := 31) rfl dX8_book_31 (q_RI h (inRk (-2) rfl)))
    · refine Rk.sp (G_aload_n (pc := 32) 0 rfl rfl dX8_book_32) ?_
      refine Rk.gR (pc := 33) 1 flX8_12 cl8 rfl lb0 dX8_book_33 ?_
      refine Rk.gR (pc := 36) 15 flX8_239 cl7 rfl lb1 dX8_book_36 ?_
      refine Rk.sp (G_iload_n (pc := 39) 1 rfl rfl dX8_book_39) ?_
      refine Rk.sp (G_iconst (pc := 40) dX8_book_40) ?_
      refine Rk.sp (G_imul (pc := 41) dX8_book_41) ?_
      refine Rk.sp (G_iload_n (pc := 42) 2 rfl rfl dX8_book_42) ?_
      refine Rk.sp (G_iadd (pc := 43) dX8_book_43) ?_
      refine Rk.al (pc := 44) lb15 dX8_book_44 (fun hi5 => ?_)
      exact Rk.end_ (fun h => G_ireturn (pc := 45) rfl dX8_book_45 (q_RI h (hok _ _)))
theorem k_Td_comesRound {κ : Kx} {μ : Sg} (a1 : Int) (σ : Sg) (ha1 : inR a1) (hok : okS σ) : CtRI κ mX8_comesRound 0 [vr 0, vi a1] false μ σ (Td_comesRound a1 σ) := by
  intro r h
  refine con_of (by decide) (Nat.le_of_ble_eq_true rfl) 2 ?_
  refine (?_ : Rk κ mX8_comesRound _ 0 [some (vr 0), some (vi a1), none, none] [] (ms false μ σ) (Td_comesRound a1 σ) (fun a => a = r)) _ h rfl
  unfold Td_comesRound
  refine Rk.sp (G_iconst (pc := 0) dX8_comesRound_0) ?_
  refine Rk.isa_n (pc := 1) 2 (L' := [some (vr 0), some (vi a1), some (vi 1), none]) rfl (Nat.le_of_ble_eq_true rfl) rfl dX8_comesRound_1 rfl ?_
  refine Rk.loop (pc := 2) (B := (fun p => Td_comesRound_2_b σ a1 p)) (fun p => inR p) (fun p => [some (vr 0), some (vi a1), some (vi p), none]) (fun p => (ms false μ σ)) (fun p hp => ?_) 1 (inRk 1 rfl)
  revert hp; revert p; intro v2_1 hv2_1
  try dsimp only
  unfold Td_comesRound_2_b
  refine Rk.sp (G_iload_n (pc := 2) 2 rfl rfl dX8_comesRound_2) ?_
  refine Rk.sp (G_bipush (pc := 3) dX8_comesRound_3 rfl) ?_
  refine Rk.icmp_gt (pc := 5) (tgt := 56) dX8_comesRound_5 (nmI hv2_1) (nmI (inRk 60 rfl)) rfl (fun hc2 => ?_) (fun hc2 => ?_)
  · refine Rk.sp (G_iconst (pc := 56) dX8_comesRound_56) ?_
    exact Rk.end_ (fun h => G_ireturn (pc := 57) rfl dX8_comesRound_57 (q_RI h (inRk (-1) rfl)))
  · refine Rk.sp (G_iload_n (pc := 8) 2 rfl rfl dX8_comesRound_8) ?_
    refine Rk.sp (G_iconst (pc := 9) dX8_comesRound_9) ?_
    refine Rk.sp (G_isub (pc := 10) dX8_comesRound_10) ?_
    refine Rk.ist_n (pc := 11) 3 (fun v3_3 => [some (vr 0), some (vi a1), some (vi v2_1), some (vi v3_3)]) rfl (Nat.le_of_ble_eq_true rfl) rfl dX8_comesRound_11 (nmW _) (fun _ => rfl) (fun v3_3 hv3_3 => ?_)
    refine Rk.loop (pc := 12) (B := (fun p => Td_comesRound_12_b v2_1 σ a1 p)) (fun p => inR p) (fun p => [some (vr 0), some (vi a1), some (vi v2_1), some (vi p)]) (fun p => (ms false μ σ)) (fun p hp => ?_) v3_3 hv3_3
    revert hp; revert p; intro v3_4 hv3_4
    try dsimp only
    unfold Td_comesRound_12_b
    refine Rk.sp (G_iload_n (pc := 12) 3 rfl rfl dX8_comesRound_12) ?_
    refine Rk.sp (G_iconst (pc := 13) dX8_comesRound_13) ?_
    refine Rk.icmp_lt (pc := 14) (tgt := 50) dX8_comesRound_14 (nmI hv3_4) (nmI (inRk 1 rfl)) rfl (fun hc5 => ?_) (fun hc5 => ?_)
    · refine Rk.inc (pc := 50) 2 (fun v2_6 => [some (vr 0), some (vi a1), some (vi v2_6), some (vi v3_4)]) rfl (Nat.le_of_ble_eq_true rfl) rfl dX8_comesRound_50 (fun _ => rfl) (fun v2_6 hv2_6 => ?_)
      refine Rk.sp (G_goto (pc := 53) (tgt := 2) dX8_comesRound_53 rfl) ?_
      refine Rk.fg [true, true, true, false] (L' := [some (vr 0), some (vi a1), some (vi v2_6), none]) rfl ?_
      exact Rk.end_ (fun h => h hv2_6)
    · refine Rk.sp (G_aload_n (pc := 17) 0 rfl rfl dX8_comesRound_17) ?_
      refine Rk.gR (pc := 18) 171 flX8_63 cl8 rfl lb0 dX8_comesRound_18 ?_
      refine Rk.sp (G_iload_n (pc := 21) 2 rfl rfl dX8_comesRound_21) ?_
      refine Rk.al (pc := 22) lb171 dX8_comesRound_22 (fun hi7 => ?_)
      refine Rk.sp (G_aload_n (pc := 23) 0 rfl rfl dX8_comesRound_23) ?_
      refine Rk.gR (pc := 24) 171 flX8_63 cl8 rfl lb0 dX8_comesRound_24 ?_
      refine Rk.sp (G_iload_n (pc := 27) 3 rfl rfl dX8_comesRound_27) ?_
      refine Rk.al (pc := 28) lb171 dX8_comesRound_28 (fun hi8 => ?_)
      refine Rk.icmp_ne (pc := 29) (tgt := 44) dX8_comesRound_29 (nmI (hok _ _)) (nmI (hok _ _)) rfl (fun hc9 => ?_) (fun hc9 => ?_)
      · refine Rk.sp (G_iload_n (pc := 32) 1 rfl rfl dX8_comesRound_32) ?_
        refine Rk.if_ne (pc := 33) (tgt := 40) dX8_comesRound_33 (nmI ha1) rfl (fun hc10 => ?_) (fun hc10 => ?_)
        · refine Rk.sp (G_iload_n (pc := 36) 2 rfl rfl dX8_comesRound_36) ?_
          refine Rk.sp (G_goto (pc := 37) (tgt := 43) dX8_comesRound_37 rfl) ?_
          exact Rk.end_ (fun h => G_ireturn (pc := 43) rfl dX8_comesRound_43 (q_RI h hv2_1))
        · refine Rk.sp (G_iload_n (pc := 40) 2 rfl rfl dX8_comesRound_40) ?_
          refine Rk.sp (G_iload_n (pc := 41) 3 rfl rfl dX8_comesRound_41) ?_
          refine Rk.sp (G_isub (pc := 42) dX8_comesRound_42) ?_
          refine Rk.sp (Go.n0 (nmW _)) ?_
          exact Rk.end_ (fun h => G_ireturn (pc := 43) rfl dX8_comesRound_43 (q_RI h (wrR _)))
      · refine Rk.inc (pc := 44) 3 (fun v3_11 => [some (vr 0), some (vi a1), some (vi v2_1), some (vi v3_11)]) rfl (Nat.le_of_ble_eq_true rfl) rfl dX8_comesRound_44 (fun _ => rfl) (fun v3_11 hv3_11 => ?_)
        refine Rk.sp (G_goto (pc := 47) (tgt := 12) dX8_comesRound_47 rfl) ?_
        exact Rk.end_ (fun h => h hv3_11)
theorem k_Td_copies {κ : Kx} {μ : Sg} (a1 : Int) (a2 : Int) (a3 : Int) (σ : Sg) (ha1 : inR a1) (ha2 : inR a2) (ha3 : inR a3) (hok : okS σ) : CtI κ mX8_copies 3 [vr 0, vi a1, vi a2, vi a3] false μ σ (Td_copies a1 a2 a3 σ) := by
  intro r τ h
  refine con_of (by decide) (Nat.le_of_ble_eq_true rfl) 3 ?_
  refine (?_ : Rk κ mX8_copies _ 0 [some (vr 0), some (vi a1), some (vi a2), some (vi a3), none, none, none] [] (ms false μ σ) (Td_copies a1 a2 a3 σ) (fun a => a = (r, τ))) _ h rfl
  unfold Td_copies
  refine Rk.sp (G_iload_n (pc := 0) 1 rfl rfl dX8_copies_0) ?_
  refine Rk.sp (G_iconst (pc := 1) dX8_copies_1) ?_
  refine Rk.sp (G_sipush (pc := 2) dX8_copies_2 rfl) ?_
  refine Rk.cRZ (pc := 5) (Cl.s [vi a1, vi 0, vi 999] [] dX8_copies_5 ckX8_81 rfl rfl (Nat.le_of_ble_eq_true rfl) (Nat.le_of_ble_eq_true rfl)) (k_Td_within a1 0 999 ha1 (inRk 0 rfl) (inRk 999 rfl)) (fun r1 hr1 => ?_)
  refine Rk.if_eq (pc := 8) (tgt := 30) dX8_copies_8 (nmI (inZ.R hr1)) rfl (fun hc2 => ?_) (fun hc2 => ?_)
  · refine Rk.sp (G_iconst (pc := 30) dX8_copies_30) ?_
    exact Rk.end_ (fun h => G_ireturn (pc := 31) rfl dX8_copies_31 (q_I h (inRk (-1) rfl) hok))
  · refine Rk.sp (G_iload_n (pc := 11) 2 rfl rfl dX8_copies_11) ?_
    refine Rk.sp (G_iconst (pc := 12) dX8_copies_12) ?_
    refine Rk.sp (G_bipush (pc := 13) dX8_copies_13 rfl) ?_
    refine Rk.cRZ (pc := 15) (Cl.s [vi a2, vi 1, vi 99] [] dX8_copies_15 ckX8_81 rfl rfl (Nat.le_of_ble_eq_true rfl) (Nat.le_of_ble_eq_true rfl)) (k_Td_within a2 1 99 ha2 (inRk 1 rfl) (inRk 99 rfl)) (fun r3 hr3 => ?_)
    refine Rk.if_eq (pc := 18) (tgt := 30) dX8_copies_18 (nmI (inZ.R hr3)) rfl (fun hc4 => ?_) (fun hc4 => ?_)
    · refine Rk.sp (G_iconst (pc := 30) dX8_copies_30) ?_
      exact Rk.end_ (fun h => G_ireturn (pc := 31) rfl dX8_copies_31 (q_I h (inRk (-1) rfl) hok))
    · refine Rk.sp (G_iload_n (pc := 21) 3 rfl rfl dX8_copies_21) ?_
      refine Rk.sp (G_iconst (pc := 22) dX8_copies_22) ?_
      refine Rk.sp (G_iconst (pc := 23) dX8_copies_23) ?_
      refine Rk.cRZ (pc := 24) (Cl.s [vi a3, vi 0, vi 2] [] dX8_copies_24 ckX8_81 rfl rfl (Nat.le_of_ble_eq_true rfl) (Nat.le_of_ble_eq_true rfl)) (k_Td_within a3 0 2 ha3 (inRk 0 rfl) (inRk 2 rfl)) (fun r5 hr5 => ?_)
      refine Rk.if_ne (pc := 27) (tgt := 32) dX8_copies_27 (nmI (inZ.R hr5)) rfl (fun hc6 => ?_) (fun hc6 => ?_)
      · refine Rk.sp (G_iconst (pc := 30) dX8_copies_30) ?_
        exact Rk.end_ (fun h => G_ireturn (pc := 31) rfl dX8_copies_31 (q_I h (inRk (-1) rfl) hok))
      · refine Rk.sp (G_iconst (pc := 32) dX8_copies_32) ?_
        refine Rk.isa_w (pc := 33) 4 (L' := [some (vr 0), some (vi a1), some (vi a2), some (vi a3), some (vi 0), none, none]) (Nat.le_of_ble_eq_true rfl) rfl dX8_copies_33 rfl ?_
        refine Rk.sp (G_iload_n (pc := 35) 1 rfl rfl dX8_copies_35) ?_
        refine Rk.isa_w (pc := 36) 5 (L' := [some (vr 0), some (vi a1), some (vi a2), some (vi a3), some (vi 0), some (vi a1), none]) (Nat.le_of_ble_eq_true rfl) rfl dX8_copies_36 rfl ?_
        refine Rk.sp (G_iconst (pc := 38) dX8_copies_38) ?_
        refine Rk.isa_w (pc := 39) 6 (L' := [some (vr 0), some (vi a1), some (vi a2), some (vi a3), some (vi 0), some (vi a1), some (vi 1)]) (Nat.le_of_ble_eq_true rfl) rfl dX8_copies_39 rfl ?_
        refine Rk.fg [true, false, true, true, true, true, true] (L' := [some (vr 0), none, some (vi a2), some (vi a3), some (vi 0), some (vi a1), some (vi 1)]) rfl ?_
        refine Rk.loop (pc := 41) (B := (fun p => Td_copies_41_b a3 a2 p.1 p.2.1 p.2.2.1 p.2.2.2)) (fun p => inR p.1 ∧ inR p.2.1 ∧ inR p.2.2.1 ∧ okS p.2.2.2) (fun p => [some (vr 0), none, some (vi a2), some (vi a3), some (vi p.1), some (vi p.2.1), some (vi p.2.2.1)]) (fun p => (ms false μ p.2.2.2)) (fun p hp => ?_) (0, a1, 1, σ) ⟨(inRk 0 rfl), ha1, (inRk 1 rfl), hok⟩
        obtain ⟨v4_7, v5_8, v6_9, σ10⟩ := p
        obtain ⟨hv4_7, hv5_8, hv6_9, hσ10⟩ := hp
        try dsimp only
        unfold Td_copies_41_b
        refine Rk.sp (G_iload_w (pc := 41) 6 rfl dX8_copies_41) ?_
        refine Rk.sp (G_bipush (pc := 43) dX8_copies_43 rfl) ?_
        refine Rk.icmp_gt (pc := 45) (tgt := 136) dX8_copies_45 (nmI hv6_9) (nmI (inRk 60 rfl)) rfl (fun hc11 => ?_) (fun hc11 => ?_)
        · refine Rk.sp (G_iload_n (pc := 136) 3 rfl rfl dX8_copies_136) ?_
          refine Rk.sp (G_iconst (pc := 137) dX8_copies_137) ?_
          refine Rk.icmp_ne (pc := 138) (tgt := 146) dX8_copies_138 (nmI ha3) (nmI (inRk 2 rfl)) rfl (fun hc12 => ?_) (fun hc12 => ?_)
          · refine Rk.sp (G_iload_w (pc := 141) 4 rfl dX8_copies_141) ?_
            refine Rk.sp (G_goto (pc := 143) (tgt := 151) dX8_copies_143 rfl) ?_
            exact Rk.end_ (fun h => G_ireturn (pc := 151) rfl dX8_copies_151 (q_I h hv4_7 hσ10))
          · refine Rk.sp (G_aload_n (pc := 146) 0 rfl rfl dX8_copies_146) ?_
            refine Rk.sp (G_iload_n (pc := 147) 3 rfl rfl dX8_copies_147) ?_
            refine Rk.cRI (pc := 148) (Cl.v [vi a3] [] dX8_copies_148 ckX8_254 lb0 rfl rfl rfl (Nat.le_of_ble_eq_true rfl) (Nat.le_of_ble_eq_true rfl)) (k_Td_comesRound a3 σ10 ha3 hσ10) (fun r13 hr13 => ?_)
            exact Rk.end_ (fun h => G_ireturn (pc := 151) rfl dX8_copies_151 (q_I h hr13 hσ10))
        · refine Rk.sp (G_aload_n (pc := 48) 0 rfl rfl dX8_copies_48) ?_
          refine Rk.gR (pc := 49) 149 flX8_36 cl8 rfl lb0 dX8_copies_49 ?_
          refine Rk.sp (G_aload_n (pc := 52) 0 rfl rfl dX8_copies_52) ?_
          refine Rk.gR (pc := 53) 1 flX8_12 cl8 rfl lb0 dX8_copies_53 ?_
          refine Rk.sp (G_aload_n (pc := 56) 0 rfl rfl dX8_copies_56) ?_
          refine Rk.gR (pc := 57) 1 flX8_12 cl8 rfl lb0 dX8_copies_57 ?_
          refine Rk.gR (pc := 60) 2 flX8_71 cl7 rfl lb1 dX8_copies_60 ?_
          refine Rk.sp (G_iload_w (pc := 63) 6 rfl dX8_copies_63) ?_
          refine Rk.sp (G_iconst (pc := 65) dX8_copies_65) ?_
          refine Rk.sp (G_isub (pc := 66) dX8_copies_66) ?_
          refine Rk.sp (G_iconst (pc := 67) dX8_copies_67) ?_
          refine Rk.sp (G_irem (pc := 68) dX8_copies_68 (nmW _) (nmI (inRk 2 rfl)) (by decide)) ?_
          refine Rk.cV (pc := 69) (Cl.v [vr 1, vr 2, vi (Int.tmod (wr (v6_9 - 1)) 2)] [] dX8_copies_69 ckX8_224 lb149 rfl rfl rfl (Nat.le_of_ble_eq_true rfl) (Nat.le_of_ble_eq_true rfl)) (k_Ju_sit 1 2 (Int.tmod (wr (v6_9 - 1)) 2) σ10 lb1 lb2 (tmodR (wrR _)) hσ10) (fun σ14 hσ14 => ?_)
          refine Rk.sp (G_aload_n (pc := 72) 0 rfl rfl dX8_copies_72) ?_
          refine Rk.gR (pc := 73) 149 flX8_36 cl8 rfl lb0 dX8_copies_73 ?_
          refine Rk.sp (G_iload_n (pc := 76) 2 rfl rfl dX8_copies_76) ?_
          refine Rk.sp (G_iconst (pc := 77) dX8_copies_77) ?_
          refine Rk.sp (G_iconst (pc := 78) dX8_copies_78) ?_
          refine Rk.cV (pc := 79) (Cl.v [vi a2, vi 0, vi 0] [] dX8_copies_79 ckX8_228 lb149 rfl rfl rfl (Nat.le_of_ble_eq_true rfl) (Nat.le_of_ble_eq_true rfl)) (k_Ju_lay a2 0 0 σ14 ha2 (inRk 0 rfl) (inRk 0 rfl) hσ14) (fun σ15 hσ15 => ?_)
          refine Rk.sp (G_aload_n (pc := 82) 0 rfl rfl dX8_copies_82) ?_
          refine Rk.gR (pc := 83) 149 flX8_36 cl8 rfl lb0 dX8_copies_83 ?_
          refine Rk.gR (pc := 86) 150 flX8_248 cl2 rfl lb149 dX8_copies_86 ?_
          refine Rk.sp (G_iconst (pc := 89) dX8_copies_89) ?_
          refine Rk.sp (G_iload_w (pc := 90) 5 rfl dX8_copies_90) ?_
          refine Rk.asc (pc := 92) hσ15 (nmI hv5_8) 2 rfl (Nat.le_of_ble_eq_true rfl) lb150 dX8_copies_92 (fun σ16 hσ16 => ?_)
          refine Rk.sp (G_aload_n (pc := 93) 0 rfl rfl dX8_copies_93) ?_
          refine Rk.gR (pc := 94) 149 flX8_36 cl8 rfl lb0 dX8_copies_94 ?_
          refine Rk.sp (G_aload_n (pc := 97) 0 rfl rfl dX8_copies_97) ?_
          refine Rk.gR (pc := 98) 1 flX8_12 cl8 rfl lb0 dX8_copies_98 ?_
          refine Rk.gR (pc := 101) 16 flX8_168 cl7 rfl lb1 dX8_copies_101 ?_
          refine Rk.sp (G_iconst (pc := 104) dX8_copies_104) ?_
          refine Rk.sp (fun k => G_aaload2 (pc := 105) 17 (lb16).1 ⟨by decide, by decide⟩ rfl dX8_copies_105 k) ?_
          refine Rk.sp (G_iconst (pc := 106) dX8_copies_106) ?_
          refine Rk.cI (pc := 107) (Cl.v [vr 17, vi 0] [] dX8_copies_107 ckX8_232 lb149 rfl rfl rfl (Nat.le_of_ble_eq_true rfl) (Nat.le_of_ble_eq_true rfl)) (k_Ju_tells 17 0 σ16 lb17 (inRk 0 rfl) hσ16) (fun r17 σ18 hr17 hσ18 => ?_)
          refine Rk.isa_w (pc := 110) 5 (L' := [some (vr 0), none, some (vi a2), some (vi a3), some (vi v4_7), some (vi r17), some (vi v6_9)]) (Nat.le_of_ble_eq_true rfl) rfl dX8_copies_110 rfl ?_
          refine Rk.sp (G_aload_n (pc := 112) 0 rfl rfl dX8_copies_112) ?_
          refine Rk.gR (pc := 113) 171 flX8_63 cl8 rfl lb0 dX8_copies_113 ?_
          refine Rk.sp (G_iload_w (pc := 116) 6 rfl dX8_copies_116) ?_
          refine Rk.sp (G_iload_w (pc := 118) 5 rfl dX8_copies_118) ?_
          refine Rk.as (pc := 120) hσ18 (nmI hr17) lb171 dX8_copies_120 (fun hi20 σ19 hσ19 => ?_)
          refine Rk.sp (G_iload_w (pc := 121) 4 rfl dX8_copies_121) ?_
          refine Rk.sp (G_iload_w (pc := 123) 5 rfl dX8_copies_123) ?_
          refine Rk.mmax (pc := 125) cmmX8_251 hv4_7 hr17 (Nat.le_of_ble_eq_true rfl) (Nat.le_of_ble_eq_true rfl) dX8_copies_125 (fun r21 hr21 => ?_)
          refine Rk.isa_w (pc := 128) 4 (L' := [some (vr 0), none, some (vi a2), some (vi a3), some (vi r21), some (vi r17), some (vi v6_9)]) (Nat.le_of_ble_eq_true rfl) rfl dX8_copies_128 rfl ?_
          refine Rk.inc (pc := 130) 6 (fun v6_22 => [some (vr 0), none, some (vi a2), some (vi a3), some (vi r21), some (vi r17), some (vi v6_22)]) rfl (Nat.le_of_ble_eq_true rfl) rfl dX8_copies_130 (fun _ => rfl) (fun v6_22 hv6_22 => ?_)
          refine Rk.sp (G_goto (pc := 133) (tgt := 41) dX8_copies_133 rfl) ?_
          exact Rk.end_ (fun h => h ⟨hr21, hr17, hv6_22, hσ19⟩)
theorem k_Gl_crossings {κ : Kx} {μ : Sg} (a1 : Nat) (σ : Sg) (ha1 : LB false a1 (1, 6)) (hok : okS σ) : CtRI κ mX1_crossings 0 [vr 166, vr a1] false μ σ (Gl_crossings a1 σ) := by
  intro r h
  refine con_of (by decide) (Nat.le_of_ble_eq_true rfl) 5 ?_
  refine (?_ : Rk κ mX1_crossings _ 0 [some (vr 166), some (vr a1), none, none, none, none, none] [] (ms false μ σ) (Gl_crossings a1 σ) (fun a => a = r)) _ h rfl
  unfold Gl_crossings
  refine Rk.sp (G_iconst (pc := 0) dX1_crossings_0) ?_
  refine Rk.isa_n (pc := 1) 2 (L' := [some (vr 166), some (vr a1), some (vi 0), none, none, none, none]) rfl (Nat.le_of_ble_eq_true rfl) rfl dX1_crossings_1 rfl ?_
  refine Rk.sp (G_iconst (pc := 2) dX1_crossings_2) ?_
  refine Rk.isa_n (pc := 3) 3 (L' := [some (vr 166), some (vr a1), some (vi 0), some (vi 0), none, none, none]) rfl (Nat.le_of_ble_eq_true rfl) rfl dX1_crossings_3 rfl ?_
  refine Rk.fg [false, true, true, true, false, false, false] (L' := [none, some (vr a1), some (vi 0), some (vi 0), none, none, none]) rfl ?_
  refine Rk.loop (pc := 4) (B := (fun p => Gl_crossings_4_b σ a1 p.1 p.2)) (fun p => inR p.1 ∧ inR p.2) (fun p => [none, some (vr a1), some (vi p.1), some (vi p.2), none, none, none]) (fun p => (ms false μ σ)) (fun p hp => ?_) (0, 0) ⟨(inRk 0 rfl), (inRk 0 rfl)⟩
  obtain ⟨v2_1, v3_2⟩ := p
  obtain ⟨hv2_1, hv3_2⟩ := hp
  try dsimp only
  unfold Gl_crossings_4_b
  refine Rk.sp (G_iload_n (pc := 4) 3 rfl rfl dX1_crossings_4) ?_
  refine Rk.sp (G_aload_n (pc := 5) 1 rfl rfl dX1_crossings_5) ?_
  refine Rk.gI (pc := 6) flX1_26 cl6 rfl ha1 dX1_crossings_6 ?_
  refine Rk.icmp_ge (pc := 9) (tgt := 131) dX1_crossings_9 (nmI hv3_2) (nmI (hok _ _)) rfl (fun hc3 => ?_) (fun hc3 => ?_)
  · refine Rk.sp (G_iload_n (pc := 12) 3 rfl rfl dX1_crossings_12) ?_
    refine Rk.sp (G_iconst (pc := 13) dX1_crossings_13) ?_
    refine Rk.sp (G_iadd (pc := 14) dX1_crossings_14) ?_
    refine Rk.ist_w (pc := 15) 4 (fun v4_4 => [none, some (vr a1), some (vi v2_1), some (vi v3_2), some (vi v4_4), none, none]) (Nat.le_of_ble_eq_true rfl) rfl dX1_crossings_15 (nmW _) (fun _ => rfl) (fun v4_4 hv4_4 => ?_)
    refine Rk.loop (pc := 17) (B := (fun p => Gl_crossings_17_b σ a1 v3_2 p.1 p.2)) (fun p => inR p.1 ∧ inR p.2) (fun p => [none, some (vr a1), some (vi p.1), some (vi v3_2), some (vi p.2), none, none]) (fun p => (ms false μ σ)) (fun p hp => ?_) (v2_1, v4_4) ⟨hv2_1, hv4_4⟩
    obtain ⟨v2_5, v4_6⟩ := p
    obtain ⟨hv2_5, hv4_6⟩ := hp
    try dsimp only
    unfold Gl_crossings_17_b
    refine Rk.sp (G_iload_w (pc := 17) 4 rfl dX1_crossings_17) ?_
    refine Rk.sp (G_aload_n (pc := 19) 1 rfl rfl dX1_crossings_19) ?_
    refine Rk.gI (pc := 20) flX1_26 cl6 rfl ha1 dX1_crossings_20 ?_
    refine Rk.icmp_ge (pc := 23) (tgt := 125) dX1_crossings_23 (nmI hv4_6) (nmI (hok _ _)) rfl (fun hc7 => ?_) (fun hc7 => ?_)
    · refine Rk.sp (G_aload_n (pc := 26) 1 rfl rfl dX1_crossings_26) ?_
      refine Rk.gR (pc := 27) (a1 + 4) flX1_40 cl6 rfl ha1 dX1_crossings_27 ?_
      refine Rk.sp (G_iload_n (pc := 30) 3 rfl rfl dX1_crossings_30) ?_
      refine Rk.al (pc := 31) (LBt ha1 4 (by decide)) dX1_crossings_31 (fun hi8 => ?_)
      refine Rk.sp (G_aload_n (pc := 32) 1 rfl rfl dX1_crossings_32) ?_
      refine Rk.gR (pc := 33) (a1 + 4) flX1_40 cl6 rfl ha1 dX1_crossings_33 ?_
      refine Rk.sp (G_iload_w (pc := 36) 4 rfl dX1_crossings_36) ?_
      refine Rk.al (pc := 38) (LBt ha1 4 (by decide)) dX1_crossings_38 (fun hi9 => ?_)
      refine Rk.join (P := fun p => inR p) (pcj := 66) (fun p => [none, some (vr a1), some (vi v2_5), some (vi v3_2), some (vi v4_6), none, none]) (fun p => [vi p]) (fun p => (ms false μ σ)) ?_ (fun p hp => ?_)
      · refine Rk.icmp_eq (pc := 39) (tgt := 65) dX1_crossings_39 (nmI (hok _ _)) (nmI (hok _ _)) rfl (fun hc10 => ?_) (fun hc10 => ?_)
        · refine Rk.sp (G_iconst (pc := 65) dX1_crossings_65) ?_
          exact Rk.end_ (fun h => h (inRk 0 rfl))
        · refine Rk.sp (G_aload_n (pc := 42) 1 rfl rfl dX1_crossings_42) ?_
          refine Rk.gR (pc := 43) (a1 + 11) flX1_57 cl6 rfl ha1 dX1_crossings_43 ?_
          refine Rk.sp (G_iload_n (pc := 46) 3 rfl rfl dX1_crossings_46) ?_
          refine Rk.al (pc := 47) (LBt ha1 11 (by decide)) dX1_crossings_47 (fun hi12 => ?_)
          refine Rk.if_ne (pc := 48) (tgt := 65) dX1_crossings_48 (nmI (hok _ _)) rfl (fun hc13 => ?_) (fun hc13 => ?_)
          · refine Rk.sp (G_aload_n (pc := 51) 1 rfl rfl dX1_crossings_51) ?_
            refine Rk.gR (pc := 52) (a1 + 11) flX1_57 cl6 rfl ha1 dX1_crossings_52 ?_
            refine Rk.sp (G_iload_w (pc := 55) 4 rfl dX1_crossings_55) ?_
            refine Rk.al (pc := 57) (LBt ha1 11 (by decide)) dX1_crossings_57 (fun hi14 => ?_)
            refine Rk.if_ne (pc := 58) (tgt := 65) dX1_crossings_58 (nmI (hok _ _)) rfl (fun hc15 => ?_) (fun hc15 => ?_)
            · refine Rk.sp (G_iconst (pc := 61) dX1_crossings_61) ?_
              refine Rk.sp (G_goto (pc := 62) (tgt := 66) dX1_crossings_62 rfl) ?_
              exact Rk.end_ (fun h => h (inRk 1 rfl))
            · refine Rk.sp (G_iconst (pc := 65) dX1_crossings_65) ?_
              exact Rk.end_ (fun h => h (inRk 0 rfl))
          · refine Rk.sp (G_iconst (pc := 65) dX1_crossings_65) ?_
            exact Rk.end_ (fun h => h (inRk 0 rfl))
      · revert hp; revert p; intro t11 ht11
        try dsimp only
        refine Rk.isa_w (pc := 66) 5 (L' := [none, some (vr a1), some (vi v2_5), some (vi v3_2), some (vi v4_6), some (vi t11), none]) (Nat.le_of_ble_eq_true rfl) rfl dX1_crossings_66 rfl ?_
        refine Rk.sp (G_aload_n (pc := 68) 1 rfl rfl dX1_crossings_68) ?_
        refine Rk.gR (pc := 69) (a1 + 6) flX1_77 cl6 rfl ha1 dX1_crossings_69 ?_
        refine Rk.sp (G_iload_n (pc := 72) 3 rfl rfl dX1_crossings_72) ?_
        refine Rk.al (pc := 73) (LBt ha1 6 (by decide)) dX1_crossings_73 (fun hi16 => ?_)
        refine Rk.sp (G_iconst (pc := 74) dX1_crossings_74) ?_
        refine Rk.join (P := fun p => inR p) (pcj := 99) (fun p => [none, some (vr a1), some (vi v2_5), some (vi v3_2), some (vi v4_6), some (vi t11), none]) (fun p => [vi p]) (fun p => (ms false μ σ)) ?_ (fun p hp => ?_)
        · refine Rk.icmp_eq (pc := 75) (tgt := 98) dX1_crossings_75 (nmI (hok _ _)) (nmI (inRk (-1) rfl)) rfl (fun hc17 => ?_) (fun hc17 => ?_)
          · refine Rk.sp (G_iconst (pc := 98) dX1_crossings_98) ?_
            exact Rk.end_ (fun h => h (inRk 0 rfl))
          · refine Rk.sp (G_aload_n (pc := 78) 1 rfl rfl dX1_crossings_78) ?_
            refine Rk.gR (pc := 79) (a1 + 6) flX1_77 cl6 rfl ha1 dX1_crossings_79 ?_
            refine Rk.sp (G_iload_n (pc := 82) 3 rfl rfl dX1_crossings_82) ?_
            refine Rk.al (pc := 83) (LBt ha1 6 (by decide)) dX1_crossings_83 (fun hi19 => ?_)
            refine Rk.sp (G_aload_n (pc := 84) 1 rfl rfl dX1_crossings_84) ?_
            refine Rk.gR (pc := 85) (a1 + 5) flX1_80 cl6 rfl ha1 dX1_crossings_85 ?_
            refine Rk.sp (G_iload_w (pc := 88) 4 rfl dX1_crossings_88) ?_
            refine Rk.al (pc := 90) (LBt ha1 5 (by decide)) dX1_crossings_90 (fun hi20 => ?_)
            refine Rk.icmp_ge (pc := 91) (tgt := 98) dX1_crossings_91 (nmI (hok _ _)) (nmI (hok _ _)) rfl (fun hc21 => ?_) (fun hc21 => ?_)
            · refine Rk.sp (G_iconst (pc := 94) dX1_crossings_94) ?_
              refine Rk.sp (G_goto (pc := 95) (tgt := 99) dX1_crossings_95 rfl) ?_
              exact Rk.end_ (fun h => h (inRk 1 rfl))
            · refine Rk.sp (G_iconst (pc := 98) dX1_crossings_98) ?_
              exact Rk.end_ (fun h => h (inRk 0 rfl))
        · revert hp; revert p; intro t18 ht18
          try dsimp only
          refine Rk.isa_w (pc := 99) 6 (L' := [none, some (vr a1), some (vi v2_5), some (vi v3_2), some (vi v4_6), some (vi t11), some (vi t18)]) (Nat.le_of_ble_eq_true rfl) rfl dX1_crossings_99 rfl ?_
          refine Rk.sp (G_iload_n (pc := 101) 2 rfl rfl dX1_crossings_101) ?_
          refine Rk.sp (G_iload_w (pc := 102) 5 rfl dX1_crossings_102) ?_
          refine Rk.if_eq (pc := 104) (tgt := 116) dX1_crossings_104 (nmI ht11) rfl (fun hc22 => ?_) (fun hc22 => ?_)
          · refine Rk.sp (G_iconst (pc := 116) dX1_crossings_116) ?_
            refine Rk.sp (G_iadd (pc := 117) dX1_crossings_117) ?_
            refine Rk.ist_n (pc := 118) 2 (fun v2_23 => [none, some (vr a1), some (vi v2_23), some (vi v3_2), some (vi v4_6), some (vi t11), some (vi t18)]) rfl (Nat.le_of_ble_eq_true rfl) rfl dX1_crossings_118 (nmW _) (fun _ => rfl) (fun v2_23 hv2_23 => ?_)
            refine Rk.inc (pc := 119) 4 (fun v4_24 => [none, some (vr a1), some (vi v2_23), some (vi v3_2), some (vi v4_24), some (vi t11), some (vi t18)]) rfl (Nat.le_of_ble_eq_true rfl) rfl dX1_crossings_119 (fun _ => rfl) (fun v4_24 hv4_24 => ?_)
            refine Rk.sp (G_goto (pc := 122) (tgt := 17) dX1_crossings_122 rfl) ?_
            refine Rk.fg [false, true, true, true, true, false, false] (L' := [none, some (vr a1), some (vi v2_23), some (vi v3_2), some (vi v4_24), none, none]) rfl ?_
            exact Rk.end_ (fun h => h ⟨hv2_23, hv4_24⟩)
          · refine Rk.sp (G_iload_w (pc := 107) 6 rfl dX1_crossings_107) ?_
            refine Rk.if_ne (pc := 109) (tgt := 116) dX1_crossings_109 (nmI ht18) rfl (fun hc25 => ?_) (fun hc25 => ?_)
            · refine Rk.sp (G_iconst (pc := 112) dX1_crossings_112) ?_
              refine Rk.sp (G_goto (pc := 113) (tgt := 117) dX1_crossings_113 rfl) ?_
              refine Rk.sp (G_iadd (pc := 117) dX1_crossings_117) ?_
              refine Rk.ist_n (pc := 118) 2 (fun v2_26 => [none, some (vr a1), some (vi v2_26), some (vi v3_2), some (vi v4_6), some (vi t11), some (vi t18)]) rfl (Nat.le_of_ble_eq_true rfl) rfl dX1_crossings_118 (nmW _) (fun _ => rfl) (fun v2_26 hv2_26 => ?_)
              refine Rk.inc (pc := 119) 4 (fun v4_27 => [none, some (vr a1), some (vi v2_26), some (vi v3_2), some (vi v4_27), some (vi t11), some (vi t18)]) rfl (Nat.le_of_ble_eq_true rfl) rfl dX1_crossings_119 (fun _ => rfl) (fun v4_27 hv4_27 => ?_)
              refine Rk.sp (G_goto (pc := 122) (tgt := 17) dX1_crossings_122 rfl) ?_
              refine Rk.fg [false, true, true, true, true, false, false] (L' := [none, some (vr a1), some (vi v2_26), some (vi v3_2), some (vi v4_27), none, none]) rfl ?_
              exact Rk.end_ (fun h => h ⟨hv2_26, hv4_27⟩)
            · refine Rk.sp (G_iconst (pc := 116) dX1_crossings_116) ?_
              refine Rk.sp (G_iadd (pc := 117) dX1_crossings_117) ?_
              refine Rk.ist_n (pc := 118) 2 (fun v2_28 => [none, some (vr a1), some (vi v2_28), some (vi v3_2), some (vi v4_6), some (vi t11), some (vi t18)]) rfl (Nat.le_of_ble_eq_true rfl) rfl dX1_crossings_118 (nmW _) (fun _ => rfl) (fun v2_28 hv2_28 => ?_)
              refine Rk.inc (pc := 119) 4 (fun v4_29 => [none, some (vr a1), some (vi v2_28), some (vi v3_2), some (vi v4_29), some (vi t11), some (vi t18)]) rfl (Nat.le_of_ble_eq_true rfl) rfl dX1_crossings_119 (fun _ => rfl) (fun v4_29 hv4_29 => ?_)
              refine Rk.sp (G_goto (pc := 122) (tgt := 17) dX1_crossings_122 rfl) ?_
              refine Rk.fg [false, true, true, true, true, false, false] (L' := [none, some (vr a1), some (vi v2_28), some (vi v3_2), some (vi v4_29), none, none]) rfl ?_
              exact Rk.end_ (fun h => h ⟨hv2_28, hv4_29⟩)
    · refine Rk.inc (pc := 125) 3 (fun v3_30 => [none, some (vr a1), some (vi v2_5), some (vi v3_30), some (vi v4_6), none, none]) rfl (Nat.le_of_ble_eq_true rfl) rfl dX1_crossings_125 (fun _ => rfl) (fun v3_30 hv3_30 => ?_)
      refine Rk.sp (G_goto (pc := 128) (tgt := 4) dX1_crossings_128 rfl) ?_
      refine Rk.fg [false, true, true, true, false, false, false] (L' := [none, some (vr a1), some (vi v2_5), some (vi v3_30), none, none, none]) rfl ?_
      exact Rk.end_ (fun h => h ⟨hv2_5, hv3_30⟩)
  · refine Rk.sp (G_iload_n (pc := 131) 2 rfl rfl dX1_crossings_131) ?_
    exact Rk.end_ (fun h => G_ireturn (pc := 132) rfl dX1_crossings_132 (q_RI h hv2_1))
theorem k_Td_crossed {κ : Kx} {μ : Sg} (σ : Sg) (hok : okS σ) : CtRI κ mX8_crossed 1 [vr 0] false μ σ (Td_crossed σ) := by
  intro r h
  refine con_of (by decide) (Nat.le_of_ble_eq_true rfl) 0 ?_
  refine (?_ : Rk κ mX8_crossed _ 0 [some (vr 0)] [] (ms false μ σ) (Td_crossed σ) (fun a => a = r)) _ h rfl
  unfold Td_crossed
  refine Rk.sp (G_aload_n (pc := 0) 0 rfl rfl dX8_crossed_0) ?_
  refine Rk.gR (pc := 1) 166 flX8_59 cl8 rfl lb0 dX8_crossed_1 ?_
  refine Rk.sp (G_aload_n (pc := 4) 0 rfl rfl dX8_crossed_4) ?_
  refine Rk.gR (pc := 5) 1 flX8_12 cl8 rfl lb0 dX8_crossed_5 ?_
  refine Rk.gR (pc := 8) 2 flX8_71 cl7 rfl lb1 dX8_crossed_8 ?_
  refine Rk.cRI (pc := 11) (Cl.v [vr 2] [] dX8_crossed_11 ckX8_327 lb166 rfl rfl rfl (Nat.le_of_ble_eq_true rfl) (Nat.le_of_ble_eq_true rfl)) (k_Gl_crossings 2 σ lb2 hok) (fun r1 hr1 => ?_)
  exact Rk.end_ (fun h => G_ireturn (pc := 14) rfl dX8_crossed_14 (q_RI h hr1))
theorem k_Td_isOne {κ : Kx} {b : Bool} {μ σ : Sg} (a1 : Int) (ha1 : inR a1) : CtRZ κ mX8_isOne 0 [vi a1] b μ σ (Td_isOne a1) := by
  intro r h
  refine con_of (by decide) (Nat.le_of_ble_eq_true rfl) 0 ?_
  refine (?_ : Rk κ mX8_isOne _ 0 [some (vi a1)] [] (ms b μ σ) (Td_isOne a1) (fun a => a = r)) _ h rfl
  unfold Td_isOne
  refine Rk.sp (G_iload_n (pc := 0) 0 rfl rfl dX8_isOne_0) ?_
  refine Rk.if_eq (pc := 1) (tgt := 9) dX8_isOne_1 (nmI ha1) rfl (fun hc1 => ?_) (fun hc1 => ?_)
  · refine Rk.sp (G_iconst (pc := 9) dX8_isOne_9) ?_
    refine Rk.sp (G_goto (pc := 10) (tgt := 14) dX8_isOne_10 rfl) ?_
    exact Rk.end_ (fun h => G_zreturn (pc := 14) rfl (nz inZ1) dX8_isOne_14 (q_RZ h inZ1))
  · refine Rk.sp (G_iload_n (pc := 4) 0 rfl rfl dX8_isOne_4) ?_
    refine Rk.sp (G_iconst (pc := 5) dX8_isOne_5) ?_
    refine Rk.icmp_ne (pc := 6) (tgt := 13) dX8_isOne_6 (nmI ha1) (nmI (inRk 1 rfl)) rfl (fun hc2 => ?_) (fun hc2 => ?_)
    · refine Rk.sp (G_iconst (pc := 9) dX8_isOne_9) ?_
      refine Rk.sp (G_goto (pc := 10) (tgt := 14) dX8_isOne_10 rfl) ?_
      exact Rk.end_ (fun h => G_zreturn (pc := 14) rfl (nz inZ1) dX8_isOne_14 (q_RZ h inZ1))
    · refine Rk.sp (G_iconst (pc := 13) dX8_isOne_13) ?_
      exact Rk.end_ (fun h => G_zreturn (pc := 14) rfl (nz inZ0) dX8_isOne_14 (q_RZ h inZ0))
theorem k_Ta_isOpen {κ : Kx} {μ : Sg} (t0 : Nat) (a1 : Int) (σ : Sg) (ht0 : LB false t0 (1, 6)) (ha1 : inR a1) (hok : okS σ) : CtRZ κ mX6_isOpen 0 [vr t0, vi a1] false μ σ (Ta_isOpen t0 a1 σ) := by
  intro r h
  refine con_of (by decide) (Nat.le_of_ble_eq_true rfl) 0 ?_
  refine (?_ : Rk κ mX6_isOpen _ 0 [some (vr t0), some (vi a1)] [] (ms false μ σ) (Ta_isOpen t0 a1 σ) (fun a => a = r)) _ h rfl
  unfold Ta_isOpen
  refine Rk.sp (G_aload_n (pc := 0) 0 rfl rfl dX6_isOpen_0) ?_
  refine Rk.gR (pc := 1) (t0 + 6) flX6_27 cl6 rfl ht0 dX6_isOpen_1 ?_
  refine Rk.sp (G_iload_n (pc := 4) 1 rfl rfl dX6_isOpen_4) ?_
  refine Rk.al (pc := 5) (LBt ht0 6 (by decide)) dX6_isOpen_5 (fun hi1 => ?_)
  refine Rk.sp (G_iconst (pc := 6) dX6_isOpen_6) ?_
  refine Rk.icmp_ne (pc := 7) (tgt := 23) dX6_isOpen_7 (nmI (hok _ _)) (nmI (inRk (-1) rfl)) rfl (fun hc2 => ?_) (fun hc2 => ?_)
  · refine Rk.sp (G_aload_n (pc := 10) 0 rfl rfl dX6_isOpen_10) ?_
    refine Rk.gR (pc := 11) (t0 + 11) flX6_42 cl6 rfl ht0 dX6_isOpen_11 ?_
    refine Rk.sp (G_iload_n (pc := 14) 1 rfl rfl dX6_isOpen_14) ?_
    refine Rk.al (pc := 15) (LBt ht0 11 (by decide)) dX6_isOpen_15 (fun hi3 => ?_)
    refine Rk.if_ne (pc := 16) (tgt := 23) dX6_isOpen_16 (nmI (hok _ _)) rfl (fun hc4 => ?_) (fun hc4 => ?_)
    · refine Rk.sp (G_iconst (pc := 19) dX6_isOpen_19) ?_
      refine Rk.sp (G_goto (pc := 20) (tgt := 24) dX6_isOpen_20 rfl) ?_
      exact Rk.end_ (fun h => G_zreturn (pc := 24) rfl (nz inZ1) dX6_isOpen_24 (q_RZ h inZ1))
    · refine Rk.sp (G_iconst (pc := 23) dX6_isOpen_23) ?_
      exact Rk.end_ (fun h => G_zreturn (pc := 24) rfl (nz inZ0) dX6_isOpen_24 (q_RZ h inZ0))
  · refine Rk.sp (G_iconst (pc := 23) dX6_isOpen_23) ?_
    exact Rk.end_ (fun h => G_zreturn (pc := 24) rfl (nz inZ0) dX6_isOpen_24 (q_RZ h inZ0))
theorem k_Ta_openOf {κ : Kx} {μ : Sg} (t0 : Nat) (a1 : Int) (σ : Sg) (ht0 : LB false t0 (1, 6)) (ha1 : inR a1) (hok : okS σ) : CtRI κ mX6_openOf 1 [vr t0, vi a1] false μ σ (Ta_openOf t0 a1 σ) := by
  intro r h
  refine con_of (by decide) (Nat.le_of_ble_eq_true rfl) 2 ?_
  refine (?_ : Rk κ mX6_openOf _ 0 [some (vr t0), some (vi a1), none, none] [] (ms false μ σ) (Ta_openOf t0 a1 σ) (fun a => a = r)) _ h rfl
  unfold Ta_openOf
  refine Rk.sp (G_iconst (pc := 0) dX6_openOf_0) ?_
  refine Rk.isa_n (pc := 1) 2 (L' := [some (vr t0), some (vi a1), some (vi 0), none]) rfl (Nat.le_of_ble_eq_true rfl) rfl dX6_openOf_1 rfl ?_
  refine Rk.sp (G_iconst (pc := 2) dX6_openOf_2) ?_
  refine Rk.isa_n (pc := 3) 3 (L' := [some (vr t0), some (vi a1), some (vi 0), some (vi 0)]) rfl (Nat.le_of_ble_eq_true rfl) rfl dX6_openOf_3 rfl ?_
  refine Rk.loop (pc := 4) (B := (fun p => Ta_openOf_4_b σ t0 a1 p.1 p.2)) (fun p => inR p.1 ∧ inR p.2) (fun p => [some (vr t0), some (vi a1), some (vi p.1), some (vi p.2)]) (fun p => (ms false μ σ)) (fun p hp => ?_) (0, 0) ⟨(inRk 0 rfl), (inRk 0 rfl)⟩
  obtain ⟨v2_1, v3_2⟩ := p
  obtain ⟨hv2_1, hv3_2⟩ := hp
  try dsimp only
  unfold Ta_openOf_4_b
  refine Rk.sp (G_iload_n (pc := 4) 3 rfl rfl dX6_openOf_4) ?_
  refine Rk.sp (G_aload_n (pc := 5) 0 rfl rfl dX6_openOf_5) ?_
  refine Rk.gI (pc := 6) flX6_55 cl6 rfl ht0 dX6_openOf_6 ?_
  refine Rk.icmp_ge (pc := 9) (tgt := 44) dX6_openOf_9 (nmI hv3_2) (nmI (hok _ _)) rfl (fun hc3 => ?_) (fun hc3 => ?_)
  · refine Rk.sp (G_iload_n (pc := 12) 2 rfl rfl dX6_openOf_12) ?_
    refine Rk.sp (G_aload_n (pc := 13) 0 rfl rfl dX6_openOf_13) ?_
    refine Rk.gR (pc := 14) (t0 + 4) flX6_21 cl6 rfl ht0 dX6_openOf_14 ?_
    refine Rk.sp (G_iload_n (pc := 17) 3 rfl rfl dX6_openOf_17) ?_
    refine Rk.al (pc := 18) (LBt ht0 4 (by decide)) dX6_openOf_18 (fun hi4 => ?_)
    refine Rk.sp (G_iload_n (pc := 19) 1 rfl rfl dX6_openOf_19) ?_
    refine Rk.icmp_ne (pc := 20) (tgt := 35) dX6_openOf_20 (nmI (hok _ _)) (nmI ha1) rfl (fun hc5 => ?_) (fun hc5 => ?_)
    · refine Rk.sp (G_aload_n (pc := 23) 0 rfl rfl dX6_openOf_23) ?_
      refine Rk.sp (G_iload_n (pc := 24) 3 rfl rfl dX6_openOf_24) ?_
      refine Rk.cRZ (pc := 25) (Cl.v [vi v3_2] [vi v2_1] dX6_openOf_25 ckX6_77 ht0 rfl rfl rfl (Nat.le_of_ble_eq_true rfl) (Nat.le_of_ble_eq_true rfl)) (k_Ta_isOpen t0 v3_2 σ ht0 hv3_2 hok) (fun r6 hr6 => ?_)
      refine Rk.if_eq (pc := 28) (tgt := 35) dX6_openOf_28 (nmI (inZ.R hr6)) rfl (fun hc7 => ?_) (fun hc7 => ?_)
      · refine Rk.sp (G_iconst (pc := 35) dX6_openOf_35) ?_
        refine Rk.sp (G_iadd (pc := 36) dX6_openOf_36) ?_
        refine Rk.ist_n (pc := 37) 2 (fun v2_8 => [some (vr t0), some (vi a1), some (vi v2_8), some (vi v3_2)]) rfl (Nat.le_of_ble_eq_true rfl) rfl dX6_openOf_37 (nmW _) (fun _ => rfl) (fun v2_8 hv2_8 => ?_)
        refine Rk.inc (pc := 38) 3 (fun v3_9 => [some (vr t0), some (vi a1), some (vi v2_8), some (vi v3_9)]) rfl (Nat.le_of_ble_eq_true rfl) rfl dX6_openOf_38 (fun _ => rfl) (fun v3_9 hv3_9 => ?_)
        refine Rk.sp (G_goto (pc := 41) (tgt := 4) dX6_openOf_41 rfl) ?_
        exact Rk.end_ (fun h => h ⟨hv2_8, hv3_9⟩)
      · refine Rk.sp (G_iconst (pc := 31) dX6_openOf_31) ?_
        refine Rk.sp (G_goto (pc := 32) (tgt := 36) dX6_openOf_32 rfl) ?_
        refine Rk.sp (G_iadd (pc := 36) dX6_openOf_36) ?_
        refine Rk.ist_n (pc := 37) 2 (fun v2_10 => [some (vr t0), some (vi a1), some (vi v2_10), some (vi v3_2)]) rfl (Nat.le_of_ble_eq_true rfl) rfl dX6_openOf_37 (nmW _) (fun _ => rfl) (fun v2_10 hv2_10 => ?_)
        refine Rk.inc (pc := 38) 3 (fun v3_11 => [some (vr t0), some (vi a1), some (vi v2_10), some (vi v3_11)]) rfl (Nat.le_of_ble_eq_true rfl) rfl dX6_openOf_38 (fun _ => rfl) (fun v3_11 hv3_11 => ?_)
        refine Rk.sp (G_goto (pc := 41) (tgt := 4) dX6_openOf_41 rfl) ?_
        exact Rk.end_ (fun h => h ⟨hv2_10, hv3_11⟩)
    · refine Rk.sp (G_iconst (pc := 35) dX6_openOf_35) ?_
      refine Rk.sp (G_iadd (pc := 36) dX6_openOf_36) ?_
      refine Rk.ist_n (pc := 37) 2 (fun v2_12 => [some (vr t0), some (vi a1), some (vi v2_12), some (vi v3_2)]) rfl (Nat.le_of_ble_eq_true rfl) rfl dX6_openOf_37 (nmW _) (fun _ => rfl) (fun v2_12 hv2_12 => ?_)
      refine Rk.inc (pc := 38) 3 (fun v3_13 => [some (vr t0), some (vi a1), some (vi v2_12), some (vi v3_13)]) rfl (Nat.le_of_ble_eq_true rfl) rfl dX6_openOf_38 (fun _ => rfl) (fun v3_13 hv3_13 => ?_)
      refine Rk.sp (G_goto (pc := 41) (tgt := 4) dX6_openOf_41 rfl) ?_
      exact Rk.end_ (fun h => h ⟨hv2_12, hv3_13⟩)
  · refine Rk.sp (G_iload_n (pc := 44) 2 rfl rfl dX6_openOf_44) ?_
    exact Rk.end_ (fun h => G_ireturn (pc := 45) rfl dX6_openOf_45 (q_RI h hv2_1))
theorem k_Ta_copyFrom {κ : Kx} {μ : Sg} (t0 : Nat) (a1 : Nat) (σ : Sg) (ht0 : LB false t0 (1, 6)) (ha1 : LB false a1 (1, 6)) (hok : okS σ) : CtV κ mX6_copyFrom 1 [vr t0, vr a1] false μ σ (Ta_copyFrom t0 a1 σ) := by
  intro τ h
  refine con_of (by decide) (Nat.le_of_ble_eq_true rfl) 1 ?_
  refine (?_ : Rk κ mX6_copyFrom _ 0 [some (vr t0), some (vr a1), none] [] (ms false μ σ) (Ta_copyFrom t0 a1 σ) (fun a => a = τ)) _ h rfl
  unfold Ta_copyFrom
  refine Rk.sp (G_aload_n (pc := 0) 0 rfl rfl dX6_copyFrom_0) ?_
  refine Rk.sp (G_aload_n (pc := 1) 1 rfl rfl dX6_copyFrom_1) ?_
  refine Rk.gI (pc := 2) flX6_48 cl6 rfl ha1 dX6_copyFrom_2 ?_
  refine Rk.pI (pc := 5) hok (nmI (hok _ _)) flX6_48 cl6 rfl rfl ht0 dX6_copyFrom_5 (fun σ1 hσ1 => ?_)
  refine Rk.sp (G_aload_n (pc := 8) 0 rfl rfl dX6_copyFrom_8) ?_
  refine Rk.sp (G_aload_n (pc := 9) 1 rfl rfl dX6_copyFrom_9) ?_
  refine Rk.gI (pc := 10) flX6_52 cl6 rfl ha1 dX6_copyFrom_10 ?_
  refine Rk.pI (pc := 13) hσ1 (nmI (hσ1 _ _)) flX6_52 cl6 rfl rfl ht0 dX6_copyFrom_13 (fun σ2 hσ2 => ?_)
  refine Rk.sp (G_aload_n (pc := 16) 0 rfl rfl dX6_copyFrom_16) ?_
  refine Rk.sp (G_aload_n (pc := 17) 1 rfl rfl dX6_copyFrom_17) ?_
  refine Rk.gI (pc := 18) flX6_55 cl6 rfl ha1 dX6_copyFrom_18 ?_
  refine Rk.pI (pc := 21) hσ2 (nmI (hσ2 _ _)) flX6_55 cl6 rfl rfl ht0 dX6_copyFrom_21 (fun σ3 hσ3 => ?_)
  refine Rk.sp (G_aload_n (pc := 24) 0 rfl rfl dX6_copyFrom_24) ?_
  refine Rk.sp (G_aload_n (pc := 25) 1 rfl rfl dX6_copyFrom_25) ?_
  refine Rk.gI (pc := 26) flX6_58 cl6 rfl ha1 dX6_copyFrom_26 ?_
  refine Rk.pI (pc := 29) hσ3 (nmI (hσ3 _ _)) flX6_58 cl6 rfl rfl ht0 dX6_copyFrom_29 (fun σ4 hσ4 => ?_)
  refine Rk.sp (G_aload_n (pc := 32) 0 rfl rfl dX6_copyFrom_32) ?_
  refine Rk.sp (G_aload_n (pc := 33) 1 rfl rfl dX6_copyFrom_33) ?_
  refine Rk.gI (pc := 34) flX6_61 cl6 rfl ha1 dX6_copyFrom_34 ?_
  refine Rk.pI (pc := 37) hσ4 (nmI (hσ4 _ _)) flX6_61 cl6 rfl rfl ht0 dX6_copyFrom_37 (fun σ5 hσ5 => ?_)
  refine Rk.sp (G_aload_n (pc := 40) 0 rfl rfl dX6_copyFrom_40) ?_
  refine Rk.sp (G_aload_n (pc := 41) 1 rfl rfl dX6_copyFrom_41) ?_
  refine Rk.gI (pc := 42) flX6_64 cl6 rfl ha1 dX6_copyFrom_42 ?_
  refine Rk.pI (pc := 45) hσ5 (nmI (hσ5 _ _)) flX6_64 cl6 rfl rfl ht0 dX6_copyFrom_45 (fun σ6 hσ6 => ?_)
  refine Rk.sp (G_iconst (pc := 48) dX6_copyFrom_48) ?_
  refine Rk.isa_n (pc := 49) 2 (L' := [some (vr t0), some (vr a1), some (vi 0)]) rfl (Nat.le_of_ble_eq_true rfl) rfl dX6_copyFrom_49 rfl ?_
  refine Rk.loop (pc := 50) (B := (fun p => Ta_copyFrom_50_b t0 a1 p.1 p.2)) (fun p => inR p.1 ∧ okS p.2) (fun p => [some (vr t0), some (vr a1), some (vi p.1)]) (fun p => (ms false μ p.2)) (fun p hp => ?_) (0, σ6) ⟨(inRk 0 rfl), hσ6⟩
  obtain ⟨v2_7, σ8⟩ := p
  obtain ⟨hv2_7, hσ8⟩ := hp
  try dsimp only
  unfold Ta_copyFrom_50_b
  refine Rk.sp (G_iload_n (pc := 50) 2 rfl rfl dX6_copyFrom_50) ?_
  refine Rk.sp (G_iconst (pc := 51) dX6_copyFrom_51) ?_
  refine Rk.icmp_ge (pc := 52) (tgt := 97) dX6_copyFrom_52 (nmI hv2_7) (nmI (inRk 2 rfl)) rfl (fun hc9 => ?_) (fun hc9 => ?_)
  · refine Rk.sp (G_aload_n (pc := 55) 0 rfl rfl dX6_copyFrom_55) ?_
    refine Rk.gR (pc := 56) (t0 + 1) flX6_9 cl6 rfl ht0 dX6_copyFrom_56 ?_
    refine Rk.sp (G_iload_n (pc := 59) 2 rfl rfl dX6_copyFrom_59) ?_
    refine Rk.sp (G_aload_n (pc := 60) 1 rfl rfl dX6_copyFrom_60) ?_
    refine Rk.gR (pc := 61) (a1 + 1) flX6_9 cl6 rfl ha1 dX6_copyFrom_61 ?_
    refine Rk.sp (G_iload_n (pc := 64) 2 rfl rfl dX6_copyFrom_64) ?_
    refine Rk.al (pc := 65) (LBt2 ha1 1 (by decide)) dX6_copyFrom_65 (fun hi10 => ?_)
    refine Rk.as (pc := 66) hσ8 (nmI (hσ8 _ _)) (LBt2 ht0 1 (by decide)) dX6_copyFrom_66 (fun hi12 σ11 hσ11 => ?_)
    refine Rk.sp (G_aload_n (pc := 67) 0 rfl rfl dX6_copyFrom_67) ?_
    refine Rk.gR (pc := 68) (t0 + 2) flX6_15 cl6 rfl ht0 dX6_copyFrom_68 ?_
    refine Rk.sp (G_iload_n (pc := 71) 2 rfl rfl dX6_copyFrom_71) ?_
    refine Rk.sp (G_aload_n (pc := 72) 1 rfl rfl dX6_copyFrom_72) ?_
    refine Rk.gR (pc := 73) (a1 + 2) flX6_15 cl6 rfl ha1 dX6_copyFrom_73 ?_
    refine Rk.sp (G_iload_n (pc := 76) 2 rfl rfl dX6_copyFrom_76) ?_
    refine Rk.al (pc := 77) (LBt2 ha1 2 (by decide)) dX6_copyFrom_77 (fun hi13 => ?_)
    refine Rk.as (pc := 78) hσ11 (nmI (hσ11 _ _)) (LBt2 ht0 2 (by decide)) dX6_copyFrom_78 (fun hi15 σ14 hσ14 => ?_)
    refine Rk.sp (G_aload_n (pc := 79) 0 rfl rfl dX6_copyFrom_79) ?_
    refine Rk.gR (pc := 80) (t0 + 3) flX6_18 cl6 rfl ht0 dX6_copyFrom_80 ?_
    refine Rk.sp (G_iload_n (pc := 83) 2 rfl rfl dX6_copyFrom_83) ?_
    refine Rk.sp (G_aload_n (pc := 84) 1 rfl rfl dX6_copyFrom_84) ?_
    refine Rk.gR (pc := 85) (a1 + 3) flX6_18 cl6 rfl ha1 dX6_copyFrom_85 ?_
    refine Rk.sp (G_iload_n (pc := 88) 2 rfl rfl dX6_copyFrom_88) ?_
    refine Rk.al (pc := 89) (LBt2 ha1 3 (by decide)) dX6_copyFrom_89 (fun hi16 => ?_)
    refine Rk.as (pc := 90) hσ14 (nmI (hσ14 _ _)) (LBt2 ht0 3 (by decide)) dX6_copyFrom_90 (fun hi18 σ17 hσ17 => ?_)
    refine Rk.inc (pc := 91) 2 (fun v2_19 => [some (vr t0), some (vr a1), some (vi v2_19)]) rfl (Nat.le_of_ble_eq_true rfl) rfl dX6_copyFrom_91 (fun _ => rfl) (fun v2_19 hv2_19 => ?_)
    refine Rk.sp (G_goto (pc := 94) (tgt := 50) dX6_copyFrom_94 rfl) ?_
    exact Rk.end_ (fun h => h ⟨hv2_19, hσ17⟩)
  · refine Rk.sp (G_aload_n (pc := 97) 1 rfl rfl dX6_copyFrom_97) ?_
    refine Rk.gR (pc := 98) (a1 + 4) flX6_21 cl6 rfl ha1 dX6_copyFrom_98 ?_
    refine Rk.sp (G_iconst (pc := 101) dX6_copyFrom_101) ?_
    refine Rk.sp (G_aload_n (pc := 102) 0 rfl rfl dX6_copyFrom_102) ?_
    refine Rk.gR (pc := 103) (t0 + 4) flX6_21 cl6 rfl ht0 dX6_copyFrom_103 ?_
    refine Rk.sp (G_iconst (pc := 106) dX6_copyFrom_106) ?_
    refine Rk.sp (G_aload_n (pc := 107) 0 rfl rfl dX6_copyFrom_107) ?_
    refine Rk.gI (pc := 108) flX6_55 cl6 rfl ht0 dX6_copyFrom_108 ?_
    refine Rk.cp (pc := 111) hσ8 (nmI (hσ8 _ _)) ckcX6_67 (LBt ha1 4 (by decide)) (LBt ht0 4 (by decide)) (by decide) (Nat.le_of_ble_eq_true rfl) dX6_copyFrom_111 (fun σ20 hσ20 => ?_)
    refine Rk.sp (G_aload_n (pc := 114) 1 rfl rfl dX6_copyFrom_114) ?_
    refine Rk.gR (pc := 115) (a1 + 5) flX6_24 cl6 rfl ha1 dX6_copyFrom_115 ?_
    refine Rk.sp (G_iconst (pc := 118) dX6_copyFrom_118) ?_
    refine Rk.sp (G_aload_n (pc := 119) 0 rfl rfl dX6_copyFrom_119) ?_
    refine Rk.gR (pc := 120) (t0 + 5) flX6_24 cl6 rfl ht0 dX6_copyFrom_120 ?_
    refine Rk.sp (G_iconst (pc := 123) dX6_copyFrom_123) ?_
    refine Rk.sp (G_aload_n (pc := 124) 0 rfl rfl dX6_copyFrom_124) ?_
    refine Rk.gI (pc := 125) flX6_55 cl6 rfl ht0 dX6_copyFrom_125 ?_
    refine Rk.cp (pc := 128) hσ20 (nmI (hσ20 _ _)) ckcX6_67 (LBt ha1 5 (by decide)) (LBt ht0 5 (by decide)) (by decide) (Nat.le_of_ble_eq_true rfl) dX6_copyFrom_128 (fun σ21 hσ21 => ?_)
    refine Rk.sp (G_aload_n (pc := 131) 1 rfl rfl dX6_copyFrom_131) ?_
    refine Rk.gR (pc := 132) (a1 + 6) flX6_27 cl6 rfl ha1 dX6_copyFrom_132 ?_
    refine Rk.sp (G_iconst (pc := 135) dX6_copyFrom_135) ?_
    refine Rk.sp (G_aload_n (pc := 136) 0 rfl rfl dX6_copyFrom_136) ?_
    refine Rk.gR (pc := 137) (t0 + 6) flX6_27 cl6 rfl ht0 dX6_copyFrom_137 ?_
    refine Rk.sp (G_iconst (pc := 140) dX6_copyFrom_140) ?_
    refine Rk.sp (G_aload_n (pc := 141) 0 rfl rfl dX6_copyFrom_141) ?_
    refine Rk.gI (pc := 142) flX6_55 cl6 rfl ht0 dX6_copyFrom_142 ?_
    refine Rk.cp (pc := 145) hσ21 (nmI (hσ21 _ _)) ckcX6_67 (LBt ha1 6 (by decide)) (LBt ht0 6 (by decide)) (by decide) (Nat.le_of_ble_eq_true rfl) dX6_copyFrom_145 (fun σ22 hσ22 => ?_)
    refine Rk.sp (G_aload_n (pc := 148) 1 rfl rfl dX6_copyFrom_148) ?_
    refine Rk.gR (pc := 149) (a1 + 7) flX6_30 cl6 rfl ha1 dX6_copyFrom_149 ?_
    refine Rk.sp (G_iconst (pc := 152) dX6_copyFrom_152) ?_
    refine Rk.sp (G_aload_n (pc := 153) 0 rfl rfl dX6_copyFrom_153) ?_
    refine Rk.gR (pc := 154) (t0 + 7) flX6_30 cl6 rfl ht0 dX6_copyFrom_154 ?_
    refine Rk.sp (G_iconst (pc := 157) dX6_copyFrom_157) ?_
    refine Rk.sp (G_aload_n (pc := 158) 0 rfl rfl dX6_copyFrom_158) ?_
    refine Rk.gI (pc := 159) flX6_55 cl6 rfl ht0 dX6_copyFrom_159 ?_
    refine Rk.cp (pc := 162) hσ22 (nmI (hσ22 _ _)) ckcX6_67 (LBt ha1 7 (by decide)) (LBt ht0 7 (by decide)) (by decide) (Nat.le_of_ble_eq_true rfl) dX6_copyFrom_162 (fun σ23 hσ23 => ?_)
    refine Rk.sp (G_aload_n (pc := 165) 1 rfl rfl dX6_copyFrom_165) ?_
    refine Rk.gR (pc := 166) (a1 + 8) flX6_33 cl6 rfl ha1 dX6_copyFrom_166 ?_
    refine Rk.sp (G_iconst (pc := 169) dX6_copyFrom_169) ?_
    refine Rk.sp (G_aload_n (pc := 170) 0 rfl rfl dX6_copyFrom_170) ?_
    refine Rk.gR (pc := 171) (t0 + 8) flX6_33 cl6 rfl ht0 dX6_copyFrom_171 ?_
    refine Rk.sp (G_iconst (pc := 174) dX6_copyFrom_174) ?_
    refine Rk.sp (G_aload_n (pc := 175) 0 rfl rfl dX6_copyFrom_175) ?_
    refine Rk.gI (pc := 176) flX6_55 cl6 rfl ht0 dX6_copyFrom_176 ?_
    refine Rk.cp (pc := 179) hσ23 (nmI (hσ23 _ _)) ckcX6_67 (LBt ha1 8 (by decide)) (LBt ht0 8 (by decide)) (by decide) (Nat.le_of_ble_eq_true rfl) dX6_copyFrom_179 (fun σ24 hσ24 => ?_)
    refine Rk.sp (G_aload_n (pc := 182) 1 rfl rfl dX6_copyFrom_182) ?_
    refine Rk.gR (pc := 183) (a1 + 9) flX6_36 cl6 rfl ha1 dX6_copyFrom_183 ?_
    refine Rk.sp (G_iconst (pc := 186) dX6_copyFrom_186) ?_
    refine Rk.sp (G_aload_n (pc := 187) 0 rfl rfl dX6_copyFrom_187) ?_
    refine Rk.gR (pc := 188) (t0 + 9) flX6_36 cl6 rfl ht0 dX6_copyFrom_188 ?_
    refine Rk.sp (G_iconst (pc := 191) dX6_copyFrom_191) ?_
    refine Rk.sp (G_aload_n (pc := 192) 0 rfl rfl dX6_copyFrom_192) ?_
    refine Rk.gI (pc := 193) flX6_55 cl6 rfl ht0 dX6_copyFrom_193 ?_
    refine Rk.cp (pc := 196) hσ24 (nmI (hσ24 _ _)) ckcX6_67 (LBt ha1 9 (by decide)) (LBt ht0 9 (by decide)) (by decide) (Nat.le_of_ble_eq_true rfl) dX6_copyFrom_196 (fun σ25 hσ25 => ?_)
    refine Rk.sp (G_aload_n (pc := 199) 1 rfl rfl dX6_copyFrom_199) ?_
    refine Rk.gR (pc := 200) (a1 + 10) flX6_39 cl6 rfl ha1 dX6_copyFrom_200 ?_
    refine Rk.sp (G_iconst (pc := 203) dX6_copyFrom_203) ?_
    refine Rk.sp (G_aload_n (pc := 204) 0 rfl rfl dX6_copyFrom_204) ?_
    refine Rk.gR (pc := 205) (t0 + 10) flX6_39 cl6 rfl ht0 dX6_copyFrom_205 ?_
    refine Rk.sp (G_iconst (pc := 208) dX6_copyFrom_208) ?_
    refine Rk.sp (G_aload_n (pc := 209) 0 rfl rfl dX6_copyFrom_209) ?_
    refine Rk.gI (pc := 210) flX6_55 cl6 rfl ht0 dX6_copyFrom_210 ?_
    refine Rk.cp (pc := 213) hσ25 (nmI (hσ25 _ _)) ckcX6_67 (LBt ha1 10 (by decide)) (LBt ht0 10 (by decide)) (by decide) (Nat.le_of_ble_eq_true rfl) dX6_copyFrom_213 (fun σ26 hσ26 => ?_)
    refine Rk.sp (G_aload_n (pc := 216) 1 rfl rfl dX6_copyFrom_216) ?_
    refine Rk.gR (pc := 217) (a1 + 11) flX6_42 cl6 rfl ha1 dX6_copyFrom_217 ?_
    refine Rk.sp (G_iconst (pc := 220) dX6_copyFrom_220) ?_
    refine Rk.sp (G_aload_n (pc := 221) 0 rfl rfl dX6_copyFrom_221) ?_
    refine Rk.gR (pc := 222) (t0 + 11) flX6_42 cl6 rfl ht0 dX6_copyFrom_222 ?_
    refine Rk.sp (G_iconst (pc := 225) dX6_copyFrom_225) ?_
    refine Rk.sp (G_aload_n (pc := 226) 0 rfl rfl dX6_copyFrom_226) ?_
    refine Rk.gI (pc := 227) flX6_55 cl6 rfl ht0 dX6_copyFrom_227 ?_
    refine Rk.cp (pc := 230) hσ26 (nmI (hσ26 _ _)) ckcX6_67 (LBt ha1 11 (by decide)) (LBt ht0 11 (by decide)) (by decide) (Nat.le_of_ble_eq_true rfl) dX6_copyFrom_230 (fun σ27 hσ27 => ?_)
    refine Rk.sp (G_aload_n (pc := 233) 1 rfl rfl dX6_copyFrom_233) ?_
    refine Rk.gR (pc := 234) (a1 + 12) flX6_45 cl6 rfl ha1 dX6_copyFrom_234 ?_
    refine Rk.sp (G_iconst (pc := 237) dX6_copyFrom_237) ?_
    refine Rk.sp (G_aload_n (pc := 238) 0 rfl rfl dX6_copyFrom_238) ?_
    refine Rk.gR (pc := 239) (t0 + 12) flX6_45 cl6 rfl ht0 dX6_copyFrom_239 ?_
    refine Rk.sp (G_iconst (pc := 242) dX6_copyFrom_242) ?_
    refine Rk.sp (G_aload_n (pc := 243) 0 rfl rfl dX6_copyFrom_243) ?_
    refine Rk.gI (pc := 244) flX6_55 cl6 rfl ht0 dX6_copyFrom_244 ?_
    refine Rk.cp (pc := 247) hσ27 (nmI (hσ27 _ _)) ckcX6_67 (LBt ha1 12 (by decide)) (LBt ht0 12 (by decide)) (by decide) (Nat.le_of_ble_eq_true rfl) dX6_copyFrom_247 (fun σ28 hσ28 => ?_)
    exact Rk.end_ (fun h => G_return (pc := 250) rfl dX6_copyFrom_250 (q_V h hσ28))
