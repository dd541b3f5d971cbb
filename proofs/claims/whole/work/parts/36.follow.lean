theorem k_Mo_comes {κ : Kx} {μ : Sg} (a1 : Int) (a2 : Int) (a3 : Int) (a4 : Int) (a5 : Int) (σ : Sg) (ha1 : inR a1) (ha2 : inR a2) (ha3 : inR a3) (ha4 : inR a4) (ha5 : inR a5) (hok : okS σ) : CtI κ mX9_comes 1 [vr 172, vi a1, vi a2, vi a3, vi a4, vi a5] true μ σ (Mo_comes a1 a2 a3 a4 a5 σ) := by
  intro r τ h
  refine con_of (by decide) (Nat.le_of_ble_eq_true rfl) 1 ?_
  refine (?_ : Rk κ mX9_comes _ 0 [some (vr 172), some (vi a1), some (vi a2), some (vi a3), some (vi a4), some (vi a5), none] [] (ms true μ σ) (Mo_comes a1 a2 a3 a4 a5 σ) (fun a => a = (r, τ))) _ h rfl
  unfold Mo_comes
  refine Rk.sp (G_aload_n (pc := 0) 0 rfl rfl dX9_comes_0) ?_
  refine Rk.gR (pc := 1) 173 flX9_7 cl9 rfl lb172 dX9_comes_1 ?_
  refine Rk.sp (G_iconst (pc := 4) dX9_comes_4) ?_
  refine Rk.alc (pc := 5) 3 rfl (Nat.le_of_ble_eq_true rfl) lb173 dX9_comes_5 ?_
  refine Rk.ist_w (pc := 6) 6 (fun v6_1 => [some (vr 172), some (vi a1), some (vi a2), some (vi a3), some (vi a4), some (vi a5), some (vi v6_1)]) (Nat.le_of_ble_eq_true rfl) rfl dX9_comes_6 (nmI (hok _ _)) (fun _ => rfl) (fun v6_1 hv6_1 => ?_)
  refine Rk.sp (G_aload_n (pc := 8) 0 rfl rfl dX9_comes_8) ?_
  refine Rk.sp (G_iload_w (pc := 9) 6 rfl dX9_comes_9) ?_
  refine Rk.sp (G_iconst (pc := 11) dX9_comes_11) ?_
  refine Rk.sp (G_iload_n (pc := 12) 1 rfl rfl dX9_comes_12) ?_
  refine Rk.cV (pc := 13) (Cl.v [vi v6_1, vi 0, vi a1] [] dX9_comes_13 ckX9_334 lb172 rfl rfl rfl (Nat.le_of_ble_eq_true rfl) (Nat.le_of_ble_eq_true rfl)) (k_Mo_puts0 v6_1 0 a1 σ hv6_1 (inRk 0 rfl) ha1 hok) (fun σ2 hσ2 => ?_)
  refine Rk.sp (G_aload_n (pc := 16) 0 rfl rfl dX9_comes_16) ?_
  refine Rk.sp (G_iload_w (pc := 17) 6 rfl dX9_comes_17) ?_
  refine Rk.sp (G_iconst (pc := 19) dX9_comes_19) ?_
  refine Rk.sp (G_aload_n (pc := 20) 0 rfl rfl dX9_comes_20) ?_
  refine Rk.gR (pc := 21) 173 flX9_7 cl9 rfl lb172 dX9_comes_21 ?_
  refine Rk.sp (G_iconst (pc := 24) dX9_comes_24) ?_
  refine Rk.alc (pc := 25) 0 rfl (Nat.le_of_ble_eq_true rfl) lb173 dX9_comes_25 ?_
  refine Rk.cV (pc := 26) (Cl.v [vi v6_1, vi 1, vi (σ2 173 0)] [] dX9_comes_26 ckX9_334 lb172 rfl rfl rfl (Nat.le_of_ble_eq_true rfl) (Nat.le_of_ble_eq_true rfl)) (k_Mo_puts0 v6_1 1 (σ2 173 0) σ2 hv6_1 (inRk 1 rfl) (hσ2 _ _) hσ2) (fun σ3 hσ3 => ?_)
  refine Rk.sp (G_aload_n (pc := 29) 0 rfl rfl dX9_comes_29) ?_
  refine Rk.sp (G_iload_w (pc := 30) 6 rfl dX9_comes_30) ?_
  refine Rk.sp (G_iconst (pc := 32) dX9_comes_32) ?_
  refine Rk.sp (G_iconst (pc := 33) dX9_comes_33) ?_
  refine Rk.cV (pc := 34) (Cl.v [vi v6_1, vi 2, vi (-1)] [] dX9_comes_34 ckX9_334 lb172 rfl rfl rfl (Nat.le_of_ble_eq_true rfl) (Nat.le_of_ble_eq_true rfl)) (k_Mo_puts0 v6_1 2 (-1) σ3 hv6_1 (inRk 2 rfl) (inRk (-1) rfl) hσ3) (fun σ4 hσ4 => ?_)
  refine Rk.sp (G_aload_n (pc := 37) 0 rfl rfl dX9_comes_37) ?_
  refine Rk.sp (G_iload_w (pc := 38) 6 rfl dX9_comes_38) ?_
  refine Rk.sp (G_iconst (pc := 40) dX9_comes_40) ?_
  refine Rk.sp (G_iload_n (pc := 41) 2 rfl rfl dX9_comes_41) ?_
  refine Rk.cV (pc := 42) (Cl.v [vi v6_1, vi 3, vi a2] [] dX9_comes_42 ckX9_334 lb172 rfl rfl rfl (Nat.le_of_ble_eq_true rfl) (Nat.le_of_ble_eq_true rfl)) (k_Mo_puts0 v6_1 3 a2 σ4 hv6_1 (inRk 3 rfl) ha2 hσ4) (fun σ5 hσ5 => ?_)
  refine Rk.sp (G_aload_n (pc := 45) 0 rfl rfl dX9_comes_45) ?_
  refine Rk.sp (G_iload_w (pc := 46) 6 rfl dX9_comes_46) ?_
  refine Rk.sp (G_iconst (pc := 48) dX9_comes_48) ?_
  refine Rk.sp (G_iload_n (pc := 49) 3 rfl rfl dX9_comes_49) ?_
  refine Rk.cV (pc := 50) (Cl.v [vi v6_1, vi 4, vi a3] [] dX9_comes_50 ckX9_334 lb172 rfl rfl rfl (Nat.le_of_ble_eq_true rfl) (Nat.le_of_ble_eq_true rfl)) (k_Mo_puts0 v6_1 4 a3 σ5 hv6_1 (inRk 4 rfl) ha3 hσ5) (fun σ6 hσ6 => ?_)
  refine Rk.sp (G_aload_n (pc := 53) 0 rfl rfl dX9_comes_53) ?_
  refine Rk.sp (G_iload_w (pc := 54) 6 rfl dX9_comes_54) ?_
  refine Rk.sp (G_iconst (pc := 56) dX9_comes_56) ?_
  refine Rk.sp (G_iload_w (pc := 57) 4 rfl dX9_comes_57) ?_
  refine Rk.cV (pc := 59) (Cl.v [vi v6_1, vi 5, vi a4] [] dX9_comes_59 ckX9_334 lb172 rfl rfl rfl (Nat.le_of_ble_eq_true rfl) (Nat.le_of_ble_eq_true rfl)) (k_Mo_puts0 v6_1 5 a4 σ6 hv6_1 (inRk 5 rfl) ha4 hσ6) (fun σ7 hσ7 => ?_)
  refine Rk.sp (G_aload_n (pc := 62) 0 rfl rfl dX9_comes_62) ?_
  refine Rk.sp (G_iload_w (pc := 63) 6 rfl dX9_comes_63) ?_
  refine Rk.sp (G_bipush (pc := 65) dX9_comes_65 rfl) ?_
  refine Rk.sp (G_iload_w (pc := 67) 5 rfl dX9_comes_67) ?_
  refine Rk.cV (pc := 69) (Cl.v [vi v6_1, vi 6, vi a5] [] dX9_comes_69 ckX9_334 lb172 rfl rfl rfl (Nat.le_of_ble_eq_true rfl) (Nat.le_of_ble_eq_true rfl)) (k_Mo_puts0 v6_1 6 a5 σ7 hv6_1 (inRk 6 rfl) ha5 hσ7) (fun σ8 hσ8 => ?_)
  refine Rk.sp (G_aload_n (pc := 72) 0 rfl rfl dX9_comes_72) ?_
  refine Rk.sp (G_iload_w (pc := 73) 6 rfl dX9_comes_73) ?_
  refine Rk.sp (G_bipush (pc := 75) dX9_comes_75 rfl) ?_
  refine Rk.sp (G_iconst (pc := 77) dX9_comes_77) ?_
  refine Rk.cV (pc := 78) (Cl.v [vi v6_1, vi 7, vi 0] [] dX9_comes_78 ckX9_334 lb172 rfl rfl rfl (Nat.le_of_ble_eq_true rfl) (Nat.le_of_ble_eq_true rfl)) (k_Mo_puts0 v6_1 7 0 σ8 hv6_1 (inRk 7 rfl) (inRk 0 rfl) hσ8) (fun σ9 hσ9 => ?_)
  refine Rk.sp (G_aload_n (pc := 81) 0 rfl rfl dX9_comes_81) ?_
  refine Rk.sp (G_iload_w (pc := 82) 6 rfl dX9_comes_82) ?_
  refine Rk.sp (G_bipush (pc := 84) dX9_comes_84 rfl) ?_
  refine Rk.sp (G_iconst (pc := 86) dX9_comes_86) ?_
  refine Rk.cV (pc := 87) (Cl.v [vi v6_1, vi 8, vi (-1)] [] dX9_comes_87 ckX9_334 lb172 rfl rfl rfl (Nat.le_of_ble_eq_true rfl) (Nat.le_of_ble_eq_true rfl)) (k_Mo_puts0 v6_1 8 (-1) σ9 hv6_1 (inRk 8 rfl) (inRk (-1) rfl) hσ9) (fun σ10 hσ10 => ?_)
  refine Rk.sp (G_aload_n (pc := 90) 0 rfl rfl dX9_comes_90) ?_
  refine Rk.gR (pc := 91) 173 flX9_7 cl9 rfl lb172 dX9_comes_91 ?_
  refine Rk.sp (G_iconst (pc := 94) dX9_comes_94) ?_
  refine Rk.sp (G_dup2 (pc := 95) dX9_comes_95 (fun _ h => by cases h) (fun _ h => by cases h)) ?_
  refine Rk.alc (pc := 96) 3 rfl (Nat.le_of_ble_eq_true rfl) lb173 dX9_comes_96 ?_
  refine Rk.sp (G_iconst (pc := 97) dX9_comes_97) ?_
  refine Rk.sp (G_iadd (pc := 98) dX9_comes_98) ?_
  refine Rk.asc (pc := 99) hσ10 (nmW _) 3 rfl (Nat.le_of_ble_eq_true rfl) lb173 dX9_comes_99 (fun σ11 hσ11 => ?_)
  refine Rk.sp (G_iload_w (pc := 100) 6 rfl dX9_comes_100) ?_
  exact Rk.end_ (fun h => G_ireturn (pc := 102) rfl dX9_comes_102 (q_I h hv6_1 hσ11))
theorem k_Mo_saysNow {κ : Kx} {μ : Sg} (a1 : Int) (a2 : Int) (a3 : Int) (a4 : Int) (σ : Sg) (ha1 : inR a1) (ha2 : inR a2) (ha3 : inR a3) (ha4 : inR a4) (hok : okS σ) : CtI κ mX9_saysNow 2 [vr 172, vi a1, vi a2, vi a3, vi a4] true μ σ (Mo_saysNow a1 a2 a3 a4 σ) := by
  intro r τ h
  refine con_of (by decide) (Nat.le_of_ble_eq_true rfl) 1 ?_
  refine (?_ : Rk κ mX9_saysNow _ 0 [some (vr 172), some (vi a1), some (vi a2), some (vi a3), some (vi a4), none] [] (ms true μ σ) (Mo_saysNow a1 a2 a3 a4 σ) (fun a => a = (r, τ))) _ h rfl
  unfold Mo_saysNow
  refine Rk.sp (G_aload_n (pc := 0) 0 rfl rfl dX9_saysNow_0) ?_
  refine Rk.sp (G_iload_n (pc := 1) 1 rfl rfl dX9_saysNow_1) ?_
  refine Rk.sp (G_iload_n (pc := 2) 2 rfl rfl dX9_saysNow_2) ?_
  refine Rk.sp (G_iload_n (pc := 3) 3 rfl rfl dX9_saysNow_3) ?_
  refine Rk.sp (G_iload_w (pc := 4) 4 rfl dX9_saysNow_4) ?_
  refine Rk.sp (G_iconst (pc := 6) dX9_saysNow_6) ?_
  refine Rk.cI (pc := 7) (Cl.v [vi a1, vi a2, vi a3, vi a4, vi (-1)] [] dX9_saysNow_7 ckX9_338 lb172 rfl rfl rfl (Nat.le_of_ble_eq_true rfl) (Nat.le_of_ble_eq_true rfl)) (k_Mo_comes a1 a2 a3 a4 (-1) σ ha1 ha2 ha3 ha4 (inRk (-1) rfl) hok) (fun r1 σ2 hr1 hσ2 => ?_)
  refine Rk.isa_w (pc := 10) 5 (L' := [some (vr 172), some (vi a1), some (vi a2), some (vi a3), some (vi a4), some (vi r1)]) (Nat.le_of_ble_eq_true rfl) rfl dX9_saysNow_10 rfl ?_
  refine Rk.sp (G_aload_n (pc := 12) 0 rfl rfl dX9_saysNow_12) ?_
  refine Rk.sp (G_iconst (pc := 13) dX9_saysNow_13) ?_
  refine Rk.sp (G_iload_n (pc := 14) 1 rfl rfl dX9_saysNow_14) ?_
  refine Rk.sp (G_iload_w (pc := 15) 5 rfl dX9_saysNow_15) ?_
  refine Rk.cV (pc := 17) (Cl.v [vi 0, vi a1, vi r1] [] dX9_saysNow_17 ckX9_342 lb172 rfl rfl rfl (Nat.le_of_ble_eq_true rfl) (Nat.le_of_ble_eq_true rfl)) (k_Mo_notes 0 a1 r1 σ2 (inRk 0 rfl) ha1 hr1 hσ2) (fun σ3 hσ3 => ?_)
  refine Rk.sp (G_iload_w (pc := 20) 5 rfl dX9_saysNow_20) ?_
  exact Rk.end_ (fun h => G_ireturn (pc := 22) rfl dX9_saysNow_22 (q_I h hr1 hσ3))
theorem k_Mo_doesSaying {κ : Kx} {μ : Sg} (a1 : Int) (σ : Sg) (ha1 : inR a1) (hok : okS σ) : CtV κ mX9_doesSaying 4 [vr 172, vi a1] true μ σ (Mo_doesSaying a1 σ) := by
  intro τ h
  refine con_of (by decide) (Nat.le_of_ble_eq_true rfl) 0 ?_
  refine (?_ : Rk κ mX9_doesSaying _ 0 [some (vr 172), some (vi a1)] [] (ms true μ σ) (Mo_doesSaying a1 σ) (fun a => a = τ)) _ h rfl
  unfold Mo_doesSaying
  refine Rk.sp (G_aload_n (pc := 0) 0 rfl rfl dX9_doesSaying_0) ?_
  refine Rk.gR (pc := 1) 173 flX9_7 cl9 rfl lb172 dX9_doesSaying_1 ?_
  refine Rk.sp (G_iload_n (pc := 4) 1 rfl rfl dX9_doesSaying_4) ?_
  refine Rk.sp (G_iconst (pc := 5) dX9_doesSaying_5) ?_
  refine Rk.sp (G_iadd (pc := 6) dX9_doesSaying_6) ?_
  refine Rk.al (pc := 7) lb173 dX9_doesSaying_7 (fun hi1 => ?_)
  refine Rk.if_ne (pc := 8) (tgt := 26) dX9_doesSaying_8 (nmI (hok _ _)) rfl (fun hc2 => ?_) (fun hc2 => ?_)
  · refine Rk.sp (G_aload_n (pc := 11) 0 rfl rfl dX9_doesSaying_11) ?_
    refine Rk.sp (G_aload_n (pc := 12) 0 rfl rfl dX9_doesSaying_12) ?_
    refine Rk.gR (pc := 13) 173 flX9_7 cl9 rfl lb172 dX9_doesSaying_13 ?_
    refine Rk.sp (G_iload_n (pc := 16) 1 rfl rfl dX9_doesSaying_16) ?_
    refine Rk.sp (G_iconst (pc := 17) dX9_doesSaying_17) ?_
    refine Rk.sp (G_iadd (pc := 18) dX9_doesSaying_18) ?_
    refine Rk.al (pc := 19) lb173 dX9_doesSaying_19 (fun hi3 => ?_)
    refine Rk.cV (pc := 20) (Cl.v [vi (σ 173 ((a1 + 1)).toNat)] [] dX9_doesSaying_20 ckX9_361 lb172 rfl rfl rfl (Nat.le_of_ble_eq_true rfl) (Nat.le_of_ble_eq_true rfl)) (k_Mo_deletesLatest (σ 173 ((a1 + 1)).toNat) σ (hok _ _) hok) (fun σ4 hσ4 => ?_)
    refine Rk.sp (G_goto (pc := 23) (tgt := 74) dX9_doesSaying_23 rfl) ?_
    exact Rk.end_ (fun h => G_return (pc := 74) rfl dX9_doesSaying_74 (q_V h hσ4))
  · refine Rk.sp (G_aload_n (pc := 26) 0 rfl rfl dX9_doesSaying_26) ?_
    refine Rk.gR (pc := 27) 173 flX9_7 cl9 rfl lb172 dX9_doesSaying_27 ?_
    refine Rk.sp (G_iconst (pc := 30) dX9_doesSaying_30) ?_
    refine Rk.alc (pc := 31) 3 rfl (Nat.le_of_ble_eq_true rfl) lb173 dX9_doesSaying_31 ?_
    refine Rk.sp (G_bipush (pc := 32) dX9_doesSaying_32 rfl) ?_
    refine Rk.icmp_ge (pc := 34) (tgt := 74) dX9_doesSaying_34 (nmI (hok _ _)) (nmI (inRk 60 rfl)) rfl (fun hc5 => ?_) (fun hc5 => ?_)
    · refine Rk.sp (G_aload_n (pc := 37) 0 rfl rfl dX9_doesSaying_37) ?_
      refine Rk.sp (G_aload_n (pc := 38) 0 rfl rfl dX9_doesSaying_38) ?_
      refine Rk.gR (pc := 39) 173 flX9_7 cl9 rfl lb172 dX9_doesSaying_39 ?_
      refine Rk.sp (G_iload_n (pc := 42) 1 rfl rfl dX9_doesSaying_42) ?_
      refine Rk.sp (G_iconst (pc := 43) dX9_doesSaying_43) ?_
      refine Rk.sp (G_iadd (pc := 44) dX9_doesSaying_44) ?_
      refine Rk.al (pc := 45) lb173 dX9_doesSaying_45 (fun hi6 => ?_)
      refine Rk.sp (G_aload_n (pc := 46) 0 rfl rfl dX9_doesSaying_46) ?_
      refine Rk.gR (pc := 47) 173 flX9_7 cl9 rfl lb172 dX9_doesSaying_47 ?_
      refine Rk.sp (G_iload_n (pc := 50) 1 rfl rfl dX9_doesSaying_50) ?_
      refine Rk.sp (G_iconst (pc := 51) dX9_doesSaying_51) ?_
      refine Rk.sp (G_iadd (pc := 52) dX9_doesSaying_52) ?_
      refine Rk.al (pc := 53) lb173 dX9_doesSaying_53 (fun hi7 => ?_)
      refine Rk.sp (G_aload_n (pc := 54) 0 rfl rfl dX9_doesSaying_54) ?_
      refine Rk.gR (pc := 55) 173 flX9_7 cl9 rfl lb172 dX9_doesSaying_55 ?_
      refine Rk.sp (G_iload_n (pc := 58) 1 rfl rfl dX9_doesSaying_58) ?_
      refine Rk.sp (G_iconst (pc := 59) dX9_doesSaying_59) ?_
      refine Rk.sp (G_iadd (pc := 60) dX9_doesSaying_60) ?_
      refine Rk.al (pc := 61) lb173 dX9_doesSaying_61 (fun hi8 => ?_)
      refine Rk.sp (G_aload_n (pc := 62) 0 rfl rfl dX9_doesSaying_62) ?_
      refine Rk.gR (pc := 63) 173 flX9_7 cl9 rfl lb172 dX9_doesSaying_63 ?_
      refine Rk.sp (G_iload_n (pc := 66) 1 rfl rfl dX9_doesSaying_66) ?_
      refine Rk.sp (G_iconst (pc := 67) dX9_doesSaying_67) ?_
      refine Rk.sp (G_iadd (pc := 68) dX9_doesSaying_68) ?_
      refine Rk.al (pc := 69) lb173 dX9_doesSaying_69 (fun hi9 => ?_)
      refine Rk.cI (pc := 70) (Cl.v [vi (σ 173 ((a1 + 1)).toNat), vi (σ 173 ((a1 + 2)).toNat), vi (σ 173 ((a1 + 3)).toNat), vi (σ 173 ((a1 + 4)).toNat)] [] dX9_doesSaying_70 ckX9_348 lb172 rfl rfl rfl (Nat.le_of_ble_eq_true rfl) (Nat.le_of_ble_eq_true rfl)) (k_Mo_saysNow (σ 173 ((a1 + 1)).toNat) (σ 173 ((a1 + 2)).toNat) (σ 173 ((a1 + 3)).toNat) (σ 173 ((a1 + 4)).toNat) σ (hok _ _) (hok _ _) (hok _ _) (hok _ _) hok) (fun r10 σ11 hr10 hσ11 => ?_)
      refine Rk.sp (G_pop (pc := 73) dX9_doesSaying_73 (fun _ h => by cases h)) ?_
      exact Rk.end_ (fun h => G_return (pc := 74) rfl dX9_doesSaying_74 (q_V h hσ11))
    · exact Rk.end_ (fun h => G_return (pc := 74) rfl dX9_doesSaying_74 (q_V h hok))
theorem k_Mo_goesTo {κ : Kx} {μ : Sg} (a1 : Int) (σ : Sg) (ha1 : inR a1) (hok : okS σ) : CtRI κ mX9_goesTo 1 [vr 172, vi a1] true μ σ (Mo_goesTo a1 σ) := by
  intro r h
  refine con_of (by decide) (Nat.le_of_ble_eq_true rfl) 0 ?_
  refine (?_ : Rk κ mX9_goesTo _ 0 [some (vr 172), some (vi a1)] [] (ms true μ σ) (Mo_goesTo a1 σ) (fun a => a = r)) _ h rfl
  unfold Mo_goesTo
  refine Rk.sp (G_iconst (pc := 0) dX9_goesTo_0) ?_
  refine Rk.sp (G_aload_n (pc := 1) 0 rfl rfl dX9_goesTo_1) ?_
  refine Rk.sp (G_iload_n (pc := 2) 1 rfl rfl dX9_goesTo_2) ?_
  refine Rk.sp (G_iconst (pc := 3) dX9_goesTo_3) ?_
  refine Rk.cRI (pc := 4) (Cl.v [vi a1, vi 0] [vi 1] dX9_goesTo_4 ckX9_76 lb172 rfl rfl rfl (Nat.le_of_ble_eq_true rfl) (Nat.le_of_ble_eq_true rfl)) (k_Mo_of0 a1 0 σ ha1 (inRk 0 rfl) hok) (fun r1 hr1 => ?_)
  refine Rk.sp (G_isub (pc := 7) dX9_goesTo_7) ?_
  refine Rk.sp (Go.n0 (nmW _)) ?_
  exact Rk.end_ (fun h => G_ireturn (pc := 8) rfl dX9_goesTo_8 (q_RI h (wrR _)))
theorem k_Mo_hourNow {κ : Kx} {μ : Sg} (σ : Sg) (hok : okS σ) : CtRI κ mX9_hourNow 0 [vr 172] true μ σ (Mo_hourNow σ) := by
  intro r h
  refine con_of (by decide) (Nat.le_of_ble_eq_true rfl) 0 ?_
  refine (?_ : Rk κ mX9_hourNow _ 0 [some (vr 172)] [] (ms true μ σ) (Mo_hourNow σ) (fun a => a = r)) _ h rfl
  unfold Mo_hourNow
  refine Rk.sp (G_aload_n (pc := 0) 0 rfl rfl dX9_hourNow_0) ?_
  refine Rk.gR (pc := 1) 173 flX9_7 cl9 rfl lb172 dX9_hourNow_1 ?_
  refine Rk.sp (G_iconst (pc := 4) dX9_hourNow_4) ?_
  refine Rk.alc (pc := 5) 0 rfl (Nat.le_of_ble_eq_true rfl) lb173 dX9_hourNow_5 ?_
  refine Rk.sp (G_bipush (pc := 6) dX9_hourNow_6 rfl) ?_
  refine Rk.sp (G_idiv (pc := 8) dX9_hourNow_8 (nmI (hok _ _)) (nmI (inRk 60 rfl)) (by decide)) ?_
  refine Rk.sp (G_bipush (pc := 9) dX9_hourNow_9 rfl) ?_
  refine Rk.sp (G_irem (pc := 11) dX9_hourNow_11 (nmI (tdivR (hok _ _) (by decide))) (nmI (inRk 24 rfl)) (by decide)) ?_
  exact Rk.end_ (fun h => G_ireturn (pc := 12) rfl dX9_hourNow_12 (q_RI h (tmodR (tdivR (hok _ _) (by decide)))))
theorem k_Mo_isIn0 {κ : Kx} {μ : Sg} (a1 : Int) (a2 : Int) (σ : Sg) (ha1 : inR a1) (ha2 : inR a2) (hok : okS σ) : CtRI κ mX9_isIn0 0 [vr 172, vi a1, vi a2] true μ σ (Mo_isIn0 a1 a2 σ) := by
  intro r h
  refine con_of (by decide) (Nat.le_of_ble_eq_true rfl) 2 ?_
  refine (?_ : Rk κ mX9_isIn0 _ 0 [some (vr 172), some (vi a1), some (vi a2), none, none] [] (ms true μ σ) (Mo_isIn0 a1 a2 σ) (fun a => a = r)) _ h rfl
  unfold Mo_isIn0
  refine Rk.sp (G_iconst (pc := 0) dX9_isIn0_0) ?_
  refine Rk.isa_n (pc := 1) 3 (L' := [some (vr 172), some (vi a1), some (vi a2), some (vi 0), none]) rfl (Nat.le_of_ble_eq_true rfl) rfl dX9_isIn0_1 rfl ?_
  refine Rk.loop (pc := 2) (B := (fun p => Mo_isIn0_2_b σ a1 a2 p)) (fun p => inR p) (fun p => [some (vr 172), some (vi a1), some (vi a2), some (vi p), none]) (fun p => (ms true μ σ)) (fun p hp => ?_) 0 (inRk 0 rfl)
  revert hp; revert p; intro v3_1 hv3_1
  try dsimp only
  unfold Mo_isIn0_2_b
  refine Rk.sp (G_iload_n (pc := 2) 3 rfl rfl dX9_isIn0_2) ?_
  refine Rk.sp (G_aload_n (pc := 3) 0 rfl rfl dX9_isIn0_3) ?_
  refine Rk.gR (pc := 4) 173 flX9_7 cl9 rfl lb172 dX9_isIn0_4 ?_
  refine Rk.sp (G_sipush (pc := 7) dX9_isIn0_7 rfl) ?_
  refine Rk.alc (pc := 10) 551 rfl (Nat.le_of_ble_eq_true rfl) lb173 dX9_isIn0_10 ?_
  refine Rk.icmp_ge (pc := 11) (tgt := 79) dX9_isIn0_11 (nmI hv3_1) (nmI (hok _ _)) rfl (fun hc2 => ?_) (fun hc2 => ?_)
  · refine Rk.sp (G_sipush (pc := 14) dX9_isIn0_14 rfl) ?_
    refine Rk.sp (G_iconst (pc := 17) dX9_isIn0_17) ?_
    refine Rk.sp (G_iload_n (pc := 18) 3 rfl rfl dX9_isIn0_18) ?_
    refine Rk.sp (G_imul (pc := 19) dX9_isIn0_19) ?_
    refine Rk.sp (G_iadd (pc := 20) dX9_isIn0_20) ?_
    refine Rk.ist_w (pc := 21) 4 (fun v4_3 => [some (vr 172), some (vi a1), some (vi a2), some (vi v3_1), some (vi v4_3)]) (Nat.le_of_ble_eq_true rfl) rfl dX9_isIn0_21 (nmW _) (fun _ => rfl) (fun v4_3 hv4_3 => ?_)
    refine Rk.sp (G_aload_n (pc := 23) 0 rfl rfl dX9_isIn0_23) ?_
    refine Rk.gR (pc := 24) 173 flX9_7 cl9 rfl lb172 dX9_isIn0_24 ?_
    refine Rk.sp (G_iload_w (pc := 27) 4 rfl dX9_isIn0_27) ?_
    refine Rk.al (pc := 29) lb173 dX9_isIn0_29 (fun hi4 => ?_)
    refine Rk.sp (G_iload_n (pc := 30) 1 rfl rfl dX9_isIn0_30) ?_
    refine Rk.icmp_ne (pc := 31) (tgt := 73) dX9_isIn0_31 (nmI (hok _ _)) (nmI ha1) rfl (fun hc5 => ?_) (fun hc5 => ?_)
    · refine Rk.sp (G_iload_n (pc := 34) 2 rfl rfl dX9_isIn0_34) ?_
      refine Rk.sp (G_aload_n (pc := 35) 0 rfl rfl dX9_isIn0_35) ?_
      refine Rk.gR (pc := 36) 173 flX9_7 cl9 rfl lb172 dX9_isIn0_36 ?_
      refine Rk.sp (G_iload_w (pc := 39) 4 rfl dX9_isIn0_39) ?_
      refine Rk.sp (G_iconst (pc := 41) dX9_isIn0_41) ?_
      refine Rk.sp (G_iadd (pc := 42) dX9_isIn0_42) ?_
      refine Rk.al (pc := 43) lb173 dX9_isIn0_43 (fun hi6 => ?_)
      refine Rk.sp (G_isub (pc := 44) dX9_isIn0_44) ?_
      refine Rk.sp (G_bipush (pc := 45) dX9_isIn0_45 rfl) ?_
      refine Rk.sp (G_iadd (pc := 47) dX9_isIn0_47) ?_
      refine Rk.sp (G_bipush (pc := 48) dX9_isIn0_48 rfl) ?_
      refine Rk.sp (G_irem (pc := 50) dX9_isIn0_50 (nmW _) (nmI (inRk 24 rfl)) (by decide)) ?_
      refine Rk.sp (G_aload_n (pc := 51) 0 rfl rfl dX9_isIn0_51) ?_
      refine Rk.gR (pc := 52) 173 flX9_7 cl9 rfl lb172 dX9_isIn0_52 ?_
      refine Rk.sp (G_iload_w (pc := 55) 4 rfl dX9_isIn0_55) ?_
      refine Rk.sp (G_iconst (pc := 57) dX9_isIn0_57) ?_
      refine Rk.sp (G_iadd (pc := 58) dX9_isIn0_58) ?_
      refine Rk.al (pc := 59) lb173 dX9_isIn0_59 (fun hi7 => ?_)
      refine Rk.icmp_ge (pc := 60) (tgt := 73) dX9_isIn0_60 (nmI (tmodR (wrR _))) (nmI (hok _ _)) rfl (fun hc8 => ?_) (fun hc8 => ?_)
      · refine Rk.sp (G_aload_n (pc := 63) 0 rfl rfl dX9_isIn0_63) ?_
        refine Rk.gR (pc := 64) 173 flX9_7 cl9 rfl lb172 dX9_isIn0_64 ?_
        refine Rk.sp (G_iload_w (pc := 67) 4 rfl dX9_isIn0_67) ?_
        refine Rk.sp (G_iconst (pc := 69) dX9_isIn0_69) ?_
        refine Rk.sp (G_iadd (pc := 70) dX9_isIn0_70) ?_
        refine Rk.al (pc := 71) lb173 dX9_isIn0_71 (fun hi9 => ?_)
        exact Rk.end_ (fun h => G_ireturn (pc := 72) rfl dX9_isIn0_72 (q_RI h (hok _ _)))
      · refine Rk.inc (pc := 73) 3 (fun v3_10 => [some (vr 172), some (vi a1), some (vi a2), some (vi v3_10), some (vi v4_3)]) rfl (Nat.le_of_ble_eq_true rfl) rfl dX9_isIn0_73 (fun _ => rfl) (fun v3_10 hv3_10 => ?_)
        refine Rk.sp (G_goto (pc := 76) (tgt := 2) dX9_isIn0_76 rfl) ?_
        refine Rk.fg [true, true, true, true, false] (L' := [some (vr 172), some (vi a1), some (vi a2), some (vi v3_10), none]) rfl ?_
        exact Rk.end_ (fun h => h hv3_10)
    · refine Rk.inc (pc := 73) 3 (fun v3_11 => [some (vr 172), some (vi a1), some (vi a2), some (vi v3_11), some (vi v4_3)]) rfl (Nat.le_of_ble_eq_true rfl) rfl dX9_isIn0_73 (fun _ => rfl) (fun v3_11 hv3_11 => ?_)
      refine Rk.sp (G_goto (pc := 76) (tgt := 2) dX9_isIn0_76 rfl) ?_
      refine Rk.fg [true, true, true, true, false] (L' := [some (vr 172), some (vi a1), some (vi a2), some (vi v3_11), none]) rfl ?_
      exact Rk.end_ (fun h => h hv3_11)
  · refine Rk.sp (G_iconst (pc := 79) dX9_isIn0_79) ?_
    exact Rk.end_ (fun h => G_ireturn (pc := 80) rfl dX9_isIn0_80 (q_RI h (inRk 0 rfl)))
theorem k_Mo_canRead {κ : Kx} {μ : Sg} (a1 : Int) (a2 : Int) (σ : Sg) (ha1 : inR a1) (ha2 : inR a2) (hok : okS σ) : CtRZ κ mX9_canRead 1 [vr 172, vi a1, vi a2] true μ σ (Mo_canRead a1 a2 σ) := by
  intro r h
  refine con_of (by decide) (Nat.le_of_ble_eq_true rfl) 0 ?_
  refine (?_ : Rk κ mX9_canRead _ 0 [some (vr 172), some (vi a1), some (vi a2)] [] (ms true μ σ) (Mo_canRead a1 a2 σ) (fun a => a = r)) _ h rfl
  unfold Mo_canRead
  refine Rk.sp (G_aload_n (pc := 0) 0 rfl rfl dX9_canRead_0) ?_
  refine Rk.sp (G_iload_n (pc := 1) 1 rfl rfl dX9_canRead_1) ?_
  refine Rk.sp (G_iload_n (pc := 2) 2 rfl rfl dX9_canRead_2) ?_
  refine Rk.cRI (pc := 3) (Cl.v [vi a1, vi a2] [] dX9_canRead_3 ckX9_314 lb172 rfl rfl rfl (Nat.le_of_ble_eq_true rfl) (Nat.le_of_ble_eq_true rfl)) (k_Mo_isIn0 a1 a2 σ ha1 ha2 hok) (fun r1 hr1 => ?_)
  refine Rk.sp (G_iconst (pc := 6) dX9_canRead_6) ?_
  refine Rk.icmp_ge (pc := 7) (tgt := 14) dX9_canRead_7 (nmI hr1) (nmI (inRk 2 rfl)) rfl (fun hc2 => ?_) (fun hc2 => ?_)
  · refine Rk.sp (G_iconst (pc := 10) dX9_canRead_10) ?_
    refine Rk.sp (G_goto (pc := 11) (tgt := 15) dX9_canRead_11 rfl) ?_
    exact Rk.end_ (fun h => G_zreturn (pc := 15) rfl (nz inZ1) dX9_canRead_15 (q_RZ h inZ1))
  · refine Rk.sp (G_iconst (pc := 14) dX9_canRead_14) ?_
    exact Rk.end_ (fun h => G_zreturn (pc := 15) rfl (nz inZ0) dX9_canRead_15 (q_RZ h inZ0))
theorem k_Mo_lays {κ : Kx} {μ : Sg} (a1 : Int) (a2 : Int) (a3 : Int) (a4 : Int) (σ : Sg) (ha1 : inR a1) (ha2 : inR a2) (ha3 : inR a3) (ha4 : inR a4) (hok : okS σ) : CtV κ mX9_lays 1 [vr 172, vi a1, vi a2, vi a3, vi a4] true μ σ (Mo_lays a1 a2 a3 a4 σ) := by
  intro τ h
  refine con_of (by decide) (Nat.le_of_ble_eq_true rfl) 0 ?_
  refine (?_ : Rk κ mX9_lays _ 0 [some (vr 172), some (vi a1), some (vi a2), some (vi a3), some (vi a4)] [] (ms true μ σ) (Mo_lays a1 a2 a3 a4 σ) (fun a => a = τ)) _ h rfl
  unfold Mo_lays
  refine Rk.sp (G_aload_n (pc := 0) 0 rfl rfl dX9_lays_0) ?_
  refine Rk.gR (pc := 1) 182 flX9_37 cl9 rfl lb172 dX9_lays_1 ?_
  refine Rk.sp (G_iconst (pc := 4) dX9_lays_4) ?_
  refine Rk.sp (G_iload_n (pc := 5) 1 rfl rfl dX9_lays_5) ?_
  refine Rk.asc (pc := 6) hok (nmI ha1) 1 rfl (Nat.le_of_ble_eq_true rfl) lb182 dX9_lays_6 (fun σ1 hσ1 => ?_)
  refine Rk.sp (G_aload_n (pc := 7) 0 rfl rfl dX9_lays_7) ?_
  refine Rk.gR (pc := 8) 182 flX9_37 cl9 rfl lb172 dX9_lays_8 ?_
  refine Rk.sp (G_iconst (pc := 11) dX9_lays_11) ?_
  refine Rk.sp (G_aload_n (pc := 12) 0 rfl rfl dX9_lays_12) ?_
  refine Rk.gR (pc := 13) 173 flX9_7 cl9 rfl lb172 dX9_lays_13 ?_
  refine Rk.sp (G_iconst (pc := 16) dX9_lays_16) ?_
  refine Rk.sp (G_iload_n (pc := 17) 1 rfl rfl dX9_lays_17) ?_
  refine Rk.sp (G_iadd (pc := 18) dX9_lays_18) ?_
  refine Rk.al (pc := 19) lb173 dX9_lays_19 (fun hi2 => ?_)
  refine Rk.asc (pc := 20) hσ1 (nmI (hσ1 _ _)) 2 rfl (Nat.le_of_ble_eq_true rfl) lb182 dX9_lays_20 (fun σ3 hσ3 => ?_)
  refine Rk.sp (G_aload_n (pc := 21) 0 rfl rfl dX9_lays_21) ?_
  refine Rk.gR (pc := 22) 182 flX9_37 cl9 rfl lb172 dX9_lays_22 ?_
  refine Rk.sp (G_iconst (pc := 25) dX9_lays_25) ?_
  refine Rk.sp (G_aload_n (pc := 26) 0 rfl rfl dX9_lays_26) ?_
  refine Rk.gR (pc := 27) 173 flX9_7 cl9 rfl lb172 dX9_lays_27 ?_
  refine Rk.sp (G_bipush (pc := 30) dX9_lays_30 rfl) ?_
  refine Rk.sp (G_iload_n (pc := 32) 1 rfl rfl dX9_lays_32) ?_
  refine Rk.sp (G_iadd (pc := 33) dX9_lays_33) ?_
  refine Rk.al (pc := 34) lb173 dX9_lays_34 (fun hi4 => ?_)
  refine Rk.asc (pc := 35) hσ3 (nmI (hσ3 _ _)) 3 rfl (Nat.le_of_ble_eq_true rfl) lb182 dX9_lays_35 (fun σ5 hσ5 => ?_)
  refine Rk.sp (G_aload_n (pc := 36) 0 rfl rfl dX9_lays_36) ?_
  refine Rk.gR (pc := 37) 182 flX9_37 cl9 rfl lb172 dX9_lays_37 ?_
  refine Rk.sp (G_iconst (pc := 40) dX9_lays_40) ?_
  refine Rk.sp (G_iload_n (pc := 41) 2 rfl rfl dX9_lays_41) ?_
  refine Rk.asc (pc := 42) hσ5 (nmI ha2) 4 rfl (Nat.le_of_ble_eq_true rfl) lb182 dX9_lays_42 (fun σ6 hσ6 => ?_)
  refine Rk.sp (G_aload_n (pc := 43) 0 rfl rfl dX9_lays_43) ?_
  refine Rk.gR (pc := 44) 182 flX9_37 cl9 rfl lb172 dX9_lays_44 ?_
  refine Rk.sp (G_iconst (pc := 47) dX9_lays_47) ?_
  refine Rk.sp (G_iload_n (pc := 48) 3 rfl rfl dX9_lays_48) ?_
  refine Rk.asc (pc := 49) hσ6 (nmI ha3) 5 rfl (Nat.le_of_ble_eq_true rfl) lb182 dX9_lays_49 (fun σ7 hσ7 => ?_)
  refine Rk.sp (G_aload_n (pc := 50) 0 rfl rfl dX9_lays_50) ?_
  refine Rk.gR (pc := 51) 182 flX9_37 cl9 rfl lb172 dX9_lays_51 ?_
  refine Rk.sp (G_bipush (pc := 54) dX9_lays_54 rfl) ?_
  refine Rk.sp (G_iload_w (pc := 56) 4 rfl dX9_lays_56) ?_
  refine Rk.asc (pc := 58) hσ7 (nmI ha4) 6 rfl (Nat.le_of_ble_eq_true rfl) lb182 dX9_lays_58 (fun σ8 hσ8 => ?_)
  refine Rk.sp (G_aload_n (pc := 59) 0 rfl rfl dX9_lays_59) ?_
  refine Rk.gR (pc := 60) 182 flX9_37 cl9 rfl lb172 dX9_lays_60 ?_
  refine Rk.sp (G_bipush (pc := 63) dX9_lays_63 rfl) ?_
  refine Rk.sp (G_aload_n (pc := 65) 0 rfl rfl dX9_lays_65) ?_
  refine Rk.sp (G_iload_n (pc := 66) 1 rfl rfl dX9_lays_66) ?_
  refine Rk.sp (G_aload_n (pc := 67) 0 rfl rfl dX9_lays_67) ?_
  refine Rk.cRI (pc := 68) (Cl.v [] [vi a1, vr 172, vi 7, vr 182] dX9_lays_68 ckX9_317 lb172 rfl rfl rfl (Nat.le_of_ble_eq_true rfl) (Nat.le_of_ble_eq_true rfl)) (k_Mo_hourNow σ8 hσ8) (fun r9 hr9 => ?_)
  refine Rk.cRI (pc := 71) (Cl.v [vi a1, vi r9] [vi 7, vr 182] dX9_lays_71 ckX9_314 lb172 rfl rfl rfl (Nat.le_of_ble_eq_true rfl) (Nat.le_of_ble_eq_true rfl)) (k_Mo_isIn0 a1 r9 σ8 ha1 hr9 hσ8) (fun r10 hr10 => ?_)
  refine Rk.sp (G_iconst (pc := 74) dX9_lays_74) ?_
  refine Rk.join (P := fun p => inR p) (pcj := 83) (fun p => [some (vr 172), some (vi a1), none, none, none]) (fun p => [vi p, vi 7, vr 182]) (fun p => (ms true μ σ8)) ?_ (fun p hp => ?_)
  · refine Rk.icmp_ne (pc := 75) (tgt := 82) dX9_lays_75 (nmI hr10) (nmI (inRk 1 rfl)) rfl (fun hc11 => ?_) (fun hc11 => ?_)
    · refine Rk.sp (G_iconst (pc := 78) dX9_lays_78) ?_
      refine Rk.sp (G_goto (pc := 79) (tgt := 83) dX9_lays_79 rfl) ?_
      refine Rk.fg [true, true, false, false, false] (L' := [some (vr 172), some (vi a1), none, none, none]) rfl ?_
      exact Rk.end_ (fun h => h (inRk 1 rfl))
    · refine Rk.sp (G_iconst (pc := 82) dX9_lays_82) ?_
      refine Rk.fg [true, true, false, false, false] (L' := [some (vr 172), some (vi a1), none, none, none]) rfl ?_
      exact Rk.end_ (fun h => h (inRk 0 rfl))
  · revert hp; revert p; intro t12 ht12
    try dsimp only
    refine Rk.asc (pc := 83) hσ8 (nmI ht12) 7 rfl (Nat.le_of_ble_eq_true rfl) lb182 dX9_lays_83 (fun σ13 hσ13 => ?_)
    refine Rk.sp (G_aload_n (pc := 84) 0 rfl rfl dX9_lays_84) ?_
    refine Rk.gR (pc := 85) 182 flX9_37 cl9 rfl lb172 dX9_lays_85 ?_
    refine Rk.sp (G_bipush (pc := 88) dX9_lays_88 rfl) ?_
    refine Rk.sp (G_aload_n (pc := 90) 0 rfl rfl dX9_lays_90) ?_
    refine Rk.cRI (pc := 91) (Cl.v [] [vi 8, vr 182] dX9_lays_91 ckX9_317 lb172 rfl rfl rfl (Nat.le_of_ble_eq_true rfl) (Nat.le_of_ble_eq_true rfl)) (k_Mo_hourNow σ13 hσ13) (fun r14 hr14 => ?_)
    refine Rk.asc (pc := 94) hσ13 (nmI hr14) 8 rfl (Nat.le_of_ble_eq_true rfl) lb182 dX9_lays_94 (fun σ15 hσ15 => ?_)
    refine Rk.sp (G_aload_n (pc := 95) 0 rfl rfl dX9_lays_95) ?_
    refine Rk.gR (pc := 96) 182 flX9_37 cl9 rfl lb172 dX9_lays_96 ?_
    refine Rk.sp (G_bipush (pc := 99) dX9_lays_99 rfl) ?_
    refine Rk.sp (G_aload_n (pc := 101) 0 rfl rfl dX9_lays_101) ?_
    refine Rk.gR (pc := 102) 173 flX9_7 cl9 rfl lb172 dX9_lays_102 ?_
    refine Rk.sp (G_sipush (pc := 105) dX9_lays_105 rfl) ?_
    refine Rk.sp (G_iload_n (pc := 108) 1 rfl rfl dX9_lays_108) ?_
    refine Rk.sp (G_isub (pc := 109) dX9_lays_109) ?_
    refine Rk.al (pc := 110) lb173 dX9_lays_110 (fun hi16 => ?_)
    refine Rk.asc (pc := 111) hσ15 (nmI (hσ15 _ _)) 9 rfl (Nat.le_of_ble_eq_true rfl) lb182 dX9_lays_111 (fun σ17 hσ17 => ?_)
    refine Rk.sp (G_aload_n (pc := 112) 0 rfl rfl dX9_lays_112) ?_
    refine Rk.gR (pc := 113) 182 flX9_37 cl9 rfl lb172 dX9_lays_113 ?_
    refine Rk.sp (G_bipush (pc := 116) dX9_lays_116 rfl) ?_
    refine Rk.sp (G_aload_n (pc := 118) 0 rfl rfl dX9_lays_118) ?_
    refine Rk.gR (pc := 119) 173 flX9_7 cl9 rfl lb172 dX9_lays_119 ?_
    refine Rk.sp (G_iconst (pc := 122) dX9_lays_122) ?_
    refine Rk.alc (pc := 123) 3 rfl (Nat.le_of_ble_eq_true rfl) lb173 dX9_lays_123 ?_
    refine Rk.asc (pc := 124) hσ17 (nmI (hσ17 _ _)) 10 rfl (Nat.le_of_ble_eq_true rfl) lb182 dX9_lays_124 (fun σ18 hσ18 => ?_)
    exact Rk.end_ (fun h => G_return (pc := 125) rfl dX9_lays_125 (q_V h hσ18))
theorem k_Mo_laysMessage {κ : Kx} {μ : Sg} (a1 : Int) (σ : Sg) (ha1 : inR a1) (hok : okS σ) : CtV κ mX9_laysMessage 2 [vr 172, vi a1] true μ σ (Mo_laysMessage a1 σ) := by
  intro τ h
  refine con_of (by decide) (Nat.le_of_ble_eq_true rfl) 0 ?_
  refine (?_ : Rk κ mX9_laysMessage _ 0 [some (vr 172), some (vi a1)] [] (ms true μ σ) (Mo_laysMessage a1 σ) (fun a => a = τ)) _ h rfl
  unfold Mo_laysMessage
  refine Rk.sp (G_aload_n (pc := 0) 0 rfl rfl dX9_laysMessage_0) ?_
  refine Rk.sp (G_aload_n (pc := 1) 0 rfl rfl dX9_laysMessage_1) ?_
  refine Rk.sp (G_iload_n (pc := 2) 1 rfl rfl dX9_laysMessage_2) ?_
  refine Rk.cRI (pc := 3) (Cl.v [vi a1] [vr 172] dX9_laysMessage_3 ckX9_320 lb172 rfl rfl rfl (Nat.le_of_ble_eq_true rfl) (Nat.le_of_ble_eq_true rfl)) (k_Mo_goesTo a1 σ ha1 hok) (fun r1 hr1 => ?_)
  refine Rk.sp (G_aload_n (pc := 6) 0 rfl rfl dX9_laysMessage_6) ?_
  refine Rk.sp (G_iload_n (pc := 7) 1 rfl rfl dX9_laysMessage_7) ?_
  refine Rk.sp (G_iconst (pc := 8) dX9_laysMessage_8) ?_
  refine Rk.cRI (pc := 9) (Cl.v [vi a1, vi 3] [vi r1, vr 172] dX9_laysMessage_9 ckX9_76 lb172 rfl rfl rfl (Nat.le_of_ble_eq_true rfl) (Nat.le_of_ble_eq_true rfl)) (k_Mo_of0 a1 3 σ ha1 (inRk 3 rfl) hok) (fun r2 hr2 => ?_)
  refine Rk.sp (G_aload_n (pc := 12) 0 rfl rfl dX9_laysMessage_12) ?_
  refine Rk.sp (G_iload_n (pc := 13) 1 rfl rfl dX9_laysMessage_13) ?_
  refine Rk.sp (G_iconst (pc := 14) dX9_laysMessage_14) ?_
  refine Rk.cRI (pc := 15) (Cl.v [vi a1, vi 4] [vi r2, vi r1, vr 172] dX9_laysMessage_15 ckX9_76 lb172 rfl rfl rfl (Nat.le_of_ble_eq_true rfl) (Nat.le_of_ble_eq_true rfl)) (k_Mo_of0 a1 4 σ ha1 (inRk 4 rfl) hok) (fun r3 hr3 => ?_)
  refine Rk.sp (G_aload_n (pc := 18) 0 rfl rfl dX9_laysMessage_18) ?_
  refine Rk.sp (G_iload_n (pc := 19) 1 rfl rfl dX9_laysMessage_19) ?_
  refine Rk.sp (G_iconst (pc := 20) dX9_laysMessage_20) ?_
  refine Rk.cRI (pc := 21) (Cl.v [vi a1, vi 5] [vi r3, vi r2, vi r1, vr 172] dX9_laysMessage_21 ckX9_76 lb172 rfl rfl rfl (Nat.le_of_ble_eq_true rfl) (Nat.le_of_ble_eq_true rfl)) (k_Mo_of0 a1 5 σ ha1 (inRk 5 rfl) hok) (fun r4 hr4 => ?_)
  refine Rk.cV (pc := 24) (Cl.v [vi r1, vi r2, vi r3, vi r4] [] dX9_laysMessage_24 ckX9_323 lb172 rfl rfl rfl (Nat.le_of_ble_eq_true rfl) (Nat.le_of_ble_eq_true rfl)) (k_Mo_lays r1 r2 r3 r4 σ hr1 hr2 hr3 hr4 hok) (fun σ5 hσ5 => ?_)
  exact Rk.end_ (fun h => G_return (pc := 27) rfl dX9_laysMessage_27 (q_V h hσ5))
theorem k_Mo_both {κ : Kx} {b : Bool} {μ σ : Sg} (a1 : Int) (a2 : Int) (a3 : Int) (ha1 : inR a1) (ha2 : inR a2) (ha3 : inR a3) : CtRI κ mX9_both 0 [vi a1, vi a2, vi a3] b μ σ (Mo_both a1 a2 a3) := by
  intro r h
  refine con_of (by decide) (Nat.le_of_ble_eq_true rfl) 0 ?_
  refine (?_ : Rk κ mX9_both _ 0 [some (vi a1), some (vi a2), some (vi a3)] [] (ms b μ σ) (Mo_both a1 a2 a3) (fun a => a = r)) _ h rfl
  unfold Mo_both
  refine Rk.sp (G_iload_n (pc := 0) 0 rfl rfl dX9_both_0) ?_
  refine Rk.ite (fun hc1 => ?_) (fun hc1 => ?_)
  · refine Rk.tblI (pc := 1) (tgt := 52) 23 hc1 dX9_both_1 (nmI ha1) (by decide) (by decide) rfl rfl ?_
    refine Rk.sp (G_iload_n (pc := 52) 1 rfl rfl dX9_both_52) ?_
    refine Rk.sp (G_iload_n (pc := 53) 2 rfl rfl dX9_both_53) ?_
    refine Rk.sp (G_iadd (pc := 54) dX9_both_54) ?_
    refine Rk.sp (Go.n0 (nmW _)) ?_
    exact Rk.end_ (fun h => G_ireturn (pc := 55) rfl dX9_both_55 (q_RI h (wrR _)))
  · refine Rk.ite (fun hc2 => ?_) (fun hc2 => ?_)
    · refine Rk.tblI (pc := 1) (tgt := 56) 24 hc2 dX9_both_1 (nmI ha1) (by decide) (by decide) rfl rfl ?_
      refine Rk.sp (G_iload_n (pc := 56) 1 rfl rfl dX9_both_56) ?_
      refine Rk.sp (G_iload_n (pc := 57) 2 rfl rfl dX9_both_57) ?_
      refine Rk.sp (G_isub (pc := 58) dX9_both_58) ?_
      refine Rk.sp (Go.n0 (nmW _)) ?_
      exact Rk.end_ (fun h => G_ireturn (pc := 59) rfl dX9_both_59 (q_RI h (wrR _)))
    · refine Rk.ite (fun hc3 => ?_) (fun hc3 => ?_)
      · refine Rk.tblI (pc := 1) (tgt := 60) 25 hc3 dX9_both_1 (nmI ha1) (by decide) (by decide) rfl rfl ?_
        refine Rk.sp (G_iload_n (pc := 60) 1 rfl rfl dX9_both_60) ?_
        refine Rk.sp (G_iload_n (pc := 61) 2 rfl rfl dX9_both_61) ?_
        refine Rk.sp (G_imul (pc := 62) dX9_both_62) ?_
        refine Rk.sp (Go.n0 (nmW _)) ?_
        exact Rk.end_ (fun h => G_ireturn (pc := 63) rfl dX9_both_63 (q_RI h (wrR _)))
      · refine Rk.ite (fun hc4 => ?_) (fun hc4 => ?_)
        · refine Rk.tblI (pc := 1) (tgt := 101) 26 hc4 dX9_both_1 (nmI ha1) (by decide) (by decide) rfl rfl ?_
          refine Rk.sp (G_iload_n (pc := 101) 1 rfl rfl dX9_both_101) ?_
          refine Rk.sp (G_iload_n (pc := 102) 2 rfl rfl dX9_both_102) ?_
          refine Rk.sp (G_ior (pc := 103) dX9_both_103) ?_
          exact Rk.end_ (fun h => G_ireturn (pc := 104) rfl dX9_both_104 (q_RI h (bOr_R _ _)))
        · refine Rk.ite (fun hc5 => ?_) (fun hc5 => ?_)
          · refine Rk.tblI (pc := 1) (tgt := 64) 27 hc5 dX9_both_1 (nmI ha1) (by decide) (by decide) rfl rfl ?_
            refine Rk.sp (G_iload_n (pc := 64) 1 rfl rfl dX9_both_64) ?_
            refine Rk.sp (G_iload_n (pc := 65) 2 rfl rfl dX9_both_65) ?_
            refine Rk.icmp_ge (pc := 66) (tgt := 73) dX9_both_66 (nmI ha2) (nmI ha3) rfl (fun hc6 => ?_) (fun hc6 => ?_)
            · refine Rk.sp (G_iconst (pc := 69) dX9_both_69) ?_
              refine Rk.sp (G_goto (pc := 70) (tgt := 74) dX9_both_70 rfl) ?_
              exact Rk.end_ (fun h => G_ireturn (pc := 74) rfl dX9_both_74 (q_RI h (inRk 1 rfl)))
            · refine Rk.sp (G_iconst (pc := 73) dX9_both_73) ?_
              exact Rk.end_ (fun h => G_ireturn (pc := 74) rfl dX9_both_74 (q_RI h (inRk 0 rfl)))
          · refine Rk.ite (fun hc7 => ?_) (fun hc7 => ?_)
            · refine Rk.tblI (pc := 1) (tgt := 75) 28 hc7 dX9_both_1 (nmI ha1) (by decide) (by decide) rfl rfl ?_
              refine Rk.sp (G_iload_n (pc := 75) 1 rfl rfl dX9_both_75) ?_
              refine Rk.sp (G_iload_n (pc := 76) 2 rfl rfl dX9_both_76) ?_
              refine Rk.icmp_ne (pc := 77) (tgt := 84) dX9_both_77 (nmI ha2) (nmI ha3) rfl (fun hc8 => ?_) (fun hc8 => ?_)
              · refine Rk.sp (G_iconst (pc := 80) dX9_both_80) ?_
                refine Rk.sp (G_goto (pc := 81) (tgt := 85) dX9_both_81 rfl) ?_
                exact Rk.end_ (fun h => G_ireturn (pc := 85) rfl dX9_both_85 (q_RI h (inRk 1 rfl)))
              · refine Rk.sp (G_iconst (pc := 84) dX9_both_84) ?_
                exact Rk.end_ (fun h => G_ireturn (pc := 85) rfl dX9_both_85 (q_RI h (inRk 0 rfl)))
            · refine Rk.ite (fun hc9 => ?_) (fun hc9 => ?_)
              · refine Rk.tblI (pc := 1) (tgt := 86) 29 hc9 dX9_both_1 (nmI ha1) (by decide) (by decide) rfl rfl ?_
                refine Rk.sp (G_iload_n (pc := 86) 1 rfl rfl dX9_both_86) ?_
                refine Rk.sp (G_iload_n (pc := 87) 2 rfl rfl dX9_both_87) ?_
                refine Rk.icmp_le (pc := 88) (tgt := 95) dX9_both_88 (nmI ha2) (nmI ha3) rfl (fun hc10 => ?_) (fun hc10 => ?_)
                · refine Rk.sp (G_iconst (pc := 91) dX9_both_91) ?_
                  refine Rk.sp (G_goto (pc := 92) (tgt := 96) dX9_both_92 rfl) ?_
                  exact Rk.end_ (fun h => G_ireturn (pc := 96) rfl dX9_both_96 (q_RI h (inRk 1 rfl)))
                · refine Rk.sp (G_iconst (pc := 95) dX9_both_95) ?_
                  exact Rk.end_ (fun h => G_ireturn (pc := 96) rfl dX9_both_96 (q_RI h (inRk 0 rfl)))
              · refine Rk.ite (fun hc11 => ?_) (fun hc11 => ?_)
                · refine Rk.tblI (pc := 1) (tgt := 101) 30 hc11 dX9_both_1 (nmI ha1) (by decide) (by decide) rfl rfl ?_
                  refine Rk.sp (G_iload_n (pc := 101) 1 rfl rfl dX9_both_101) ?_
                  refine Rk.sp (G_iload_n (pc := 102) 2 rfl rfl dX9_both_102) ?_
                  refine Rk.sp (G_ior (pc := 103) dX9_both_103) ?_
                  exact Rk.end_ (fun h => G_ireturn (pc := 104) rfl dX9_both_104 (q_RI h (bOr_R _ _)))
                · refine Rk.ite (fun hc12 => ?_) (fun hc12 => ?_)
                  · refine Rk.tblI (pc := 1) (tgt := 97) 31 hc12 dX9_both_1 (nmI ha1) (by decide) (by decide) rfl rfl ?_
                    refine Rk.sp (G_iload_n (pc := 97) 1 rfl rfl dX9_both_97) ?_
                    refine Rk.sp (G_iload_n (pc := 98) 2 rfl rfl dX9_both_98) ?_
                    refine Rk.sp (G_iand (pc := 99) dX9_both_99) ?_
                    exact Rk.end_ (fun h => G_ireturn (pc := 100) rfl dX9_both_100 (q_RI h (bAnd_R _ _)))
                  · refine Rk.tblO (pc := 1) (tgt := 101) dX9_both_1 (nmI ha1) (by omega) rfl ?_
                    refine Rk.sp (G_iload_n (pc := 101) 1 rfl rfl dX9_both_101) ?_
                    refine Rk.sp (G_iload_n (pc := 102) 2 rfl rfl dX9_both_102) ?_
                    refine Rk.sp (G_ior (pc := 103) dX9_both_103) ?_
                    exact Rk.end_ (fun h => G_ireturn (pc := 104) rfl dX9_both_104 (q_RI h (bOr_R _ _)))
theorem k_Mo_comesTo {κ : Kx} {μ : Sg} (a1 : Int) (a2 : Int) (a3 : Int) (σ : Sg) (ha1 : inR a1) (ha2 : inR a2) (ha3 : inR a3) (hok : okS σ) : CtI κ mX9_comesTo 1 [vr 172, vi a1, vi a2, vi a3] true μ σ (Mo_comesTo a1 a2 a3 σ) := by
  intro r τ h
  refine con_of (by decide) (Nat.le_of_ble_eq_true rfl) 4 ?_
  refine (?_ : Rk κ mX9_comesTo _ 0 [some (vr 172), some (vi a1), some (vi a2), some (vi a3), none, none, none, none] [] (ms true μ σ) (Mo_comesTo a1 a2 a3 σ) (fun a => a = (r, τ))) _ h rfl
  unfold Mo_comesTo
  refine Rk.sp (G_iconst (pc := 0) dX9_comesTo_0) ?_
  refine Rk.isa_w (pc := 1) 4 (L' := [some (vr 172), some (vi a1), some (vi a2), some (vi a3), some (vi 0), none, none, none]) (Nat.le_of_ble_eq_true rfl) rfl dX9_comesTo_1 rfl ?_
  refine Rk.sp (G_iload_n (pc := 3) 2 rfl rfl dX9_comesTo_3) ?_
  refine Rk.isa_w (pc := 4) 5 (L' := [some (vr 172), some (vi a1), some (vi a2), some (vi a3), some (vi 0), some (vi a2), none, none]) (Nat.le_of_ble_eq_true rfl) rfl dX9_comesTo_4 rfl ?_
  refine Rk.fg [true, true, false, true, true, true, false, false] (L' := [some (vr 172), some (vi a1), none, some (vi a3), some (vi 0), some (vi a2), none, none]) rfl ?_
  refine Rk.loop (pc := 6) (B := (fun p => Mo_comesTo_6_b a3 a1 p.1 p.2.1 p.2.2)) (fun p => inR p.1 ∧ inR p.2.1 ∧ okS p.2.2) (fun p => [some (vr 172), some (vi a1), none, some (vi a3), some (vi p.1), some (vi p.2.1), none, none]) (fun p => (ms true μ p.2.2)) (fun p hp => ?_) (0, a2, σ) ⟨(inRk 0 rfl), ha2, hok⟩
  obtain ⟨v4_1, v5_2, σ3⟩ := p
  obtain ⟨hv4_1, hv5_2, hσ3⟩ := hp
  try dsimp only
  unfold Mo_comesTo_6_b
  refine Rk.sp (G_iload_w (pc := 6) 5 rfl dX9_comesTo_6) ?_
  refine Rk.sp (G_iload_n (pc := 8) 3 rfl rfl dX9_comesTo_8) ?_
  refine Rk.icmp_ge (pc := 9) (tgt := 186) dX9_comesTo_9 (nmI hv5_2) (nmI ha3) rfl (fun hc4 => ?_) (fun hc4 => ?_)
  · refine Rk.sp (G_aload_n (pc := 12) 0 rfl rfl dX9_comesTo_12) ?_
    refine Rk.gR (pc := 13) 173 flX9_7 cl9 rfl lb172 dX9_comesTo_13 ?_
    refine Rk.sp (G_sipush (pc := 16) dX9_comesTo_16 rfl) ?_
    refine Rk.sp (G_sipush (pc := 19) dX9_comesTo_19 rfl) ?_
    refine Rk.sp (G_iload_n (pc := 22) 1 rfl rfl dX9_comesTo_22) ?_
    refine Rk.sp (G_imul (pc := 23) dX9_comesTo_23) ?_
    refine Rk.sp (G_iadd (pc := 24) dX9_comesTo_24) ?_
    refine Rk.sp (G_iconst (pc := 25) dX9_comesTo_25) ?_
    refine Rk.sp (G_iload_w (pc := 26) 5 rfl dX9_comesTo_26) ?_
    refine Rk.sp (G_imul (pc := 28) dX9_comesTo_28) ?_
    refine Rk.sp (G_iadd (pc := 29) dX9_comesTo_29) ?_
    refine Rk.al (pc := 30) lb173 dX9_comesTo_30 (fun hi5 => ?_)
    refine Rk.ist_w (pc := 31) 6 (fun v6_6 => [some (vr 172), some (vi a1), none, some (vi a3), some (vi v4_1), some (vi v5_2), some (vi v6_6), none]) (Nat.le_of_ble_eq_true rfl) rfl dX9_comesTo_31 (nmI (hσ3 _ _)) (fun _ => rfl) (fun v6_6 hv6_6 => ?_)
    refine Rk.sp (G_aload_n (pc := 33) 0 rfl rfl dX9_comesTo_33) ?_
    refine Rk.gR (pc := 34) 173 flX9_7 cl9 rfl lb172 dX9_comesTo_34 ?_
    refine Rk.sp (G_sipush (pc := 37) dX9_comesTo_37 rfl) ?_
    refine Rk.sp (G_sipush (pc := 40) dX9_comesTo_40 rfl) ?_
    refine Rk.sp (G_iload_n (pc := 43) 1 rfl rfl dX9_comesTo_43) ?_
    refine Rk.sp (G_imul (pc := 44) dX9_comesTo_44) ?_
    refine Rk.sp (G_iadd (pc := 45) dX9_comesTo_45) ?_
    refine Rk.sp (G_iconst (pc := 46) dX9_comesTo_46) ?_
    refine Rk.sp (G_iload_w (pc := 47) 5 rfl dX9_comesTo_47) ?_
    refine Rk.sp (G_imul (pc := 49) dX9_comesTo_49) ?_
    refine Rk.sp (G_iadd (pc := 50) dX9_comesTo_50) ?_
    refine Rk.sp (G_iconst (pc := 51) dX9_comesTo_51) ?_
    refine Rk.sp (G_iadd (pc := 52) dX9_comesTo_52) ?_
    refine Rk.al (pc := 53) lb173 dX9_comesTo_53 (fun hi7 => ?_)
    refine Rk.ist_w (pc := 54) 7 (fun v7_8 => [some (vr 172), some (vi a1), none, some (vi a3), some (vi v4_1), some (vi v5_2), some (vi v6_6), some (vi v7_8)]) (Nat.le_of_ble_eq_true rfl) rfl dX9_comesTo_54 (nmI (hσ3 _ _)) (fun _ => rfl) (fun v7_8 hv7_8 => ?_)
    refine Rk.sp (G_iload_w (pc := 56) 6 rfl dX9_comesTo_56) ?_
    refine Rk.sp (G_bipush (pc := 58) dX9_comesTo_58 rfl) ?_
    refine Rk.icmp_ge (pc := 60) (tgt := 93) dX9_comesTo_60 (nmI hv6_6) (nmI (inRk 23 rfl)) rfl (fun hc9 => ?_) (fun hc9 => ?_)
    · refine Rk.sp (G_aload_n (pc := 63) 0 rfl rfl dX9_comesTo_63) ?_
      refine Rk.gR (pc := 64) 181 flX9_34 cl9 rfl lb172 dX9_comesTo_64 ?_
      refine Rk.sp (G_iload_w (pc := 67) 4 rfl dX9_comesTo_67) ?_
      refine Rk.sp (G_iload_w (pc := 69) 6 rfl dX9_comesTo_69) ?_
      refine Rk.if_ne (pc := 71) (tgt := 79) dX9_comesTo_71 (nmI hv6_6) rfl (fun hc10 => ?_) (fun hc10 => ?_)
      · refine Rk.sp (G_iload_w (pc := 74) 7 rfl dX9_comesTo_74) ?_
        refine Rk.sp (G_goto (pc := 76) (tgt := 86) dX9_comesTo_76 rfl) ?_
        refine Rk.as (pc := 86) hσ3 (nmI hv7_8) lb181 dX9_comesTo_86 (fun hi12 σ11 hσ11 => ?_)
        refine Rk.inc (pc := 87) 4 (fun v4_13 => [some (vr 172), some (vi a1), none, some (vi a3), some (vi v4_13), some (vi v5_2), some (vi v6_6), some (vi v7_8)]) rfl (Nat.le_of_ble_eq_true rfl) rfl dX9_comesTo_87 (fun _ => rfl) (fun v4_13 hv4_13 => ?_)
        refine Rk.sp (G_goto (pc := 90) (tgt := 180) dX9_comesTo_90 rfl) ?_
        refine Rk.inc (pc := 180) 5 (fun v5_14 => [some (vr 172), some (vi a1), none, some (vi a3), some (vi v4_13), some (vi v5_14), some (vi v6_6), some (vi v7_8)]) rfl (Nat.le_of_ble_eq_true rfl) rfl dX9_comesTo_180 (fun _ => rfl) (fun v5_14 hv5_14 => ?_)
        refine Rk.sp (G_goto (pc := 183) (tgt := 6) dX9_comesTo_183 rfl) ?_
        refine Rk.fg [true, true, false, true, true, true, false, false] (L' := [some (vr 172), some (vi a1), none, some (vi a3), some (vi v4_13), some (vi v5_14), none, none]) rfl ?_
        exact Rk.end_ (fun h => h ⟨hv4_13, hv5_14, hσ11⟩)
      · refine Rk.sp (G_aload_n (pc := 79) 0 rfl rfl dX9_comesTo_79) ?_
        refine Rk.gR (pc := 80) 182 flX9_37 cl9 rfl lb172 dX9_comesTo_80 ?_
        refine Rk.sp (G_iload_w (pc := 83) 6 rfl dX9_comesTo_83) ?_
        refine Rk.al (pc := 85) lb182 dX9_comesTo_85 (fun hi15 => ?_)
        refine Rk.as (pc := 86) hσ3 (nmI (hσ3 _ _)) lb181 dX9_comesTo_86 (fun hi17 σ16 hσ16 => ?_)
        refine Rk.inc (pc := 87) 4 (fun v4_18 => [some (vr 172), some (vi a1), none, some (vi a3), some (vi v4_18), some (vi v5_2), some (vi v6_6), some (vi v7_8)]) rfl (Nat.le_of_ble_eq_true rfl) rfl dX9_comesTo_87 (fun _ => rfl) (fun v4_18 hv4_18 => ?_)
        refine Rk.sp (G_goto (pc := 90) (tgt := 180) dX9_comesTo_90 rfl) ?_
        refine Rk.inc (pc := 180) 5 (fun v5_19 => [some (vr 172), some (vi a1), none, some (vi a3), some (vi v4_18), some (vi v5_19), some (vi v6_6), some (vi v7_8)]) rfl (Nat.le_of_ble_eq_true rfl) rfl dX9_comesTo_180 (fun _ => rfl) (fun v5_19 hv5_19 => ?_)
        refine Rk.sp (G_goto (pc := 183) (tgt := 6) dX9_comesTo_183 rfl) ?_
        refine Rk.fg [true, true, false, true, true, true, false, false] (L' := [some (vr 172), some (vi a1), none, some (vi a3), some (vi v4_18), some (vi v5_19), none, none]) rfl ?_
        exact Rk.end_ (fun h => h ⟨hv4_18, hv5_19, hσ16⟩)
    · refine Rk.sp (G_iload_w (pc := 93) 6 rfl dX9_comesTo_93) ?_
      refine Rk.sp (G_bipush (pc := 95) dX9_comesTo_95 rfl) ?_
      refine Rk.icmp_ne (pc := 97) (tgt := 117) dX9_comesTo_97 (nmI hv6_6) (nmI (inRk 26 rfl)) rfl (fun hc20 => ?_) (fun hc20 => ?_)
      · refine Rk.sp (G_aload_n (pc := 100) 0 rfl rfl dX9_comesTo_100) ?_
        refine Rk.gR (pc := 101) 181 flX9_34 cl9 rfl lb172 dX9_comesTo_101 ?_
        refine Rk.sp (G_iload_w (pc := 104) 4 rfl dX9_comesTo_104) ?_
        refine Rk.sp (G_iconst (pc := 106) dX9_comesTo_106) ?_
        refine Rk.sp (G_isub (pc := 107) dX9_comesTo_107) ?_
        refine Rk.sp (G_dup2 (pc := 108) dX9_comesTo_108 (fun _ h => by cases h) (fun _ h => by cases h)) ?_
        refine Rk.al (pc := 109) lb181 dX9_comesTo_109 (fun hi21 => ?_)
        refine Rk.sp (G_iload_w (pc := 110) 7 rfl dX9_comesTo_110) ?_
        refine Rk.qnz (fun hz22 => ?_)
        refine Rk.sp (G_idiv (pc := 112) dX9_comesTo_112 (nmI (hσ3 _ _)) (nmI hv7_8) hz22) ?_
        refine Rk.as (pc := 113) hσ3 (nmW _) lb181 dX9_comesTo_113 (fun hi24 σ23 hσ23 => ?_)
        refine Rk.sp (G_goto (pc := 114) (tgt := 180) dX9_comesTo_114 rfl) ?_
        refine Rk.inc (pc := 180) 5 (fun v5_25 => [some (vr 172), some (vi a1), none, some (vi a3), some (vi v4_1), some (vi v5_25), some (vi v6_6), some (vi v7_8)]) rfl (Nat.le_of_ble_eq_true rfl) rfl dX9_comesTo_180 (fun _ => rfl) (fun v5_25 hv5_25 => ?_)
        refine Rk.sp (G_goto (pc := 183) (tgt := 6) dX9_comesTo_183 rfl) ?_
        refine Rk.fg [true, true, false, true, true, true, false, false] (L' := [some (vr 172), some (vi a1), none, some (vi a3), some (vi v4_1), some (vi v5_25), none, none]) rfl ?_
        exact Rk.end_ (fun h => h ⟨hv4_1, hv5_25, hσ23⟩)
      · refine Rk.sp (G_iload_w (pc := 117) 6 rfl dX9_comesTo_117) ?_
        refine Rk.sp (G_bipush (pc := 119) dX9_comesTo_119 rfl) ?_
        refine Rk.icmp_ne (pc := 121) (tgt := 147) dX9_comesTo_121 (nmI hv6_6) (nmI (inRk 30 rfl)) rfl (fun hc26 => ?_) (fun hc26 => ?_)
        · refine Rk.sp (G_aload_n (pc := 124) 0 rfl rfl dX9_comesTo_124) ?_
          refine Rk.gR (pc := 125) 181 flX9_34 cl9 rfl lb172 dX9_comesTo_125 ?_
          refine Rk.sp (G_iload_w (pc := 128) 4 rfl dX9_comesTo_128) ?_
          refine Rk.sp (G_iconst (pc := 130) dX9_comesTo_130) ?_
          refine Rk.sp (G_isub (pc := 131) dX9_comesTo_131) ?_
          refine Rk.sp (G_iconst (pc := 132) dX9_comesTo_132) ?_
          refine Rk.sp (G_aload_n (pc := 133) 0 rfl rfl dX9_comesTo_133) ?_
          refine Rk.gR (pc := 134) 181 flX9_34 cl9 rfl lb172 dX9_comesTo_134 ?_
          refine Rk.sp (G_iload_w (pc := 137) 4 rfl dX9_comesTo_137) ?_
          refine Rk.sp (G_iconst (pc := 139) dX9_comesTo_139) ?_
          refine Rk.sp (G_isub (pc := 140) dX9_comesTo_140) ?_
          refine Rk.al (pc := 141) lb181 dX9_comesTo_141 (fun hi27 => ?_)
          refine Rk.sp (G_isub (pc := 142) dX9_comesTo_142) ?_
          refine Rk.as (pc := 143) hσ3 (nmW _) lb181 dX9_comesTo_143 (fun hi29 σ28 hσ28 => ?_)
          refine Rk.sp (G_goto (pc := 144) (tgt := 180) dX9_comesTo_144 rfl) ?_
          refine Rk.inc (pc := 180) 5 (fun v5_30 => [some (vr 172), some (vi a1), none, some (vi a3), some (vi v4_1), some (vi v5_30), some (vi v6_6), some (vi v7_8)]) rfl (Nat.le_of_ble_eq_true rfl) rfl dX9_comesTo_180 (fun _ => rfl) (fun v5_30 hv5_30 => ?_)
          refine Rk.sp (G_goto (pc := 183) (tgt := 6) dX9_comesTo_183 rfl) ?_
          refine Rk.fg [true, true, false, true, true, true, false, false] (L' := [some (vr 172), some (vi a1), none, some (vi a3), some (vi v4_1), some (vi v5_30), none, none]) rfl ?_
          exact Rk.end_ (fun h => h ⟨hv4_1, hv5_30, hσ28⟩)
        · refine Rk.inc (pc := 147) 4 (fun v4_31 => [some (vr 172), some (vi a1), none, some (vi a3), some (vi v4_31), some (vi v5_2), some (vi v6_6), some (vi v7_8)]) rfl (Nat.le_of_ble_eq_true rfl) rfl dX9_comesTo_147 (fun _ => rfl) (fun v4_31 hv4_31 => ?_)
          refine Rk.sp (G_aload_n (pc := 150) 0 rfl rfl dX9_comesTo_150) ?_
          refine Rk.gR (pc := 151) 181 flX9_34 cl9 rfl lb172 dX9_comesTo_151 ?_
          refine Rk.sp (G_iload_w (pc := 154) 4 rfl dX9_comesTo_154) ?_
          refine Rk.sp (G_iconst (pc := 156) dX9_comesTo_156) ?_
          refine Rk.sp (G_isub (pc := 157) dX9_comesTo_157) ?_
          refine Rk.sp (G_iload_w (pc := 158) 6 rfl dX9_comesTo_158) ?_
          refine Rk.sp (G_aload_n (pc := 160) 0 rfl rfl dX9_comesTo_160) ?_
          refine Rk.gR (pc := 161) 181 flX9_34 cl9 rfl lb172 dX9_comesTo_161 ?_
          refine Rk.sp (G_iload_w (pc := 164) 4 rfl dX9_comesTo_164) ?_
          refine Rk.sp (G_iconst (pc := 166) dX9_comesTo_166) ?_
          refine Rk.sp (G_isub (pc := 167) dX9_comesTo_167) ?_
          refine Rk.al (pc := 168) lb181 dX9_comesTo_168 (fun hi32 => ?_)
          refine Rk.sp (G_aload_n (pc := 169) 0 rfl rfl dX9_comesTo_169) ?_
          refine Rk.gR (pc := 170) 181 flX9_34 cl9 rfl lb172 dX9_comesTo_170 ?_
          refine Rk.sp (G_iload_w (pc := 173) 4 rfl dX9_comesTo_173) ?_
          refine Rk.al (pc := 175) lb181 dX9_comesTo_175 (fun hi33 => ?_)
          refine Rk.cRI (pc := 176) (Cl.s [vi v6_6, vi (σ3 181 ((v4_31 - 1)).toNat), vi (σ3 181 (v4_31).toNat)] [vi (v4_31 - 1), vr 181] dX9_comesTo_176 ckX9_302 rfl rfl (Nat.le_of_ble_eq_true rfl) (Nat.le_of_ble_eq_true rfl)) (k_Mo_both v6_6 (σ3 181 ((v4_31 - 1)).toNat) (σ3 181 (v4_31).toNat) hv6_6 (hσ3 _ _) (hσ3 _ _)) (fun r34 hr34 => ?_)
          refine Rk.as (pc := 179) hσ3 (nmI hr34) lb181 dX9_comesTo_179 (fun hi36 σ35 hσ35 => ?_)
          refine Rk.inc (pc := 180) 5 (fun v5_37 => [some (vr 172), some (vi a1), none, some (vi a3), some (vi v4_31), some (vi v5_37), some (vi v6_6), some (vi v7_8)]) rfl (Nat.le_of_ble_eq_true rfl) rfl dX9_comesTo_180 (fun _ => rfl) (fun v5_37 hv5_37 => ?_)
          refine Rk.sp (G_goto (pc := 183) (tgt := 6) dX9_comesTo_183 rfl) ?_
          refine Rk.fg [true, true, false, true, true, true, false, false] (L' := [some (vr 172), some (vi a1), none, some (vi a3), some (vi v4_31), some (vi v5_37), none, none]) rfl ?_
          exact Rk.end_ (fun h => h ⟨hv4_31, hv5_37, hσ35⟩)
  · refine Rk.sp (G_aload_n (pc := 186) 0 rfl rfl dX9_comesTo_186) ?_
    refine Rk.gR (pc := 187) 181 flX9_34 cl9 rfl lb172 dX9_comesTo_187 ?_
    refine Rk.sp (G_iconst (pc := 190) dX9_comesTo_190) ?_
    refine Rk.alc (pc := 191) 0 rfl (Nat.le_of_ble_eq_true rfl) lb181 dX9_comesTo_191 ?_
    exact Rk.end_ (fun h => G_ireturn (pc := 192) rfl dX9_comesTo_192 (q_I h (hσ3 _ _) hσ3))
theorem k_Mo_isSo {κ : Kx} {μ : Sg} (a1 : Int) (σ : Sg) (ha1 : inR a1) (hok : okS σ) : CtZ κ mX9_isSo 2 [vr 172, vi a1] true μ σ (Mo_isSo a1 σ) := by
  intro r τ h
  refine con_of (by decide) (Nat.le_of_ble_eq_true rfl) 0 ?_
  refine (?_ : Rk κ mX9_isSo _ 0 [some (vr 172), some (vi a1)] [] (ms true μ σ) (Mo_isSo a1 σ) (fun a => a = (r, τ))) _ h rfl
  unfold Mo_isSo
  refine Rk.sp (G_aload_n (pc := 0) 0 rfl rfl dX9_isSo_0) ?_
  refine Rk.gR (pc := 1) 173 flX9_7 cl9 rfl lb172 dX9_isSo_1 ?_
  refine Rk.sp (G_sipush (pc := 4) dX9_isSo_4 rfl) ?_
  refine Rk.sp (G_iload_n (pc := 7) 1 rfl rfl dX9_isSo_7) ?_
  refine Rk.sp (G_iadd (pc := 8) dX9_isSo_8) ?_
  refine Rk.al (pc := 9) lb173 dX9_isSo_9 (fun hi1 => ?_)
  refine Rk.sp (G_aload_n (pc := 10) 0 rfl rfl dX9_isSo_10) ?_
  refine Rk.gR (pc := 11) 173 flX9_7 cl9 rfl lb172 dX9_isSo_11 ?_
  refine Rk.sp (G_sipush (pc := 14) dX9_isSo_14 rfl) ?_
  refine Rk.sp (G_iload_n (pc := 17) 1 rfl rfl dX9_isSo_17) ?_
  refine Rk.sp (G_iadd (pc := 18) dX9_isSo_18) ?_
  refine Rk.al (pc := 19) lb173 dX9_isSo_19 (fun hi2 => ?_)
  refine Rk.icmp_eq (pc := 20) (tgt := 52) dX9_isSo_20 (nmI (hok _ _)) (nmI (hok _ _)) rfl (fun hc3 => ?_) (fun hc3 => ?_)
  · refine Rk.sp (G_iconst (pc := 52) dX9_isSo_52) ?_
    refine Rk.sp (G_goto (pc := 53) (tgt := 57) dX9_isSo_53 rfl) ?_
    exact Rk.end_ (fun h => G_zreturn (pc := 57) rfl (nz inZ1) dX9_isSo_57 (q_Z h inZ1 hok))
  · refine Rk.sp (G_aload_n (pc := 23) 0 rfl rfl dX9_isSo_23) ?_
    refine Rk.sp (G_iconst (pc := 24) dX9_isSo_24) ?_
    refine Rk.sp (G_aload_n (pc := 25) 0 rfl rfl dX9_isSo_25) ?_
    refine Rk.gR (pc := 26) 173 flX9_7 cl9 rfl lb172 dX9_isSo_26 ?_
    refine Rk.sp (G_sipush (pc := 29) dX9_isSo_29 rfl) ?_
    refine Rk.sp (G_iload_n (pc := 32) 1 rfl rfl dX9_isSo_32) ?_
    refine Rk.sp (G_iadd (pc := 33) dX9_isSo_33) ?_
    refine Rk.al (pc := 34) lb173 dX9_isSo_34 (fun hi4 => ?_)
    refine Rk.sp (G_aload_n (pc := 35) 0 rfl rfl dX9_isSo_35) ?_
    refine Rk.gR (pc := 36) 173 flX9_7 cl9 rfl lb172 dX9_isSo_36 ?_
    refine Rk.sp (G_sipush (pc := 39) dX9_isSo_39 rfl) ?_
    refine Rk.sp (G_iload_n (pc := 42) 1 rfl rfl dX9_isSo_42) ?_
    refine Rk.sp (G_iadd (pc := 43) dX9_isSo_43) ?_
    refine Rk.al (pc := 44) lb173 dX9_isSo_44 (fun hi5 => ?_)
    refine Rk.cI (pc := 45) (Cl.v [vi 0, vi (σ 173 ((1349 + a1)).toNat), vi (σ 173 ((1365 + a1)).toNat)] [] dX9_isSo_45 ckX9_305 lb172 rfl rfl rfl (Nat.le_of_ble_eq_true rfl) (Nat.le_of_ble_eq_true rfl)) (k_Mo_comesTo 0 (σ 173 ((1349 + a1)).toNat) (σ 173 ((1365 + a1)).toNat) σ (inRk 0 rfl) (hok _ _) (hok _ _) hok) (fun r6 σ7 hr6 hσ7 => ?_)
    refine Rk.sp (G_iconst (pc := 48) dX9_isSo_48) ?_
    refine Rk.icmp_ne (pc := 49) (tgt := 56) dX9_isSo_49 (nmI hr6) (nmI (inRk 1 rfl)) rfl (fun hc8 => ?_) (fun hc8 => ?_)
    · refine Rk.sp (G_iconst (pc := 52) dX9_isSo_52) ?_
      refine Rk.sp (G_goto (pc := 53) (tgt := 57) dX9_isSo_53 rfl) ?_
      exact Rk.end_ (fun h => G_zreturn (pc := 57) rfl (nz inZ1) dX9_isSo_57 (q_Z h inZ1 hσ7))
    · refine Rk.sp (G_iconst (pc := 56) dX9_isSo_56) ?_
      exact Rk.end_ (fun h => G_zreturn (pc := 57) rfl (nz inZ0) dX9_isSo_57 (q_Z h inZ0 hσ7))
theorem k_Mo_lesser {κ : Kx} {b : Bool} {μ σ : Sg} (a1 : Int) (a2 : Int) (ha1 : inR a1) (ha2 : inR a2) : CtRI κ mX9_lesser 0 [vi a1, vi a2] b μ σ (Mo_lesser a1 a2) := by
  intro r h
  refine con_of (by decide) (Nat.le_of_ble_eq_true rfl) 0 ?_
  refine (?_ : Rk κ mX9_lesser _ 0 [some (vi a1), some (vi a2)] [] (ms b μ σ) (Mo_lesser a1 a2) (fun a => a = r)) _ h rfl
  unfold Mo_lesser
  refine Rk.sp (G_iload_n (pc := 0) 0 rfl rfl dX9_lesser_0) ?_
  refine Rk.sp (G_iload_n (pc := 1) 1 rfl rfl dX9_lesser_1) ?_
  refine Rk.icmp_ge (pc := 2) (tgt := 9) dX9_lesser_2 (nmI ha1) (nmI ha2) rfl (fun hc1 => ?_) (fun hc1 => ?_)
  · refine Rk.sp (G_iload_n (pc := 5) 0 rfl rfl dX9_lesser_5) ?_
    refine Rk.sp (G_goto (pc := 6) (tgt := 10) dX9_lesser_6 rfl) ?_
    exact Rk.end_ (fun h => G_ireturn (pc := 10) rfl dX9_lesser_10 (q_RI h ha1))
  · refine Rk.sp (G_iload_n (pc := 9) 1 rfl rfl dX9_lesser_9) ?_
    exact Rk.end_ (fun h => G_ireturn (pc := 10) rfl dX9_lesser_10 (q_RI h ha2))
theorem k_Mo_greater {κ : Kx} {b : Bool} {μ σ : Sg} (a1 : Int) (a2 : Int) (ha1 : inR a1) (ha2 : inR a2) : CtRI κ mX9_greater 0 [vi a1, vi a2] b μ σ (Mo_greater a1 a2) := by
  intro r h
  refine con_of (by decide) (Nat.le_of_ble_eq_true rfl) 0 ?_
  refine (?_ : Rk κ mX9_greater _ 0 [some (vi a1), some (vi a2)] [] (ms b μ σ) (Mo_greater a1 a2) (fun a => a = r)) _ h rfl
  unfold Mo_greater
  refine Rk.sp (G_iload_n (pc := 0) 0 rfl rfl dX9_greater_0) ?_
  refine Rk.sp (G_iload_n (pc := 1) 1 rfl rfl dX9_greater_1) ?_
  refine Rk.icmp_le (pc := 2) (tgt := 9) dX9_greater_2 (nmI ha1) (nmI ha2) rfl (fun hc1 => ?_) (fun hc1 => ?_)
  · refine Rk.sp (G_iload_n (pc := 5) 0 rfl rfl dX9_greater_5) ?_
    refine Rk.sp (G_goto (pc := 6) (tgt := 10) dX9_greater_6 rfl) ?_
    exact Rk.end_ (fun h => G_ireturn (pc := 10) rfl dX9_greater_10 (q_RI h ha1))
  · refine Rk.sp (G_iload_n (pc := 9) 1 rfl rfl dX9_greater_9) ?_
    exact Rk.end_ (fun h => G_ireturn (pc := 10) rfl dX9_greater_10 (q_RI h ha2))
theorem k_Mo_held {κ : Kx} {b : Bool} {μ σ : Sg} (a1 : Int) (a2 : Int) (a3 : Int) (ha1 : inR a1) (ha2 : inR a2) (ha3 : inR a3) : CtRI κ mX9_held 1 [vi a1, vi a2, vi a3] b μ σ (Mo_held a1 a2 a3) := by
  intro r h
  refine con_of (by decide) (Nat.le_of_ble_eq_true rfl) 0 ?_
  refine (?_ : Rk κ mX9_held _ 0 [some (vi a1), some (vi a2), some (vi a3)] [] (ms b μ σ) (Mo_held a1 a2 a3) (fun a => a = r)) _ h rfl
  unfold Mo_held
  refine Rk.sp (G_iload_n (pc := 0) 1 rfl rfl dX9_held_0) ?_
  refine Rk.sp (G_iload_n (pc := 1) 2 rfl rfl dX9_held_1) ?_
  refine Rk.sp (G_iload_n (pc := 2) 0 rfl rfl dX9_held_2) ?_
  refine Rk.cRI (pc := 3) (Cl.s [vi a3, vi a1] [vi a2] dX9_held_3 ckX9_65 rfl rfl (Nat.le_of_ble_eq_true rfl) (Nat.le_of_ble_eq_true rfl)) (k_Mo_lesser a3 a1 ha3 ha1) (fun r1 hr1 => ?_)
  refine Rk.cRI (pc := 6) (Cl.s [vi a2, vi r1] [] dX9_held_6 ckX9_69 rfl rfl (Nat.le_of_ble_eq_true rfl) (Nat.le_of_ble_eq_true rfl)) (k_Mo_greater a2 r1 ha2 hr1) (fun r2 hr2 => ?_)
  exact Rk.end_ (fun h => G_ireturn (pc := 9) rfl dX9_held_9 (q_RI h hr2))
theorem k_Mo_says {κ : Kx} {μ : Sg} (a1 : Int) (a2 : Int) (a3 : Int) (a4 : Int) (σ : Sg) (ha1 : inR a1) (ha2 : inR a2) (ha3 : inR a3) (ha4 : inR a4) (hok : okS σ) : CtI κ mX9_says 3 [vr 172, vi a1, vi a2, vi a3, vi a4] true μ σ (Mo_says a1 a2 a3 a4 σ) := by
  intro r τ h
  refine con_of (by decide) (Nat.le_of_ble_eq_true rfl) 1 ?_
  refine (?_ : Rk κ mX9_says _ 0 [some (vr 172), some (vi a1), some (vi a2), some (vi a3), some (vi a4), none] [] (ms true μ σ) (Mo_says a1 a2 a3 a4 σ) (fun a => a = (r, τ))) _ h rfl
  unfold Mo_says
  refine Rk.sp (G_iconst (pc := 0) dX9_says_0) ?_
  refine Rk.isa_w (pc := 1) 5 (L' := [some (vr 172), some (vi a1), some (vi a2), some (vi a3), some (vi a4), some (vi 0)]) (Nat.le_of_ble_eq_true rfl) rfl dX9_says_1 rfl ?_
  refine Rk.loop (pc := 3) (B := (fun p => Mo_says_3_b a1 a3 a4 a2 p.1 p.2)) (fun p => inR p.1 ∧ okS p.2) (fun p => [some (vr 172), some (vi a1), some (vi a2), some (vi a3), some (vi a4), some (vi p.1)]) (fun p => (ms true μ p.2)) (fun p hp => ?_) (0, σ) ⟨(inRk 0 rfl), hok⟩
  obtain ⟨v5_1, σ2⟩ := p
  obtain ⟨hv5_1, hσ2⟩ := hp
  try dsimp only
  unfold Mo_says_3_b
  refine Rk.sp (G_iload_w (pc := 3) 5 rfl dX9_says_3) ?_
  refine Rk.sp (G_aload_n (pc := 5) 0 rfl rfl dX9_says_5) ?_
  refine Rk.gR (pc := 6) 173 flX9_7 cl9 rfl lb172 dX9_says_6 ?_
  refine Rk.sp (G_sipush (pc := 9) dX9_says_9 rfl) ?_
  refine Rk.alc (pc := 12) 550 rfl (Nat.le_of_ble_eq_true rfl) lb173 dX9_says_12 ?_
  refine Rk.icmp_ge (pc := 13) (tgt := 80) dX9_says_13 (nmI hv5_1) (nmI (hσ2 _ _)) rfl (fun hc3 => ?_) (fun hc3 => ?_)
  · refine Rk.sp (G_aload_n (pc := 16) 0 rfl rfl dX9_says_16) ?_
    refine Rk.gR (pc := 17) 173 flX9_7 cl9 rfl lb172 dX9_says_17 ?_
    refine Rk.sp (G_sipush (pc := 20) dX9_says_20 rfl) ?_
    refine Rk.sp (G_iload_w (pc := 23) 5 rfl dX9_says_23) ?_
    refine Rk.sp (G_iadd (pc := 25) dX9_says_25) ?_
    refine Rk.al (pc := 26) lb173 dX9_says_26 (fun hi4 => ?_)
    refine Rk.sp (G_iload_n (pc := 27) 1 rfl rfl dX9_says_27) ?_
    refine Rk.icmp_ne (pc := 28) (tgt := 74) dX9_says_28 (nmI (hσ2 _ _)) (nmI ha1) rfl (fun hc5 => ?_) (fun hc5 => ?_)
    · refine Rk.sp (G_aload_n (pc := 31) 0 rfl rfl dX9_says_31) ?_
      refine Rk.sp (G_iload_w (pc := 32) 5 rfl dX9_says_32) ?_
      refine Rk.cZ (pc := 34) (Cl.v [vi v5_1] [] dX9_says_34 ckX9_308 lb172 rfl rfl rfl (Nat.le_of_ble_eq_true rfl) (Nat.le_of_ble_eq_true rfl)) (k_Mo_isSo v5_1 σ2 hv5_1 hσ2) (fun r6 σ7 hr6 hσ7 => ?_)
      refine Rk.if_eq (pc := 37) (tgt := 74) dX9_says_37 (nmI (inZ.R hr6)) rfl (fun hc8 => ?_) (fun hc8 => ?_)
      · refine Rk.inc (pc := 74) 5 (fun v5_9 => [some (vr 172), some (vi a1), some (vi a2), some (vi a3), some (vi a4), some (vi v5_9)]) rfl (Nat.le_of_ble_eq_true rfl) rfl dX9_says_74 (fun _ => rfl) (fun v5_9 hv5_9 => ?_)
        refine Rk.sp (G_goto (pc := 77) (tgt := 3) dX9_says_77 rfl) ?_
        exact Rk.end_ (fun h => h ⟨hv5_9, hσ7⟩)
      · refine Rk.sp (G_aload_n (pc := 40) 0 rfl rfl dX9_says_40) ?_
        refine Rk.sp (G_iconst (pc := 41) dX9_says_41) ?_
        refine Rk.sp (G_aload_n (pc := 42) 0 rfl rfl dX9_says_42) ?_
        refine Rk.gR (pc := 43) 173 flX9_7 cl9 rfl lb172 dX9_says_43 ?_
        refine Rk.sp (G_sipush (pc := 46) dX9_says_46 rfl) ?_
        refine Rk.sp (G_iload_w (pc := 49) 5 rfl dX9_says_49) ?_
        refine Rk.sp (G_iadd (pc := 51) dX9_says_51) ?_
        refine Rk.al (pc := 52) lb173 dX9_says_52 (fun hi10 => ?_)
        refine Rk.sp (G_aload_n (pc := 53) 0 rfl rfl dX9_says_53) ?_
        refine Rk.gR (pc := 54) 173 flX9_7 cl9 rfl lb172 dX9_says_54 ?_
        refine Rk.sp (G_sipush (pc := 57) dX9_says_57 rfl) ?_
        refine Rk.sp (G_iload_w (pc := 60) 5 rfl dX9_says_60) ?_
        refine Rk.sp (G_iadd (pc := 62) dX9_says_62) ?_
        refine Rk.al (pc := 63) lb173 dX9_says_63 (fun hi11 => ?_)
        refine Rk.cI (pc := 64) (Cl.v [vi 0, vi (σ7 173 ((1333 + v5_1)).toNat), vi (σ7 173 ((1349 + v5_1)).toNat)] [] dX9_says_64 ckX9_305 lb172 rfl rfl rfl (Nat.le_of_ble_eq_true rfl) (Nat.le_of_ble_eq_true rfl)) (k_Mo_comesTo 0 (σ7 173 ((1333 + v5_1)).toNat) (σ7 173 ((1349 + v5_1)).toNat) σ7 (inRk 0 rfl) (hσ7 _ _) (hσ7 _ _) hσ7) (fun r12 σ13 hr12 hσ13 => ?_)
        refine Rk.sp (G_iload_n (pc := 67) 3 rfl rfl dX9_says_67) ?_
        refine Rk.sp (G_iload_w (pc := 68) 4 rfl dX9_says_68) ?_
        refine Rk.cRI (pc := 70) (Cl.s [vi r12, vi a3, vi a4] [] dX9_says_70 ckX9_311 rfl rfl (Nat.le_of_ble_eq_true rfl) (Nat.le_of_ble_eq_true rfl)) (k_Mo_held r12 a3 a4 hr12 ha3 ha4) (fun r14 hr14 => ?_)
        exact Rk.end_ (fun h => G_ireturn (pc := 73) rfl dX9_says_73 (q_I h hr14 hσ13))
    · refine Rk.inc (pc := 74) 5 (fun v5_15 => [some (vr 172), some (vi a1), some (vi a2), some (vi a3), some (vi a4), some (vi v5_15)]) rfl (Nat.le_of_ble_eq_true rfl) rfl dX9_says_74 (fun _ => rfl) (fun v5_15 hv5_15 => ?_)
      refine Rk.sp (G_goto (pc := 77) (tgt := 3) dX9_says_77 rfl) ?_
      exact Rk.end_ (fun h => h ⟨hv5_15, hσ2⟩)
  · refine Rk.sp (G_iload_n (pc := 80) 2 rfl rfl dX9_says_80) ?_
    refine Rk.sp (G_iload_n (pc := 81) 3 rfl rfl dX9_says_81) ?_
    refine Rk.sp (G_iload_w (pc := 82) 4 rfl dX9_says_82) ?_
    refine Rk.cRI (pc := 84) (Cl.s [vi a2, vi a3, vi a4] [] dX9_says_84 ckX9_311 rfl rfl (Nat.le_of_ble_eq_true rfl) (Nat.le_of_ble_eq_true rfl)) (k_Mo_held a2 a3 a4 ha2 ha3 ha4) (fun r16 hr16 => ?_)
    exact Rk.end_ (fun h => G_ireturn (pc := 87) rfl dX9_says_87 (q_I h hr16 hσ2))
theorem k_Mo_hurtNow {κ : Kx} {μ : Sg} (σ : Sg) (hok : okS σ) : CtI κ mX9_hurtNow 4 [vr 172] true μ σ (Mo_hurtNow σ) := by
  intro r τ h
  refine con_of (by decide) (Nat.le_of_ble_eq_true rfl) 0 ?_
  refine (?_ : Rk κ mX9_hurtNow _ 0 [some (vr 172)] [] (ms true μ σ) (Mo_hurtNow σ) (fun a => a = (r, τ))) _ h rfl
  unfold Mo_hurtNow
  refine Rk.sp (G_aload_n (pc := 0) 0 rfl rfl dX9_hurtNow_0) ?_
  refine Rk.sp (G_bipush (pc := 1) dX9_hurtNow_1 rfl) ?_
  refine Rk.sp (G_iconst (pc := 3) dX9_hurtNow_3) ?_
  refine Rk.sp (G_aload_n (pc := 4) 0 rfl rfl dX9_hurtNow_4) ?_
  refine Rk.gR (pc := 5) 182 flX9_37 cl9 rfl lb172 dX9_hurtNow_5 ?_
  refine Rk.sp (G_bipush (pc := 8) dX9_hurtNow_8 rfl) ?_
  refine Rk.alc (pc := 10) 6 rfl (Nat.le_of_ble_eq_true rfl) lb182 dX9_hurtNow_10 ?_
  refine Rk.sp (G_imul (pc := 11) dX9_hurtNow_11) ?_
  refine Rk.sp (G_bipush (pc := 12) dX9_hurtNow_12 rfl) ?_
  refine Rk.sp (G_bipush (pc := 14) dX9_hurtNow_14 rfl) ?_
  refine Rk.sp (Go.n2 (nmW _)) ?_
  refine Rk.cI (pc := 16) (Cl.v [vi 23, vi (wr (5 * (σ 182 6))), vi (-50), vi 50] [] dX9_hurtNow_16 ckX9_327 lb172 rfl rfl rfl (Nat.le_of_ble_eq_true rfl) (Nat.le_of_ble_eq_true rfl)) (k_Mo_says 23 (wr (5 * (σ 182 6))) (-50) 50 σ (inRk 23 rfl) (wrR _) (inRk (-50) rfl) (inRk 50 rfl) hok) (fun r1 σ2 hr1 hσ2 => ?_)
  exact Rk.end_ (fun h => G_ireturn (pc := 19) rfl dX9_hurtNow_19 (q_I h hr1 hσ2))
theorem k_Mo_goNow {κ : Kx} {μ : Sg} (σ : Sg) (hok : okS σ) : CtI κ mX9_goNow 4 [vr 172] true μ σ (Mo_goNow σ) := by
  intro r τ h
  refine con_of (by decide) (Nat.le_of_ble_eq_true rfl) 0 ?_
  refine (?_ : Rk κ mX9_goNow _ 0 [some (vr 172)] [] (ms true μ σ) (Mo_goNow σ) (fun a => a = (r, τ))) _ h rfl
  unfold Mo_goNow
  refine Rk.sp (G_aload_n (pc := 0) 0 rfl rfl dX9_goNow_0) ?_
  refine Rk.sp (G_bipush (pc := 1) dX9_goNow_1 rfl) ?_
  refine Rk.sp (G_sipush (pc := 3) dX9_goNow_3 rfl) ?_
  refine Rk.sp (G_iconst (pc := 6) dX9_goNow_6) ?_
  refine Rk.sp (G_sipush (pc := 7) dX9_goNow_7 rfl) ?_
  refine Rk.cI (pc := 10) (Cl.v [vi 24, vi 900, vi 0, vi 1000] [] dX9_goNow_10 ckX9_327 lb172 rfl rfl rfl (Nat.le_of_ble_eq_true rfl) (Nat.le_of_ble_eq_true rfl)) (k_Mo_says 24 900 0 1000 σ (inRk 24 rfl) (inRk 900 rfl) (inRk 0 rfl) (inRk 1000 rfl) hok) (fun r1 σ2 hr1 hσ2 => ?_)
  exact Rk.end_ (fun h => G_ireturn (pc := 13) rfl dX9_goNow_13 (q_I h hr1 hσ2))
theorem k_Mo_draw {κ : Kx} {μ : Sg} (a1 : Int) (σ : Sg) (ha1 : inR a1) (hok : okS σ) : CtI κ mX9_draw 0 [vr 172, vi a1] true μ σ (Mo_draw a1 σ) := by
  intro r τ h
  refine con_of (by decide) (Nat.le_of_ble_eq_true rfl) 0 ?_
  refine (?_ : Rk κ mX9_draw _ 0 [some (vr 172), some (vi a1)] [] (ms true μ σ) (Mo_draw a1 σ) (fun a => a = (r, τ))) _ h rfl
  unfold Mo_draw
  refine Rk.sp (G_aload_n (pc := 0) 0 rfl rfl dX9_draw_0) ?_
  refine Rk.gR (pc := 1) 173 flX9_7 cl9 rfl lb172 dX9_draw_1 ?_
  refine Rk.sp (G_iconst (pc := 4) dX9_draw_4) ?_
  refine Rk.sp (G_ldc (pc := 5) (n := 1664525) dX9_draw_5 conX9_89 (by decide)) ?_
  refine Rk.sp (G_aload_n (pc := 7) 0 rfl rfl dX9_draw_7) ?_
  refine Rk.gR (pc := 8) 173 flX9_7 cl9 rfl lb172 dX9_draw_8 ?_
  refine Rk.sp (G_iconst (pc := 11) dX9_draw_11) ?_
  refine Rk.alc (pc := 12) 1 rfl (Nat.le_of_ble_eq_true rfl) lb173 dX9_draw_12 ?_
  refine Rk.sp (G_imul (pc := 13) dX9_draw_13) ?_
  refine Rk.sp (G_ldc (pc := 14) (n := 1013904223) dX9_draw_14 conX9_90 (by decide)) ?_
  refine Rk.sp (G_iadd (pc := 16) dX9_draw_16) ?_
  refine Rk.asc (pc := 17) hok (nmW _) 1 rfl (Nat.le_of_ble_eq_true rfl) lb173 dX9_draw_17 (fun σ1 hσ1 => ?_)
  refine Rk.sp (G_aload_n (pc := 18) 0 rfl rfl dX9_draw_18) ?_
  refine Rk.gR (pc := 19) 173 flX9_7 cl9 rfl lb172 dX9_draw_19 ?_
  refine Rk.sp (G_iconst (pc := 22) dX9_draw_22) ?_
  refine Rk.alc (pc := 23) 1 rfl (Nat.le_of_ble_eq_true rfl) lb173 dX9_draw_23 ?_
  refine Rk.sp (G_bipush (pc := 24) dX9_draw_24 rfl) ?_
  refine Rk.sp (G_iushr (pc := 26) dX9_draw_26) ?_
  refine Rk.sp (G_iload_n (pc := 27) 1 rfl rfl dX9_draw_27) ?_
  refine Rk.qnz (fun hz2 => ?_)
  refine Rk.sp (G_irem (pc := 28) dX9_draw_28 (nmI (bUsh_R _ _)) (nmI ha1) hz2) ?_
  exact Rk.end_ (fun h => G_ireturn (pc := 29) rfl dX9_draw_29 (q_I h (tmodR (bUsh_R _ _)) hσ1))
theorem k_Mo_delayNow {κ : Kx} {μ : Sg} (σ : Sg) (hok : okS σ) : CtI κ mX9_delayNow 4 [vr 172] true μ σ (Mo_delayNow σ) := by
  intro r τ h
  refine con_of (by decide) (Nat.le_of_ble_eq_true rfl) 0 ?_
  refine (?_ : Rk κ mX9_delayNow _ 0 [some (vr 172)] [] (ms true μ σ) (Mo_delayNow σ) (fun a => a = (r, τ))) _ h rfl
  unfold Mo_delayNow
  refine Rk.sp (G_aload_n (pc := 0) 0 rfl rfl dX9_delayNow_0) ?_
  refine Rk.sp (G_bipush (pc := 1) dX9_delayNow_1 rfl) ?_
  refine Rk.sp (G_aload_n (pc := 3) 0 rfl rfl dX9_delayNow_3) ?_
  refine Rk.gR (pc := 4) 182 flX9_37 cl9 rfl lb172 dX9_delayNow_4 ?_
  refine Rk.sp (G_iconst (pc := 7) dX9_delayNow_7) ?_
  refine Rk.alc (pc := 8) 3 rfl (Nat.le_of_ble_eq_true rfl) lb182 dX9_delayNow_8 ?_
  refine Rk.sp (G_iconst (pc := 9) dX9_delayNow_9) ?_
  refine Rk.sp (G_sipush (pc := 10) dX9_delayNow_10 rfl) ?_
  refine Rk.cI (pc := 13) (Cl.v [vi 20, vi (σ 182 3), vi 1, vi 999] [] dX9_delayNow_13 ckX9_327 lb172 rfl rfl rfl (Nat.le_of_ble_eq_true rfl) (Nat.le_of_ble_eq_true rfl)) (k_Mo_says 20 (σ 182 3) 1 999 σ (inRk 20 rfl) (hok _ _) (inRk 1 rfl) (inRk 999 rfl) hok) (fun r1 σ2 hr1 hσ2 => ?_)
  exact Rk.end_ (fun h => G_ireturn (pc := 16) rfl dX9_delayNow_16 (q_I h hr1 hσ2))
theorem k_Mo_reads0 {κ : Kx} {μ : Sg} (a1 : Int) (σ : Sg) (ha1 : inR a1) (hok : okS σ) : CtV κ mX9_reads0 5 [vr 172, vi a1] true μ σ (Mo_reads0 a1 σ) := by
  intro τ h
  refine con_of (by decide) (Nat.le_of_ble_eq_true rfl) 3 ?_
  refine (?_ : Rk κ mX9_reads0 _ 0 [some (vr 172), some (vi a1), none, none, none] [] (ms true μ σ) (Mo_reads0 a1 σ) (fun a => a = τ)) _ h rfl
  unfold Mo_reads0
  refine Rk.sp (G_aload_n (pc := 0) 0 rfl rfl dX9_reads0_0) ?_
  refine Rk.sp (G_iload_n (pc := 1) 1 rfl rfl dX9_reads0_1) ?_
  refine Rk.cRI (pc := 2) (Cl.v [vi a1] [] dX9_reads0_2 ckX9_320 lb172 rfl rfl rfl (Nat.le_of_ble_eq_true rfl) (Nat.le_of_ble_eq_true rfl)) (k_Mo_goesTo a1 σ ha1 hok) (fun r1 hr1 => ?_)
  refine Rk.isa_n (pc := 5) 2 (L' := [some (vr 172), some (vi a1), some (vi r1), none, none]) rfl (Nat.le_of_ble_eq_true rfl) rfl dX9_reads0_5 rfl ?_
  refine Rk.sp (G_aload_n (pc := 6) 0 rfl rfl dX9_reads0_6) ?_
  refine Rk.sp (G_iload_n (pc := 7) 1 rfl rfl dX9_reads0_7) ?_
  refine Rk.sp (G_iconst (pc := 8) dX9_reads0_8) ?_
  refine Rk.sp (G_aload_n (pc := 9) 0 rfl rfl dX9_reads0_9) ?_
  refine Rk.gR (pc := 10) 173 flX9_7 cl9 rfl lb172 dX9_reads0_10 ?_
  refine Rk.sp (G_iconst (pc := 13) dX9_reads0_13) ?_
  refine Rk.alc (pc := 14) 0 rfl (Nat.le_of_ble_eq_true rfl) lb173 dX9_reads0_14 ?_
  refine Rk.cV (pc := 15) (Cl.v [vi a1, vi 2, vi (σ 173 0)] [] dX9_reads0_15 ckX9_334 lb172 rfl rfl rfl (Nat.le_of_ble_eq_true rfl) (Nat.le_of_ble_eq_true rfl)) (k_Mo_puts0 a1 2 (σ 173 0) σ ha1 (inRk 2 rfl) (hok _ _) hok) (fun σ2 hσ2 => ?_)
  refine Rk.sp (G_aload_n (pc := 18) 0 rfl rfl dX9_reads0_18) ?_
  refine Rk.sp (G_iconst (pc := 19) dX9_reads0_19) ?_
  refine Rk.sp (G_iload_n (pc := 20) 2 rfl rfl dX9_reads0_20) ?_
  refine Rk.sp (G_iload_n (pc := 21) 1 rfl rfl dX9_reads0_21) ?_
  refine Rk.cV (pc := 22) (Cl.v [vi 1, vi r1, vi a1] [] dX9_reads0_22 ckX9_342 lb172 rfl rfl rfl (Nat.le_of_ble_eq_true rfl) (Nat.le_of_ble_eq_true rfl)) (k_Mo_notes 1 r1 a1 σ2 (inRk 1 rfl) hr1 ha1 hσ2) (fun σ3 hσ3 => ?_)
  refine Rk.sp (G_aload_n (pc := 25) 0 rfl rfl dX9_reads0_25) ?_
  refine Rk.sp (G_iload_n (pc := 26) 1 rfl rfl dX9_reads0_26) ?_
  refine Rk.cV (pc := 27) (Cl.v [vi a1] [] dX9_reads0_27 ckX9_364 lb172 rfl rfl rfl (Nat.le_of_ble_eq_true rfl) (Nat.le_of_ble_eq_true rfl)) (k_Mo_laysMessage a1 σ3 ha1 hσ3) (fun σ4 hσ4 => ?_)
  refine Rk.sp (G_aload_n (pc := 30) 0 rfl rfl dX9_reads0_30) ?_
  refine Rk.gR (pc := 31) 173 flX9_7 cl9 rfl lb172 dX9_reads0_31 ?_
  refine Rk.sp (G_iconst (pc := 34) dX9_reads0_34) ?_
  refine Rk.sp (G_iload_n (pc := 35) 2 rfl rfl dX9_reads0_35) ?_
  refine Rk.sp (G_iadd (pc := 36) dX9_reads0_36) ?_
  refine Rk.sp (G_aload_n (pc := 37) 0 rfl rfl dX9_reads0_37) ?_
  refine Rk.gR (pc := 38) 173 flX9_7 cl9 rfl lb172 dX9_reads0_38 ?_
  refine Rk.sp (G_iconst (pc := 41) dX9_reads0_41) ?_
  refine Rk.sp (G_iload_n (pc := 42) 2 rfl rfl dX9_reads0_42) ?_
  refine Rk.sp (G_iadd (pc := 43) dX9_reads0_43) ?_
  refine Rk.al (pc := 44) lb173 dX9_reads0_44 (fun hi5 => ?_)
  refine Rk.sp (G_aload_n (pc := 45) 0 rfl rfl dX9_reads0_45) ?_
  refine Rk.cI (pc := 46) (Cl.v [] [vi (σ4 173 ((4 + r1)).toNat), vi (4 + r1), vr 173] dX9_reads0_46 ckX9_367 lb172 rfl rfl rfl (Nat.le_of_ble_eq_true rfl) (Nat.le_of_ble_eq_true rfl)) (k_Mo_hurtNow σ4 hσ4) (fun r6 σ7 hr6 hσ7 => ?_)
  refine Rk.sp (G_iadd (pc := 49) dX9_reads0_49) ?_
  refine Rk.sp (G_iconst (pc := 50) dX9_reads0_50) ?_
  refine Rk.sp (G_bipush (pc := 51) dX9_reads0_51 rfl) ?_
  refine Rk.sp (Go.n2 (nmW _)) ?_
  refine Rk.cRI (pc := 53) (Cl.s [vi (wr ((σ4 173 ((4 + r1)).toNat) + r6)), vi 0, vi 99] [vi (4 + r1), vr 173] dX9_reads0_53 ckX9_311 rfl rfl (Nat.le_of_ble_eq_true rfl) (Nat.le_of_ble_eq_true rfl)) (k_Mo_held (wr ((σ4 173 ((4 + r1)).toNat) + r6)) 0 99 (wrR _) (inRk 0 rfl) (inRk 99 rfl)) (fun r8 hr8 => ?_)
  refine Rk.as (pc := 56) hσ7 (nmI hr8) lb173 dX9_reads0_56 (fun hi10 σ9 hσ9 => ?_)
  refine Rk.sp (G_aload_n (pc := 57) 0 rfl rfl dX9_reads0_57) ?_
  refine Rk.sp (G_iload_n (pc := 58) 1 rfl rfl dX9_reads0_58) ?_
  refine Rk.cV (pc := 59) (Cl.v [vi a1] [] dX9_reads0_59 ckX9_364 lb172 rfl rfl rfl (Nat.le_of_ble_eq_true rfl) (Nat.le_of_ble_eq_true rfl)) (k_Mo_laysMessage a1 σ9 ha1 hσ9) (fun σ11 hσ11 => ?_)
  refine Rk.sp (G_aload_n (pc := 62) 0 rfl rfl dX9_reads0_62) ?_
  refine Rk.cI (pc := 63) (Cl.v [] [] dX9_reads0_63 ckX9_370 lb172 rfl rfl rfl (Nat.le_of_ble_eq_true rfl) (Nat.le_of_ble_eq_true rfl)) (k_Mo_goNow σ11 hσ11) (fun r12 σ13 hr12 hσ13 => ?_)
  refine Rk.isa_n (pc := 66) 3 (L' := [some (vr 172), some (vi a1), some (vi r1), some (vi r12), none]) rfl (Nat.le_of_ble_eq_true rfl) rfl dX9_reads0_66 rfl ?_
  refine Rk.sp (G_aload_n (pc := 67) 0 rfl rfl dX9_reads0_67) ?_
  refine Rk.gI (pc := 68) flX9_330 cl9 rfl lb172 dX9_reads0_68 ?_
  refine Rk.join (P := fun p => inR p.1 ∧ okS p.2) (pcj := 105) (fun p => [some (vr 172), some (vi a1), some (vi r1), none, none]) (fun p => [vi p.1]) (fun p => (ms true μ p.2)) ?_ (fun p hp => ?_)
  · refine Rk.if_eq (pc := 71) (tgt := 93) dX9_reads0_71 (nmI (hσ13 _ _)) rfl (fun hc14 => ?_) (fun hc14 => ?_)
    · refine Rk.sp (G_iload_n (pc := 93) 3 rfl rfl dX9_reads0_93) ?_
      refine Rk.sp (G_sipush (pc := 94) dX9_reads0_94 rfl) ?_
      refine Rk.icmp_lt (pc := 97) (tgt := 104) dX9_reads0_97 (nmI hr12) (nmI (inRk 500 rfl)) rfl (fun hc17 => ?_) (fun hc17 => ?_)
      · refine Rk.sp (G_iconst (pc := 104) dX9_reads0_104) ?_
        refine Rk.fg [true, true, true, false, false] (L' := [some (vr 172), some (vi a1), some (vi r1), none, none]) rfl ?_
        exact Rk.end_ (fun h => h ⟨(inRk 0 rfl), hσ13⟩)
      · refine Rk.sp (G_iconst (pc := 100) dX9_reads0_100) ?_
        refine Rk.sp (G_goto (pc := 101) (tgt := 105) dX9_reads0_101 rfl) ?_
        refine Rk.fg [true, true, true, false, false] (L' := [some (vr 172), some (vi a1), some (vi r1), none, none]) rfl ?_
        exact Rk.end_ (fun h => h ⟨(inRk 1 rfl), hσ13⟩)
    · refine Rk.sp (G_aload_n (pc := 74) 0 rfl rfl dX9_reads0_74) ?_
      refine Rk.sp (G_sipush (pc := 75) dX9_reads0_75 rfl) ?_
      refine Rk.cI (pc := 78) (Cl.v [vi 1000] [] dX9_reads0_78 ckX9_373 lb172 rfl rfl rfl (Nat.le_of_ble_eq_true rfl) (Nat.le_of_ble_eq_true rfl)) (k_Mo_draw 1000 σ13 (inRk 1000 rfl) hσ13) (fun r18 σ19 hr18 hσ19 => ?_)
      refine Rk.sp (G_iload_n (pc := 81) 3 rfl rfl dX9_reads0_81) ?_
      refine Rk.icmp_ge (pc := 82) (tgt := 89) dX9_reads0_82 (nmI hr18) (nmI hr12) rfl (fun hc20 => ?_) (fun hc20 => ?_)
      · refine Rk.sp (G_iconst (pc := 85) dX9_reads0_85) ?_
        refine Rk.sp (G_goto (pc := 86) (tgt := 105) dX9_reads0_86 rfl) ?_
        refine Rk.fg [true, true, true, false, false] (L' := [some (vr 172), some (vi a1), some (vi r1), none, none]) rfl ?_
        exact Rk.end_ (fun h => h ⟨(inRk 1 rfl), hσ19⟩)
      · refine Rk.sp (G_iconst (pc := 89) dX9_reads0_89) ?_
        refine Rk.sp (G_goto (pc := 90) (tgt := 105) dX9_reads0_90 rfl) ?_
        refine Rk.fg [true, true, true, false, false] (L' := [some (vr 172), some (vi a1), some (vi r1), none, none]) rfl ?_
        exact Rk.end_ (fun h => h ⟨(inRk 0 rfl), hσ19⟩)
  · obtain ⟨t15, σ16⟩ := p
    obtain ⟨ht15, hσ16⟩ := hp
    try dsimp only
    refine Rk.isa_w (pc := 105) 4 (L' := [some (vr 172), some (vi a1), some (vi r1), none, some (vi t15)]) (Nat.le_of_ble_eq_true rfl) rfl dX9_reads0_105 rfl ?_
    refine Rk.sp (G_iload_w (pc := 107) 4 rfl dX9_reads0_107) ?_
    refine Rk.if_eq (pc := 109) (tgt := 145) dX9_reads0_109 (nmI ht15) rfl (fun hc21 => ?_) (fun hc21 => ?_)
    · exact Rk.end_ (fun h => G_return (pc := 145) rfl dX9_reads0_145 (q_V h hσ16))
    · refine Rk.sp (G_aload_n (pc := 112) 0 rfl rfl dX9_reads0_112) ?_
      refine Rk.sp (G_iload_n (pc := 113) 1 rfl rfl dX9_reads0_113) ?_
      refine Rk.sp (G_bipush (pc := 114) dX9_reads0_114 rfl) ?_
      refine Rk.sp (G_aload_n (pc := 116) 0 rfl rfl dX9_reads0_116) ?_
      refine Rk.gR (pc := 117) 173 flX9_7 cl9 rfl lb172 dX9_reads0_117 ?_
      refine Rk.sp (G_iconst (pc := 120) dX9_reads0_120) ?_
      refine Rk.alc (pc := 121) 0 rfl (Nat.le_of_ble_eq_true rfl) lb173 dX9_reads0_121 ?_
      refine Rk.sp (G_iload_n (pc := 122) 2 rfl rfl dX9_reads0_122) ?_
      refine Rk.sp (G_aload_n (pc := 123) 0 rfl rfl dX9_reads0_123) ?_
      refine Rk.gI (pc := 124) flX9_44 cl9 rfl lb172 dX9_reads0_124 ?_
      refine Rk.join (P := fun p => inR p.1 ∧ okS p.2) (pcj := 141) (fun p => [none, none, none, none, none]) (fun p => [vi p.1, vi (σ16 173 0), vi 8, vi a1, vr 172]) (fun p => (ms true μ p.2)) ?_ (fun p hp => ?_)
      · refine Rk.icmp_ne (pc := 127) (tgt := 137) dX9_reads0_127 (nmI hr1) (nmI (hσ16 _ _)) rfl (fun hc22 => ?_) (fun hc22 => ?_)
        · refine Rk.sp (G_aload_n (pc := 130) 0 rfl rfl dX9_reads0_130) ?_
          refine Rk.gI (pc := 131) flX9_376 cl9 rfl lb172 dX9_reads0_131 ?_
          refine Rk.sp (G_goto (pc := 134) (tgt := 141) dX9_reads0_134 rfl) ?_
          refine Rk.fg [false, false, false, false, false] (L' := [none, none, none, none, none]) rfl ?_
          exact Rk.end_ (fun h => h ⟨(hσ16 _ _), hσ16⟩)
        · refine Rk.sp (G_aload_n (pc := 137) 0 rfl rfl dX9_reads0_137) ?_
          refine Rk.cI (pc := 138) (Cl.v [] [vi (σ16 173 0), vi 8, vi a1, vr 172] dX9_reads0_138 ckX9_379 lb172 rfl rfl rfl (Nat.le_of_ble_eq_true rfl) (Nat.le_of_ble_eq_true rfl)) (k_Mo_delayNow σ16 hσ16) (fun r25 σ26 hr25 hσ26 => ?_)
          refine Rk.fg [false, false, false, false, false] (L' := [none, none, none, none, none]) rfl ?_
          exact Rk.end_ (fun h => h ⟨hr25, hσ26⟩)
      · obtain ⟨t23, σ24⟩ := p
        obtain ⟨ht23, hσ24⟩ := hp
        try dsimp only
        refine Rk.sp (G_iadd (pc := 141) dX9_reads0_141) ?_
        refine Rk.sp (Go.n0 (nmW _)) ?_
        refine Rk.cV (pc := 142) (Cl.v [vi a1, vi 8, vi (wr ((σ16 173 0) + t23))] [] dX9_reads0_142 ckX9_334 lb172 rfl rfl rfl (Nat.le_of_ble_eq_true rfl) (Nat.le_of_ble_eq_true rfl)) (k_Mo_puts0 a1 8 (wr ((σ16 173 0) + t23)) σ24 ha1 (inRk 8 rfl) (wrR _) hσ24) (fun σ27 hσ27 => ?_)
        exact Rk.end_ (fun h => G_return (pc := 145) rfl dX9_reads0_145 (q_V h hσ27))
theorem k_Mo_lastsNow {κ : Kx} {μ : Sg} (σ : Sg) (hok : okS σ) : CtI κ mX9_lastsNow 4 [vr 172] true μ σ (Mo_lastsNow σ) := by
  intro r τ h
  refine con_of (by decide) (Nat.le_of_ble_eq_true rfl) 0 ?_
  refine (?_ : Rk κ mX9_lastsNow _ 0 [some (vr 172)] [] (ms true μ σ) (Mo_lastsNow σ) (fun a => a = (r, τ))) _ h rfl
  unfold Mo_lastsNow
  refine Rk.sp (G_aload_n (pc := 0) 0 rfl rfl dX9_lastsNow_0) ?_
  refine Rk.sp (G_bipush (pc := 1) dX9_lastsNow_1 rfl) ?_
  refine Rk.sp (G_aload_n (pc := 3) 0 rfl rfl dX9_lastsNow_3) ?_
  refine Rk.gR (pc := 4) 182 flX9_37 cl9 rfl lb172 dX9_lastsNow_4 ?_
  refine Rk.sp (G_iconst (pc := 7) dX9_lastsNow_7) ?_
  refine Rk.alc (pc := 8) 4 rfl (Nat.le_of_ble_eq_true rfl) lb182 dX9_lastsNow_8 ?_
  refine Rk.sp (G_iconst (pc := 9) dX9_lastsNow_9) ?_
  refine Rk.sp (G_idiv (pc := 10) dX9_lastsNow_10 (nmI (hok _ _)) (nmI (inRk 2 rfl)) (by decide)) ?_
  refine Rk.sp (G_iconst (pc := 11) dX9_lastsNow_11) ?_
  refine Rk.sp (G_iadd (pc := 12) dX9_lastsNow_12) ?_
  refine Rk.sp (G_iconst (pc := 13) dX9_lastsNow_13) ?_
  refine Rk.sp (G_bipush (pc := 14) dX9_lastsNow_14 rfl) ?_
  refine Rk.sp (Go.n2 (nmW _)) ?_
  refine Rk.cI (pc := 16) (Cl.v [vi 21, vi (wr ((Int.tdiv (σ 182 4) 2) + 1)), vi 1, vi 99] [] dX9_lastsNow_16 ckX9_327 lb172 rfl rfl rfl (Nat.le_of_ble_eq_true rfl) (Nat.le_of_ble_eq_true rfl)) (k_Mo_says 21 (wr ((Int.tdiv (σ 182 4) 2) + 1)) 1 99 σ (inRk 21 rfl) (wrR _) (inRk 1 rfl) (inRk 99 rfl) hok) (fun r1 σ2 hr1 hσ2 => ?_)
  exact Rk.end_ (fun h => G_ireturn (pc := 19) rfl dX9_lastsNow_19 (q_I h hr1 hσ2))
theorem k_Mo_kissNow {κ : Kx} {μ : Sg} (σ : Sg) (hok : okS σ) : CtI κ mX9_kissNow 4 [vr 172] true μ σ (Mo_kissNow σ) := by
  intro r τ h
  refine con_of (by decide) (Nat.le_of_ble_eq_true rfl) 0 ?_
  refine (?_ : Rk κ mX9_kissNow _ 0 [some (vr 172)] [] (ms true μ σ) (Mo_kissNow σ) (fun a => a = (r, τ))) _ h rfl
  unfold Mo_kissNow
  refine Rk.sp (G_aload_n (pc := 0) 0 rfl rfl dX9_kissNow_0) ?_
  refine Rk.sp (G_bipush (pc := 1) dX9_kissNow_1 rfl) ?_
  refine Rk.sp (G_aload_n (pc := 3) 0 rfl rfl dX9_kissNow_3) ?_
  refine Rk.gR (pc := 4) 182 flX9_37 cl9 rfl lb172 dX9_kissNow_4 ?_
  refine Rk.sp (G_iconst (pc := 7) dX9_kissNow_7) ?_
  refine Rk.alc (pc := 8) 5 rfl (Nat.le_of_ble_eq_true rfl) lb182 dX9_kissNow_8 ?_
  refine Rk.sp (G_iconst (pc := 9) dX9_kissNow_9) ?_
  refine Rk.sp (G_bipush (pc := 10) dX9_kissNow_10 rfl) ?_
  refine Rk.cI (pc := 12) (Cl.v [vi 22, vi (σ 182 5), vi 0, vi 9] [] dX9_kissNow_12 ckX9_327 lb172 rfl rfl rfl (Nat.le_of_ble_eq_true rfl) (Nat.le_of_ble_eq_true rfl)) (k_Mo_says 22 (σ 182 5) 0 9 σ (inRk 22 rfl) (hok _ _) (inRk 0 rfl) (inRk 9 rfl) hok) (fun r1 σ2 hr1 hσ2 => ?_)
  exact Rk.end_ (fun h => G_ireturn (pc := 15) rfl dX9_kissNow_15 (q_I h hr1 hσ2))
theorem k_Mo_answers {κ : Kx} {μ : Sg} (a1 : Int) (σ : Sg) (ha1 : inR a1) (hok : okS σ) : CtV κ mX9_answers 5 [vr 172, vi a1] true μ σ (Mo_answers a1 σ) := by
  intro τ h
  refine con_of (by decide) (Nat.le_of_ble_eq_true rfl) 4 ?_
  refine (?_ : Rk κ mX9_answers _ 0 [some (vr 172), some (vi a1), none, none, none, none] [] (ms true μ σ) (Mo_answers a1 σ) (fun a => a = τ)) _ h rfl
  unfold Mo_answers
  refine Rk.sp (G_aload_n (pc := 0) 0 rfl rfl dX9_answers_0) ?_
  refine Rk.sp (G_iload_n (pc := 1) 1 rfl rfl dX9_answers_1) ?_
  refine Rk.cRI (pc := 2) (Cl.v [vi a1] [] dX9_answers_2 ckX9_320 lb172 rfl rfl rfl (Nat.le_of_ble_eq_true rfl) (Nat.le_of_ble_eq_true rfl)) (k_Mo_goesTo a1 σ ha1 hok) (fun r1 hr1 => ?_)
  refine Rk.isa_n (pc := 5) 2 (L' := [some (vr 172), some (vi a1), some (vi r1), none, none, none]) rfl (Nat.le_of_ble_eq_true rfl) rfl dX9_answers_5 rfl ?_
  refine Rk.sp (G_aload_n (pc := 6) 0 rfl rfl dX9_answers_6) ?_
  refine Rk.sp (G_iload_n (pc := 7) 1 rfl rfl dX9_answers_7) ?_
  refine Rk.sp (G_bipush (pc := 8) dX9_answers_8 rfl) ?_
  refine Rk.sp (G_iconst (pc := 10) dX9_answers_10) ?_
  refine Rk.cV (pc := 11) (Cl.v [vi a1, vi 8, vi (-1)] [] dX9_answers_11 ckX9_334 lb172 rfl rfl rfl (Nat.le_of_ble_eq_true rfl) (Nat.le_of_ble_eq_true rfl)) (k_Mo_puts0 a1 8 (-1) σ ha1 (inRk 8 rfl) (inRk (-1) rfl) hok) (fun σ2 hσ2 => ?_)
  refine Rk.sp (G_aload_n (pc := 14) 0 rfl rfl dX9_answers_14) ?_
  refine Rk.gR (pc := 15) 173 flX9_7 cl9 rfl lb172 dX9_answers_15 ?_
  refine Rk.sp (G_iconst (pc := 18) dX9_answers_18) ?_
  refine Rk.alc (pc := 19) 3 rfl (Nat.le_of_ble_eq_true rfl) lb173 dX9_answers_19 ?_
  refine Rk.sp (G_bipush (pc := 20) dX9_answers_20 rfl) ?_
  refine Rk.icmp_ne (pc := 22) (tgt := 26) dX9_answers_22 (nmI (hσ2 _ _)) (nmI (inRk 60 rfl)) rfl (fun hc3 => ?_) (fun hc3 => ?_)
  · exact Rk.end_ (fun h => G_return (pc := 25) rfl dX9_answers_25 (q_V h hσ2))
  · refine Rk.sp (G_aload_n (pc := 26) 0 rfl rfl dX9_answers_26) ?_
    refine Rk.sp (G_iload_n (pc := 27) 1 rfl rfl dX9_answers_27) ?_
    refine Rk.cV (pc := 28) (Cl.v [vi a1] [] dX9_answers_28 ckX9_364 lb172 rfl rfl rfl (Nat.le_of_ble_eq_true rfl) (Nat.le_of_ble_eq_true rfl)) (k_Mo_laysMessage a1 σ2 ha1 hσ2) (fun σ4 hσ4 => ?_)
    refine Rk.sp (G_aload_n (pc := 31) 0 rfl rfl dX9_answers_31) ?_
    refine Rk.cI (pc := 32) (Cl.v [] [] dX9_answers_32 ckX9_382 lb172 rfl rfl rfl (Nat.le_of_ble_eq_true rfl) (Nat.le_of_ble_eq_true rfl)) (k_Mo_lastsNow σ4 hσ4) (fun r5 σ6 hr5 hσ6 => ?_)
    refine Rk.isa_n (pc := 35) 3 (L' := [some (vr 172), some (vi a1), some (vi r1), some (vi r5), none, none]) rfl (Nat.le_of_ble_eq_true rfl) rfl dX9_answers_35 rfl ?_
    refine Rk.sp (G_aload_n (pc := 36) 0 rfl rfl dX9_answers_36) ?_
    refine Rk.cI (pc := 37) (Cl.v [] [] dX9_answers_37 ckX9_385 lb172 rfl rfl rfl (Nat.le_of_ble_eq_true rfl) (Nat.le_of_ble_eq_true rfl)) (k_Mo_kissNow σ6 hσ6) (fun r7 σ8 hr7 hσ8 => ?_)
    refine Rk.isa_w (pc := 40) 4 (L' := [some (vr 172), some (vi a1), some (vi r1), some (vi r5), some (vi r7), none]) (Nat.le_of_ble_eq_true rfl) rfl dX9_answers_40 rfl ?_
    refine Rk.sp (G_aload_n (pc := 42) 0 rfl rfl dX9_answers_42) ?_
    refine Rk.sp (G_iload_n (pc := 43) 2 rfl rfl dX9_answers_43) ?_
    refine Rk.sp (G_iload_n (pc := 44) 3 rfl rfl dX9_answers_44) ?_
    refine Rk.sp (G_iload_w (pc := 45) 4 rfl dX9_answers_45) ?_
    refine Rk.sp (G_aload_n (pc := 47) 0 rfl rfl dX9_answers_47) ?_
    refine Rk.gR (pc := 48) 173 flX9_7 cl9 rfl lb172 dX9_answers_48 ?_
    refine Rk.sp (G_iconst (pc := 51) dX9_answers_51) ?_
    refine Rk.sp (G_iload_n (pc := 52) 2 rfl rfl dX9_answers_52) ?_
    refine Rk.sp (G_iadd (pc := 53) dX9_answers_53) ?_
    refine Rk.al (pc := 54) lb173 dX9_answers_54 (fun hi9 => ?_)
    refine Rk.sp (G_bipush (pc := 55) dX9_answers_55 rfl) ?_
    refine Rk.join (P := fun p => inR p) (pcj := 65) (fun p => [some (vr 172), some (vi a1), some (vi r1), none, none, none]) (fun p => [vi p, vi r7, vi r5, vi r1, vr 172]) (fun p => (ms true μ σ8)) ?_ (fun p hp => ?_)
    · refine Rk.icmp_lt (pc := 57) (tgt := 64) dX9_answers_57 (nmI (hσ8 _ _)) (nmI (inRk 50 rfl)) rfl (fun hc10 => ?_) (fun hc10 => ?_)
      · refine Rk.sp (G_iconst (pc := 64) dX9_answers_64) ?_
        refine Rk.fg [true, true, true, false, false, false] (L' := [some (vr 172), some (vi a1), some (vi r1), none, none, none]) rfl ?_
        exact Rk.end_ (fun h => h (inRk 0 rfl))
      · refine Rk.sp (G_iconst (pc := 60) dX9_answers_60) ?_
        refine Rk.sp (G_goto (pc := 61) (tgt := 65) dX9_answers_61 rfl) ?_
        refine Rk.fg [true, true, true, false, false, false] (L' := [some (vr 172), some (vi a1), some (vi r1), none, none, none]) rfl ?_
        exact Rk.end_ (fun h => h (inRk 1 rfl))
    · revert hp; revert p; intro t11 ht11
      try dsimp only
      refine Rk.sp (G_iload_n (pc := 65) 1 rfl rfl dX9_answers_65) ?_
      refine Rk.cI (pc := 66) (Cl.v [vi r1, vi r5, vi r7, vi t11, vi a1] [] dX9_answers_66 ckX9_338 lb172 rfl rfl rfl (Nat.le_of_ble_eq_true rfl) (Nat.le_of_ble_eq_true rfl)) (k_Mo_comes r1 r5 r7 t11 a1 σ8 hr1 hr5 hr7 ht11 ha1 hσ8) (fun r12 σ13 hr12 hσ13 => ?_)
      refine Rk.isa_w (pc := 69) 5 (L' := [some (vr 172), some (vi a1), some (vi r1), none, none, some (vi r12)]) (Nat.le_of_ble_eq_true rfl) rfl dX9_answers_69 rfl ?_
      refine Rk.sp (G_aload_n (pc := 71) 0 rfl rfl dX9_answers_71) ?_
      refine Rk.sp (G_iconst (pc := 72) dX9_answers_72) ?_
      refine Rk.sp (G_iload_n (pc := 73) 2 rfl rfl dX9_answers_73) ?_
      refine Rk.sp (G_iload_w (pc := 74) 5 rfl dX9_answers_74) ?_
      refine Rk.cV (pc := 76) (Cl.v [vi 2, vi r1, vi r12] [] dX9_answers_76 ckX9_342 lb172 rfl rfl rfl (Nat.le_of_ble_eq_true rfl) (Nat.le_of_ble_eq_true rfl)) (k_Mo_notes 2 r1 r12 σ13 (inRk 2 rfl) hr1 hr12 hσ13) (fun σ14 hσ14 => ?_)
      refine Rk.sp (G_aload_n (pc := 79) 0 rfl rfl dX9_answers_79) ?_
      refine Rk.gR (pc := 80) 173 flX9_7 cl9 rfl lb172 dX9_answers_80 ?_
      refine Rk.sp (G_bipush (pc := 83) dX9_answers_83 rfl) ?_
      refine Rk.sp (G_iload_n (pc := 85) 2 rfl rfl dX9_answers_85) ?_
      refine Rk.sp (G_isub (pc := 86) dX9_answers_86) ?_
      refine Rk.sp (G_sipush (pc := 87) dX9_answers_87 rfl) ?_
      refine Rk.sp (G_aload_n (pc := 90) 0 rfl rfl dX9_answers_90) ?_
      refine Rk.gR (pc := 91) 173 flX9_7 cl9 rfl lb172 dX9_answers_91 ?_
      refine Rk.sp (G_iconst (pc := 94) dX9_answers_94) ?_
      refine Rk.alc (pc := 95) 0 rfl (Nat.le_of_ble_eq_true rfl) lb173 dX9_answers_95 ?_
      refine Rk.sp (G_aload_n (pc := 96) 0 rfl rfl dX9_answers_96) ?_
      refine Rk.sp (G_iload_n (pc := 97) 1 rfl rfl dX9_answers_97) ?_
      refine Rk.sp (G_iconst (pc := 98) dX9_answers_98) ?_
      refine Rk.cRI (pc := 99) (Cl.v [vi a1, vi 1] [vi (σ14 173 0), vi 9999, vi (7 - r1), vr 173] dX9_answers_99 ckX9_76 lb172 rfl rfl rfl (Nat.le_of_ble_eq_true rfl) (Nat.le_of_ble_eq_true rfl)) (k_Mo_of0 a1 1 σ14 ha1 (inRk 1 rfl) hσ14) (fun r15 hr15 => ?_)
      refine Rk.sp (G_isub (pc := 102) dX9_answers_102) ?_
      refine Rk.sp (Go.n0 (nmW _)) ?_
      refine Rk.cRI (pc := 103) (Cl.s [vi 9999, vi (wr ((σ14 173 0) - r15))] [vi (7 - r1), vr 173] dX9_answers_103 ckX9_65 rfl rfl (Nat.le_of_ble_eq_true rfl) (Nat.le_of_ble_eq_true rfl)) (k_Mo_lesser 9999 (wr ((σ14 173 0) - r15)) (inRk 9999 rfl) (wrR _)) (fun r16 hr16 => ?_)
      refine Rk.as (pc := 106) hσ14 (nmI hr16) lb173 dX9_answers_106 (fun hi18 σ17 hσ17 => ?_)
      exact Rk.end_ (fun h => G_return (pc := 107) rfl dX9_answers_107 (q_V h hσ17))
theorem k_Mo_aMinute {κ : Kx} {μ : Sg} (σ : Sg) (hok : okS σ) : CtI κ mX9_aMinute 6 [vr 172] true μ σ (Mo_aMinute σ) := by
  intro r τ h
  refine con_of (by decide) (Nat.le_of_ble_eq_true rfl) 3 ?_
  refine (?_ : Rk κ mX9_aMinute _ 0 [some (vr 172), none, none, none] [] (ms true μ σ) (Mo_aMinute σ) (fun a => a = (r, τ))) _ h rfl
  unfold Mo_aMinute
  refine Rk.sp (G_aload_n (pc := 0) 0 rfl rfl dX9_aMinute_0) ?_
  refine Rk.gR (pc := 1) 173 flX9_7 cl9 rfl lb172 dX9_aMinute_1 ?_
  refine Rk.sp (G_iconst (pc := 4) dX9_aMinute_4) ?_
  refine Rk.alc (pc := 5) 3 rfl (Nat.le_of_ble_eq_true rfl) lb173 dX9_aMinute_5 ?_
  refine Rk.ist_n (pc := 6) 1 (fun v1_1 => [some (vr 172), some (vi v1_1), none, none]) rfl (Nat.le_of_ble_eq_true rfl) rfl dX9_aMinute_6 (nmI (hok _ _)) (fun _ => rfl) (fun v1_1 hv1_1 => ?_)
  refine Rk.sp (G_iconst (pc := 7) dX9_aMinute_7) ?_
  refine Rk.isa_n (pc := 8) 2 (L' := [some (vr 172), some (vi v1_1), some (vi 0), none]) rfl (Nat.le_of_ble_eq_true rfl) rfl dX9_aMinute_8 rfl ?_
  refine Rk.loop (pc := 9) (B := (fun p => Mo_aMinute_9_b v1_1 p.1 p.2)) (fun p => inR p.1 ∧ okS p.2) (fun p => [some (vr 172), some (vi v1_1), some (vi p.1), none]) (fun p => (ms true μ p.2)) (fun p hp => ?_) (0, σ) ⟨(inRk 0 rfl), hok⟩
  obtain ⟨v2_2, σ3⟩ := p
  obtain ⟨hv2_2, hσ3⟩ := hp
  try dsimp only
  unfold Mo_aMinute_9_b
  refine Rk.sp (G_iload_n (pc := 9) 2 rfl rfl dX9_aMinute_9) ?_
  refine Rk.sp (G_aload_n (pc := 10) 0 rfl rfl dX9_aMinute_10) ?_
  refine Rk.gR (pc := 11) 173 flX9_7 cl9 rfl lb172 dX9_aMinute_11 ?_
  refine Rk.sp (G_sipush (pc := 14) dX9_aMinute_14 rfl) ?_
  refine Rk.alc (pc := 17) 552 rfl (Nat.le_of_ble_eq_true rfl) lb173 dX9_aMinute_17 ?_
  refine Rk.icmp_ge (pc := 18) (tgt := 59) dX9_aMinute_18 (nmI hv2_2) (nmI (hσ3 _ _)) rfl (fun hc4 => ?_) (fun hc4 => ?_)
  · refine Rk.sp (G_aload_n (pc := 21) 0 rfl rfl dX9_aMinute_21) ?_
    refine Rk.gR (pc := 22) 173 flX9_7 cl9 rfl lb172 dX9_aMinute_22 ?_
    refine Rk.sp (G_sipush (pc := 25) dX9_aMinute_25 rfl) ?_
    refine Rk.sp (G_iconst (pc := 28) dX9_aMinute_28) ?_
    refine Rk.sp (G_iload_n (pc := 29) 2 rfl rfl dX9_aMinute_29) ?_
    refine Rk.sp (G_imul (pc := 30) dX9_aMinute_30) ?_
    refine Rk.sp (G_iadd (pc := 31) dX9_aMinute_31) ?_
    refine Rk.al (pc := 32) lb173 dX9_aMinute_32 (fun hi5 => ?_)
    refine Rk.sp (G_aload_n (pc := 33) 0 rfl rfl dX9_aMinute_33) ?_
    refine Rk.gR (pc := 34) 173 flX9_7 cl9 rfl lb172 dX9_aMinute_34 ?_
    refine Rk.sp (G_iconst (pc := 37) dX9_aMinute_37) ?_
    refine Rk.alc (pc := 38) 0 rfl (Nat.le_of_ble_eq_true rfl) lb173 dX9_aMinute_38 ?_
    refine Rk.icmp_ne (pc := 39) (tgt := 53) dX9_aMinute_39 (nmI (hσ3 _ _)) (nmI (hσ3 _ _)) rfl (fun hc6 => ?_) (fun hc6 => ?_)
    · refine Rk.sp (G_aload_n (pc := 42) 0 rfl rfl dX9_aMinute_42) ?_
      refine Rk.sp (G_sipush (pc := 43) dX9_aMinute_43 rfl) ?_
      refine Rk.sp (G_iconst (pc := 46) dX9_aMinute_46) ?_
      refine Rk.sp (G_iload_n (pc := 47) 2 rfl rfl dX9_aMinute_47) ?_
      refine Rk.sp (G_imul (pc := 48) dX9_aMinute_48) ?_
      refine Rk.sp (G_iadd (pc := 49) dX9_aMinute_49) ?_
      refine Rk.sp (Go.n0 (nmW _)) ?_
      refine Rk.cV (pc := 50) (Cl.v [vi (wr (619 + (5 * v2_2)))] [] dX9_aMinute_50 ckX9_388 lb172 rfl rfl rfl (Nat.le_of_ble_eq_true rfl) (Nat.le_of_ble_eq_true rfl)) (k_Mo_doesSaying (wr (619 + (5 * v2_2))) σ3 (wrR _) hσ3) (fun σ7 hσ7 => ?_)
      refine Rk.inc (pc := 53) 2 (fun v2_8 => [some (vr 172), some (vi v1_1), some (vi v2_8), none]) rfl (Nat.le_of_ble_eq_true rfl) rfl dX9_aMinute_53 (fun _ => rfl) (fun v2_8 hv2_8 => ?_)
      refine Rk.sp (G_goto (pc := 56) (tgt := 9) dX9_aMinute_56 rfl) ?_
      exact Rk.end_ (fun h => h ⟨hv2_8, hσ7⟩)
    · refine Rk.inc (pc := 53) 2 (fun v2_9 => [some (vr 172), some (vi v1_1), some (vi v2_9), none]) rfl (Nat.le_of_ble_eq_true rfl) rfl dX9_aMinute_53 (fun _ => rfl) (fun v2_9 hv2_9 => ?_)
      refine Rk.sp (G_goto (pc := 56) (tgt := 9) dX9_aMinute_56 rfl) ?_
      exact Rk.end_ (fun h => h ⟨hv2_9, hσ3⟩)
  · refine Rk.sp (G_iconst (pc := 59) dX9_aMinute_59) ?_
    refine Rk.isa_n (pc := 60) 2 (L' := [some (vr 172), some (vi v1_1), some (vi 0), none]) rfl (Nat.le_of_ble_eq_true rfl) rfl dX9_aMinute_60 rfl ?_
    refine Rk.loop (pc := 61) (B := (fun p => Mo_aMinute_61_b v1_1 p.1 p.2)) (fun p => inR p.1 ∧ okS p.2) (fun p => [some (vr 172), some (vi v1_1), some (vi p.1), none]) (fun p => (ms true μ p.2)) (fun p hp => ?_) (0, σ3) ⟨(inRk 0 rfl), hσ3⟩
    obtain ⟨v2_10, σ11⟩ := p
    obtain ⟨hv2_10, hσ11⟩ := hp
    try dsimp only
    unfold Mo_aMinute_61_b
    refine Rk.sp (G_iload_n (pc := 61) 2 rfl rfl dX9_aMinute_61) ?_
    refine Rk.sp (G_aload_n (pc := 62) 0 rfl rfl dX9_aMinute_62) ?_
    refine Rk.gR (pc := 63) 173 flX9_7 cl9 rfl lb172 dX9_aMinute_63 ?_
    refine Rk.sp (G_iconst (pc := 66) dX9_aMinute_66) ?_
    refine Rk.alc (pc := 67) 3 rfl (Nat.le_of_ble_eq_true rfl) lb173 dX9_aMinute_67 ?_
    refine Rk.icmp_ge (pc := 68) (tgt := 121) dX9_aMinute_68 (nmI hv2_10) (nmI (hσ11 _ _)) rfl (fun hc12 => ?_) (fun hc12 => ?_)
    · refine Rk.sp (G_aload_n (pc := 71) 0 rfl rfl dX9_aMinute_71) ?_
      refine Rk.sp (G_iload_n (pc := 72) 2 rfl rfl dX9_aMinute_72) ?_
      refine Rk.cRZ (pc := 73) (Cl.v [vi v2_10] [] dX9_aMinute_73 ckX9_354 lb172 rfl rfl rfl (Nat.le_of_ble_eq_true rfl) (Nat.le_of_ble_eq_true rfl)) (k_Mo_isUnread v2_10 σ11 hv2_10 hσ11) (fun r13 hr13 => ?_)
      refine Rk.if_eq (pc := 76) (tgt := 115) dX9_aMinute_76 (nmI (inZ.R hr13)) rfl (fun hc14 => ?_) (fun hc14 => ?_)
      · refine Rk.inc (pc := 115) 2 (fun v2_15 => [some (vr 172), some (vi v1_1), some (vi v2_15), none]) rfl (Nat.le_of_ble_eq_true rfl) rfl dX9_aMinute_115 (fun _ => rfl) (fun v2_15 hv2_15 => ?_)
        refine Rk.sp (G_goto (pc := 118) (tgt := 61) dX9_aMinute_118 rfl) ?_
        exact Rk.end_ (fun h => h ⟨hv2_15, hσ11⟩)
      · refine Rk.sp (G_aload_n (pc := 79) 0 rfl rfl dX9_aMinute_79) ?_
        refine Rk.sp (G_iload_n (pc := 80) 2 rfl rfl dX9_aMinute_80) ?_
        refine Rk.sp (G_iconst (pc := 81) dX9_aMinute_81) ?_
        refine Rk.cRI (pc := 82) (Cl.v [vi v2_10, vi 1] [] dX9_aMinute_82 ckX9_76 lb172 rfl rfl rfl (Nat.le_of_ble_eq_true rfl) (Nat.le_of_ble_eq_true rfl)) (k_Mo_of0 v2_10 1 σ11 hv2_10 (inRk 1 rfl) hσ11) (fun r16 hr16 => ?_)
        refine Rk.sp (G_aload_n (pc := 85) 0 rfl rfl dX9_aMinute_85) ?_
        refine Rk.gR (pc := 86) 173 flX9_7 cl9 rfl lb172 dX9_aMinute_86 ?_
        refine Rk.sp (G_iconst (pc := 89) dX9_aMinute_89) ?_
        refine Rk.alc (pc := 90) 0 rfl (Nat.le_of_ble_eq_true rfl) lb173 dX9_aMinute_90 ?_
        refine Rk.icmp_ge (pc := 91) (tgt := 115) dX9_aMinute_91 (nmI hr16) (nmI (hσ11 _ _)) rfl (fun hc17 => ?_) (fun hc17 => ?_)
        · refine Rk.sp (G_aload_n (pc := 94) 0 rfl rfl dX9_aMinute_94) ?_
          refine Rk.sp (G_aload_n (pc := 95) 0 rfl rfl dX9_aMinute_95) ?_
          refine Rk.sp (G_iload_n (pc := 96) 2 rfl rfl dX9_aMinute_96) ?_
          refine Rk.cRI (pc := 97) (Cl.v [vi v2_10] [vr 172] dX9_aMinute_97 ckX9_320 lb172 rfl rfl rfl (Nat.le_of_ble_eq_true rfl) (Nat.le_of_ble_eq_true rfl)) (k_Mo_goesTo v2_10 σ11 hv2_10 hσ11) (fun r18 hr18 => ?_)
          refine Rk.sp (G_aload_n (pc := 100) 0 rfl rfl dX9_aMinute_100) ?_
          refine Rk.cRI (pc := 101) (Cl.v [] [vi r18, vr 172] dX9_aMinute_101 ckX9_317 lb172 rfl rfl rfl (Nat.le_of_ble_eq_true rfl) (Nat.le_of_ble_eq_true rfl)) (k_Mo_hourNow σ11 hσ11) (fun r19 hr19 => ?_)
          refine Rk.cRZ (pc := 104) (Cl.v [vi r18, vi r19] [] dX9_aMinute_104 ckX9_391 lb172 rfl rfl rfl (Nat.le_of_ble_eq_true rfl) (Nat.le_of_ble_eq_true rfl)) (k_Mo_canRead r18 r19 σ11 hr18 hr19 hσ11) (fun r20 hr20 => ?_)
          refine Rk.if_eq (pc := 107) (tgt := 115) dX9_aMinute_107 (nmI (inZ.R hr20)) rfl (fun hc21 => ?_) (fun hc21 => ?_)
          · refine Rk.inc (pc := 115) 2 (fun v2_22 => [some (vr 172), some (vi v1_1), some (vi v2_22), none]) rfl (Nat.le_of_ble_eq_true rfl) rfl dX9_aMinute_115 (fun _ => rfl) (fun v2_22 hv2_22 => ?_)
            refine Rk.sp (G_goto (pc := 118) (tgt := 61) dX9_aMinute_118 rfl) ?_
            exact Rk.end_ (fun h => h ⟨hv2_22, hσ11⟩)
          · refine Rk.sp (G_aload_n (pc := 110) 0 rfl rfl dX9_aMinute_110) ?_
            refine Rk.sp (G_iload_n (pc := 111) 2 rfl rfl dX9_aMinute_111) ?_
            refine Rk.cV (pc := 112) (Cl.v [vi v2_10] [] dX9_aMinute_112 ckX9_395 lb172 rfl rfl rfl (Nat.le_of_ble_eq_true rfl) (Nat.le_of_ble_eq_true rfl)) (k_Mo_reads0 v2_10 σ11 hv2_10 hσ11) (fun σ23 hσ23 => ?_)
            refine Rk.inc (pc := 115) 2 (fun v2_24 => [some (vr 172), some (vi v1_1), some (vi v2_24), none]) rfl (Nat.le_of_ble_eq_true rfl) rfl dX9_aMinute_115 (fun _ => rfl) (fun v2_24 hv2_24 => ?_)
            refine Rk.sp (G_goto (pc := 118) (tgt := 61) dX9_aMinute_118 rfl) ?_
            exact Rk.end_ (fun h => h ⟨hv2_24, hσ23⟩)
        · refine Rk.inc (pc := 115) 2 (fun v2_25 => [some (vr 172), some (vi v1_1), some (vi v2_25), none]) rfl (Nat.le_of_ble_eq_true rfl) rfl dX9_aMinute_115 (fun _ => rfl) (fun v2_25 hv2_25 => ?_)
          refine Rk.sp (G_goto (pc := 118) (tgt := 61) dX9_aMinute_118 rfl) ?_
          exact Rk.end_ (fun h => h ⟨hv2_25, hσ11⟩)
    · refine Rk.sp (G_aload_n (pc := 121) 0 rfl rfl dX9_aMinute_121) ?_
      refine Rk.gR (pc := 122) 173 flX9_7 cl9 rfl lb172 dX9_aMinute_122 ?_
      refine Rk.sp (G_iconst (pc := 125) dX9_aMinute_125) ?_
      refine Rk.alc (pc := 126) 3 rfl (Nat.le_of_ble_eq_true rfl) lb173 dX9_aMinute_126 ?_
      refine Rk.ist_n (pc := 127) 2 (fun v2_26 => [some (vr 172), some (vi v1_1), some (vi v2_26), none]) rfl (Nat.le_of_ble_eq_true rfl) rfl dX9_aMinute_127 (nmI (hσ11 _ _)) (fun _ => rfl) (fun v2_26 hv2_26 => ?_)
      refine Rk.sp (G_iconst (pc := 128) dX9_aMinute_128) ?_
      refine Rk.isa_n (pc := 129) 3 (L' := [some (vr 172), some (vi v1_1), some (vi v2_26), some (vi 0)]) rfl (Nat.le_of_ble_eq_true rfl) rfl dX9_aMinute_129 rfl ?_
      refine Rk.loop (pc := 130) (B := (fun p => Mo_aMinute_130_b v2_26 v1_1 p.1 p.2)) (fun p => inR p.1 ∧ okS p.2) (fun p => [some (vr 172), some (vi v1_1), some (vi v2_26), some (vi p.1)]) (fun p => (ms true μ p.2)) (fun p hp => ?_) (0, σ11) ⟨(inRk 0 rfl), hσ11⟩
      obtain ⟨v3_27, σ28⟩ := p
      obtain ⟨hv3_27, hσ28⟩ := hp
      try dsimp only
      unfold Mo_aMinute_130_b
      refine Rk.sp (G_iload_n (pc := 130) 3 rfl rfl dX9_aMinute_130) ?_
      refine Rk.sp (G_iload_n (pc := 131) 2 rfl rfl dX9_aMinute_131) ?_
      refine Rk.icmp_ge (pc := 132) (tgt := 162) dX9_aMinute_132 (nmI hv3_27) (nmI hv2_26) rfl (fun hc29 => ?_) (fun hc29 => ?_)
      · refine Rk.sp (G_aload_n (pc := 135) 0 rfl rfl dX9_aMinute_135) ?_
        refine Rk.sp (G_iload_n (pc := 136) 3 rfl rfl dX9_aMinute_136) ?_
        refine Rk.sp (G_bipush (pc := 137) dX9_aMinute_137 rfl) ?_
        refine Rk.cRI (pc := 139) (Cl.v [vi v3_27, vi 8] [] dX9_aMinute_139 ckX9_76 lb172 rfl rfl rfl (Nat.le_of_ble_eq_true rfl) (Nat.le_of_ble_eq_true rfl)) (k_Mo_of0 v3_27 8 σ28 hv3_27 (inRk 8 rfl) hσ28) (fun r30 hr30 => ?_)
        refine Rk.sp (G_aload_n (pc := 142) 0 rfl rfl dX9_aMinute_142) ?_
        refine Rk.gR (pc := 143) 173 flX9_7 cl9 rfl lb172 dX9_aMinute_143 ?_
        refine Rk.sp (G_iconst (pc := 146) dX9_aMinute_146) ?_
        refine Rk.alc (pc := 147) 0 rfl (Nat.le_of_ble_eq_true rfl) lb173 dX9_aMinute_147 ?_
        refine Rk.icmp_ne (pc := 148) (tgt := 156) dX9_aMinute_148 (nmI hr30) (nmI (hσ28 _ _)) rfl (fun hc31 => ?_) (fun hc31 => ?_)
        · refine Rk.sp (G_aload_n (pc := 151) 0 rfl rfl dX9_aMinute_151) ?_
          refine Rk.sp (G_iload_n (pc := 152) 3 rfl rfl dX9_aMinute_152) ?_
          refine Rk.cV (pc := 153) (Cl.v [vi v3_27] [] dX9_aMinute_153 ckX9_398 lb172 rfl rfl rfl (Nat.le_of_ble_eq_true rfl) (Nat.le_of_ble_eq_true rfl)) (k_Mo_answers v3_27 σ28 hv3_27 hσ28) (fun σ32 hσ32 => ?_)
          refine Rk.inc (pc := 156) 3 (fun v3_33 => [some (vr 172), some (vi v1_1), some (vi v2_26), some (vi v3_33)]) rfl (Nat.le_of_ble_eq_true rfl) rfl dX9_aMinute_156 (fun _ => rfl) (fun v3_33 hv3_33 => ?_)
          refine Rk.sp (G_goto (pc := 159) (tgt := 130) dX9_aMinute_159 rfl) ?_
          exact Rk.end_ (fun h => h ⟨hv3_33, hσ32⟩)
        · refine Rk.inc (pc := 156) 3 (fun v3_34 => [some (vr 172), some (vi v1_1), some (vi v2_26), some (vi v3_34)]) rfl (Nat.le_of_ble_eq_true rfl) rfl dX9_aMinute_156 (fun _ => rfl) (fun v3_34 hv3_34 => ?_)
          refine Rk.sp (G_goto (pc := 159) (tgt := 130) dX9_aMinute_159 rfl) ?_
          exact Rk.end_ (fun h => h ⟨hv3_34, hσ28⟩)
      · refine Rk.sp (G_aload_n (pc := 162) 0 rfl rfl dX9_aMinute_162) ?_
        refine Rk.gR (pc := 163) 173 flX9_7 cl9 rfl lb172 dX9_aMinute_163 ?_
        refine Rk.sp (G_iconst (pc := 166) dX9_aMinute_166) ?_
        refine Rk.sp (G_dup2 (pc := 167) dX9_aMinute_167 (fun _ h => by cases h) (fun _ h => by cases h)) ?_
        refine Rk.alc (pc := 168) 0 rfl (Nat.le_of_ble_eq_true rfl) lb173 dX9_aMinute_168 ?_
        refine Rk.sp (G_iconst (pc := 169) dX9_aMinute_169) ?_
        refine Rk.sp (G_iadd (pc := 170) dX9_aMinute_170) ?_
        refine Rk.asc (pc := 171) hσ28 (nmW _) 0 rfl (Nat.le_of_ble_eq_true rfl) lb173 dX9_aMinute_171 (fun σ35 hσ35 => ?_)
        refine Rk.sp (G_iconst (pc := 172) dX9_aMinute_172) ?_
        refine Rk.isa_n (pc := 173) 3 (L' := [some (vr 172), some (vi v1_1), some (vi v2_26), some (vi 0)]) rfl (Nat.le_of_ble_eq_true rfl) rfl dX9_aMinute_173 rfl ?_
        refine Rk.fg [true, true, false, true] (L' := [some (vr 172), some (vi v1_1), none, some (vi 0)]) rfl ?_
        refine Rk.loop (pc := 174) (B := (fun p => Mo_aMinute_174_b v1_1 p.1 p.2)) (fun p => inR p.1 ∧ okS p.2) (fun p => [some (vr 172), some (vi v1_1), none, some (vi p.1)]) (fun p => (ms true μ p.2)) (fun p hp => ?_) (0, σ35) ⟨(inRk 0 rfl), hσ35⟩
        obtain ⟨v3_36, σ37⟩ := p
        obtain ⟨hv3_36, hσ37⟩ := hp
        try dsimp only
        unfold Mo_aMinute_174_b
        refine Rk.sp (G_iload_n (pc := 174) 3 rfl rfl dX9_aMinute_174) ?_
        refine Rk.sp (G_iconst (pc := 175) dX9_aMinute_175) ?_
        refine Rk.icmp_ge (pc := 176) (tgt := 223) dX9_aMinute_176 (nmI hv3_36) (nmI (inRk 2 rfl)) rfl (fun hc38 => ?_) (fun hc38 => ?_)
        · refine Rk.sp (G_aload_n (pc := 179) 0 rfl rfl dX9_aMinute_179) ?_
          refine Rk.gR (pc := 180) 173 flX9_7 cl9 rfl lb172 dX9_aMinute_180 ?_
          refine Rk.sp (G_iconst (pc := 183) dX9_aMinute_183) ?_
          refine Rk.alc (pc := 184) 0 rfl (Nat.le_of_ble_eq_true rfl) lb173 dX9_aMinute_184 ?_
          refine Rk.sp (G_sipush (pc := 185) dX9_aMinute_185 rfl) ?_
          refine Rk.sp (G_irem (pc := 188) dX9_aMinute_188 (nmI (hσ37 _ _)) (nmI (inRk 1440 rfl)) (by decide)) ?_
          refine Rk.sp (G_sipush (pc := 189) dX9_aMinute_189 rfl) ?_
          refine Rk.icmp_ne (pc := 192) (tgt := 223) dX9_aMinute_192 (nmI (tmodR (hσ37 _ _))) (nmI (inRk 240 rfl)) rfl (fun hc39 => ?_) (fun hc39 => ?_)
          · refine Rk.sp (G_aload_n (pc := 195) 0 rfl rfl dX9_aMinute_195) ?_
            refine Rk.gR (pc := 196) 173 flX9_7 cl9 rfl lb172 dX9_aMinute_196 ?_
            refine Rk.sp (G_iconst (pc := 199) dX9_aMinute_199) ?_
            refine Rk.sp (G_iload_n (pc := 200) 3 rfl rfl dX9_aMinute_200) ?_
            refine Rk.sp (G_iadd (pc := 201) dX9_aMinute_201) ?_
            refine Rk.sp (G_dup2 (pc := 202) dX9_aMinute_202 (fun _ h => by cases h) (fun _ h => by cases h)) ?_
            refine Rk.al (pc := 203) lb173 dX9_aMinute_203 (fun hi40 => ?_)
            refine Rk.sp (G_aload_n (pc := 204) 0 rfl rfl dX9_aMinute_204) ?_
            refine Rk.gR (pc := 205) 173 flX9_7 cl9 rfl lb172 dX9_aMinute_205 ?_
            refine Rk.sp (G_iconst (pc := 208) dX9_aMinute_208) ?_
            refine Rk.sp (G_iload_n (pc := 209) 3 rfl rfl dX9_aMinute_209) ?_
            refine Rk.sp (G_iadd (pc := 210) dX9_aMinute_210) ?_
            refine Rk.al (pc := 211) lb173 dX9_aMinute_211 (fun hi41 => ?_)
            refine Rk.sp (G_bipush (pc := 212) dX9_aMinute_212 rfl) ?_
            refine Rk.sp (G_idiv (pc := 214) dX9_aMinute_214 (nmI (hσ37 _ _)) (nmI (inRk 10 rfl)) (by decide)) ?_
            refine Rk.sp (G_isub (pc := 215) dX9_aMinute_215) ?_
            refine Rk.as (pc := 216) hσ37 (nmW _) lb173 dX9_aMinute_216 (fun hi43 σ42 hσ42 => ?_)
            refine Rk.inc (pc := 217) 3 (fun v3_44 => [some (vr 172), some (vi v1_1), none, some (vi v3_44)]) rfl (Nat.le_of_ble_eq_true rfl) rfl dX9_aMinute_217 (fun _ => rfl) (fun v3_44 hv3_44 => ?_)
            refine Rk.sp (G_goto (pc := 220) (tgt := 174) dX9_aMinute_220 rfl) ?_
            exact Rk.end_ (fun h => h ⟨hv3_44, hσ42⟩)
          · refine Rk.sp (G_aload_n (pc := 223) 0 rfl rfl dX9_aMinute_223) ?_
            refine Rk.gR (pc := 224) 173 flX9_7 cl9 rfl lb172 dX9_aMinute_224 ?_
            refine Rk.sp (G_iconst (pc := 227) dX9_aMinute_227) ?_
            refine Rk.alc (pc := 228) 3 rfl (Nat.le_of_ble_eq_true rfl) lb173 dX9_aMinute_228 ?_
            refine Rk.sp (G_iload_n (pc := 229) 1 rfl rfl dX9_aMinute_229) ?_
            refine Rk.sp (G_isub (pc := 230) dX9_aMinute_230) ?_
            refine Rk.sp (Go.n0 (nmW _)) ?_
            exact Rk.end_ (fun h => G_ireturn (pc := 231) rfl dX9_aMinute_231 (q_I h (wrR _) hσ37))
        · refine Rk.sp (G_aload_n (pc := 223) 0 rfl rfl dX9_aMinute_223) ?_
          refine Rk.gR (pc := 224) 173 flX9_7 cl9 rfl lb172 dX9_aMinute_224 ?_
          refine Rk.sp (G_iconst (pc := 227) dX9_aMinute_227) ?_
          refine Rk.alc (pc := 228) 3 rfl (Nat.le_of_ble_eq_true rfl) lb173 dX9_aMinute_228 ?_
          refine Rk.sp (G_iload_n (pc := 229) 1 rfl rfl dX9_aMinute_229) ?_
          refine Rk.sp (G_isub (pc := 230) dX9_aMinute_230) ?_
          refine Rk.sp (Go.n0 (nmW _)) ?_
          exact Rk.end_ (fun h => G_ireturn (pc := 231) rfl dX9_aMinute_231 (q_I h (wrR _) hσ37))
theorem k_Mo_anHour {κ : Kx} {μ : Sg} (σ : Sg) (hok : okS σ) : CtZ κ mX9_anHour 11 [vr 172] true μ σ (Mo_anHour σ) := by
  intro r τ h
  refine con_of (by decide) (Nat.le_of_ble_eq_true rfl) 1 ?_
  refine (?_ : Rk κ mX9_anHour _ 0 [some (vr 172), none] [] (ms true μ σ) (Mo_anHour σ) (fun a => a = (r, τ))) _ h rfl
  unfold Mo_anHour
  refine Rk.sp (G_iconst (pc := 0) dX9_anHour_0) ?_
  refine Rk.sp (G_aload_n (pc := 1) 0 rfl rfl dX9_anHour_1) ?_
  refine Rk.gI (pc := 2) flX9_264 cl9 rfl lb172 dX9_anHour_2 ?_
  refine Rk.sp (G_imul (pc := 5) dX9_anHour_5) ?_
  refine Rk.ist_n (pc := 6) 1 (fun v1_1 => [some (vr 172), some (vi v1_1)]) rfl (Nat.le_of_ble_eq_true rfl) rfl dX9_anHour_6 (nmW _) (fun _ => rfl) (fun v1_1 hv1_1 => ?_)
  refine Rk.sp (G_aload_n (pc := 7) 0 rfl rfl dX9_anHour_7) ?_
  refine Rk.sp (G_iload_n (pc := 8) 1 rfl rfl dX9_anHour_8) ?_
  refine Rk.sp (G_bipush (pc := 9) dX9_anHour_9 rfl) ?_
  refine Rk.sp (G_iconst (pc := 11) dX9_anHour_11) ?_
  refine Rk.sp (G_iconst (pc := 12) dX9_anHour_12) ?_
  refine Rk.cZ (pc := 13) (Cl.v [vi v1_1, vi 7, vi 0, vi 1] [] dX9_anHour_13 ckX9_267 lb172 rfl rfl rfl (Nat.le_of_ble_eq_true rfl) (Nat.le_of_ble_eq_true rfl)) (k_Mo_told v1_1 7 0 1 σ hv1_1 (inRk 7 rfl) (inRk 0 rfl) (inRk 1 rfl) hok) (fun r2 σ3 hr2 hσ3 => ?_)
  refine Rk.if_eq (pc := 16) (tgt := 49) dX9_anHour_16 (nmI (inZ.R hr2)) rfl (fun hc4 => ?_) (fun hc4 => ?_)
  · refine Rk.sp (G_iconst (pc := 49) dX9_anHour_49) ?_
    exact Rk.end_ (fun h => G_zreturn (pc := 50) rfl (nz inZ0) dX9_anHour_50 (q_Z h inZ0 hσ3))
  · refine Rk.sp (G_aload_n (pc := 19) 0 rfl rfl dX9_anHour_19) ?_
    refine Rk.sp (G_iload_n (pc := 20) 1 rfl rfl dX9_anHour_20) ?_
    refine Rk.sp (G_iconst (pc := 21) dX9_anHour_21) ?_
    refine Rk.sp (G_iadd (pc := 22) dX9_anHour_22) ?_
    refine Rk.sp (G_bipush (pc := 23) dX9_anHour_23 rfl) ?_
    refine Rk.sp (G_iconst (pc := 25) dX9_anHour_25) ?_
    refine Rk.sp (G_bipush (pc := 26) dX9_anHour_26 rfl) ?_
    refine Rk.sp (Go.n3 (nmW _)) ?_
    refine Rk.cZ (pc := 28) (Cl.v [vi (wr (v1_1 + 1)), vi 8, vi 0, vi 23] [] dX9_anHour_28 ckX9_267 lb172 rfl rfl rfl (Nat.le_of_ble_eq_true rfl) (Nat.le_of_ble_eq_true rfl)) (k_Mo_told (wr (v1_1 + 1)) 8 0 23 σ3 (wrR _) (inRk 8 rfl) (inRk 0 rfl) (inRk 23 rfl) hσ3) (fun r5 σ6 hr5 hσ6 => ?_)
    refine Rk.if_eq (pc := 31) (tgt := 49) dX9_anHour_31 (nmI (inZ.R hr5)) rfl (fun hc7 => ?_) (fun hc7 => ?_)
    · refine Rk.sp (G_iconst (pc := 49) dX9_anHour_49) ?_
      exact Rk.end_ (fun h => G_zreturn (pc := 50) rfl (nz inZ0) dX9_anHour_50 (q_Z h inZ0 hσ6))
    · refine Rk.sp (G_aload_n (pc := 34) 0 rfl rfl dX9_anHour_34) ?_
      refine Rk.sp (G_iload_n (pc := 35) 1 rfl rfl dX9_anHour_35) ?_
      refine Rk.sp (G_iconst (pc := 36) dX9_anHour_36) ?_
      refine Rk.sp (G_iadd (pc := 37) dX9_anHour_37) ?_
      refine Rk.sp (G_bipush (pc := 38) dX9_anHour_38 rfl) ?_
      refine Rk.sp (G_iconst (pc := 40) dX9_anHour_40) ?_
      refine Rk.sp (G_bipush (pc := 41) dX9_anHour_41 rfl) ?_
      refine Rk.sp (Go.n3 (nmW _)) ?_
      refine Rk.cZ (pc := 43) (Cl.v [vi (wr (v1_1 + 2)), vi 9, vi 1, vi 24] [] dX9_anHour_43 ckX9_267 lb172 rfl rfl rfl (Nat.le_of_ble_eq_true rfl) (Nat.le_of_ble_eq_true rfl)) (k_Mo_told (wr (v1_1 + 2)) 9 1 24 σ6 (wrR _) (inRk 9 rfl) (inRk 1 rfl) (inRk 24 rfl) hσ6) (fun r8 σ9 hr8 hσ9 => ?_)
      refine Rk.if_ne (pc := 46) (tgt := 51) dX9_anHour_46 (nmI (inZ.R hr8)) rfl (fun hc10 => ?_) (fun hc10 => ?_)
      · refine Rk.sp (G_iconst (pc := 49) dX9_anHour_49) ?_
        exact Rk.end_ (fun h => G_zreturn (pc := 50) rfl (nz inZ0) dX9_anHour_50 (q_Z h inZ0 hσ9))
      · refine Rk.sp (G_aload_n (pc := 51) 0 rfl rfl dX9_anHour_51) ?_
        refine Rk.gI (pc := 52) flX9_193 cl9 rfl lb172 dX9_anHour_52 ?_
        refine Rk.sp (G_bipush (pc := 55) dX9_anHour_55 rfl) ?_
        refine Rk.sp (G_bipush (pc := 57) dX9_anHour_57 rfl) ?_
        refine Rk.cRZ (pc := 59) (Cl.s [vi (σ9 172 18), vi 30, vi 33] [] dX9_anHour_59 ckX9_72 rfl rfl (Nat.le_of_ble_eq_true rfl) (Nat.le_of_ble_eq_true rfl)) (k_Mo_isIn (σ9 172 18) 30 33 (hσ9 _ _) (inRk 30 rfl) (inRk 33 rfl)) (fun r11 hr11 => ?_)
        refine Rk.if_ne (pc := 62) (tgt := 71) dX9_anHour_62 (nmI (inZ.R hr11)) rfl (fun hc12 => ?_) (fun hc12 => ?_)
        · refine Rk.sp (G_aload_n (pc := 65) 0 rfl rfl dX9_anHour_65) ?_
          refine Rk.sp (G_iconst (pc := 66) dX9_anHour_66) ?_
          refine Rk.cZ (pc := 67) (Cl.v [vi 1] [] dX9_anHour_67 ckX9_214 lb172 rfl rfl rfl (Nat.le_of_ble_eq_true rfl) (Nat.le_of_ble_eq_true rfl)) (k_Mo_bad 1 σ9 (inRk 1 rfl) hσ9) (fun r13 σ14 hr13 hσ14 => ?_)
          exact Rk.end_ (fun h => G_zreturn (pc := 70) rfl (nz hr13) dX9_anHour_70 (q_Z h hr13 hσ14))
        · refine Rk.sp (G_aload_n (pc := 71) 0 rfl rfl dX9_anHour_71) ?_
          refine Rk.gR (pc := 72) 179 flX9_28 cl9 rfl lb172 dX9_anHour_72 ?_
          refine Rk.sp (G_iload_n (pc := 75) 1 rfl rfl dX9_anHour_75) ?_
          refine Rk.sp (G_iconst (pc := 76) dX9_anHour_76) ?_
          refine Rk.sp (G_iadd (pc := 77) dX9_anHour_77) ?_
          refine Rk.sp (G_aload_n (pc := 78) 0 rfl rfl dX9_anHour_78) ?_
          refine Rk.gI (pc := 79) flX9_193 cl9 rfl lb172 dX9_anHour_79 ?_
          refine Rk.sp (G_bipush (pc := 82) dX9_anHour_82 rfl) ?_
          refine Rk.sp (G_isub (pc := 84) dX9_anHour_84) ?_
          refine Rk.as (pc := 85) hσ9 (nmW _) lb179 dX9_anHour_85 (fun hi16 σ15 hσ15 => ?_)
          refine Rk.sp (G_aload_n (pc := 86) 0 rfl rfl dX9_anHour_86) ?_
          refine Rk.cV (pc := 87) (Cl.v [] [] dX9_anHour_87 ckX9_217 lb172 rfl rfl rfl (Nat.le_of_ble_eq_true rfl) (Nat.le_of_ble_eq_true rfl)) (k_Mo_next0 σ15 hσ15) (fun σ17 hσ17 => ?_)
          refine Rk.sp (G_iconst (pc := 90) dX9_anHour_90) ?_
          exact Rk.end_ (fun h => G_zreturn (pc := 91) rfl (nz inZ1) dX9_anHour_91 (q_Z h inZ1 hσ17))
theorem k_Mo_aSaying {κ : Kx} {μ : Sg} (σ : Sg) (hok : okS σ) : CtZ κ mX9_aSaying 11 [vr 172] true μ σ (Mo_aSaying σ) := by
  intro r τ h
  refine con_of (by decide) (Nat.le_of_ble_eq_true rfl) 1 ?_
  refine (?_ : Rk κ mX9_aSaying _ 0 [some (vr 172), none] [] (ms true μ σ) (Mo_aSaying σ) (fun a => a = (r, τ))) _ h rfl
  unfold Mo_aSaying
  refine Rk.sp (G_iconst (pc := 0) dX9_aSaying_0) ?_
  refine Rk.sp (G_aload_n (pc := 1) 0 rfl rfl dX9_aSaying_1) ?_
  refine Rk.gI (pc := 2) flX9_264 cl9 rfl lb172 dX9_aSaying_2 ?_
  refine Rk.sp (G_imul (pc := 5) dX9_aSaying_5) ?_
  refine Rk.ist_n (pc := 6) 1 (fun v1_1 => [some (vr 172), some (vi v1_1)]) rfl (Nat.le_of_ble_eq_true rfl) rfl dX9_aSaying_6 (nmW _) (fun _ => rfl) (fun v1_1 hv1_1 => ?_)
  refine Rk.sp (G_aload_n (pc := 7) 0 rfl rfl dX9_aSaying_7) ?_
  refine Rk.sp (G_iload_n (pc := 8) 1 rfl rfl dX9_aSaying_8) ?_
  refine Rk.sp (G_bipush (pc := 9) dX9_aSaying_9 rfl) ?_
  refine Rk.sp (G_iconst (pc := 11) dX9_aSaying_11) ?_
  refine Rk.sp (G_sipush (pc := 12) dX9_aSaying_12 rfl) ?_
  refine Rk.cZ (pc := 15) (Cl.v [vi v1_1, vi 10, vi 0, vi 9999] [] dX9_aSaying_15 ckX9_267 lb172 rfl rfl rfl (Nat.le_of_ble_eq_true rfl) (Nat.le_of_ble_eq_true rfl)) (k_Mo_told v1_1 10 0 9999 σ hv1_1 (inRk 10 rfl) (inRk 0 rfl) (inRk 9999 rfl) hok) (fun r2 σ3 hr2 hσ3 => ?_)
  refine Rk.if_eq (pc := 18) (tgt := 35) dX9_aSaying_18 (nmI (inZ.R hr2)) rfl (fun hc4 => ?_) (fun hc4 => ?_)
  · refine Rk.sp (G_iconst (pc := 35) dX9_aSaying_35) ?_
    exact Rk.end_ (fun h => G_zreturn (pc := 36) rfl (nz inZ0) dX9_aSaying_36 (q_Z h inZ0 hσ3))
  · refine Rk.sp (G_aload_n (pc := 21) 0 rfl rfl dX9_aSaying_21) ?_
    refine Rk.sp (G_iload_n (pc := 22) 1 rfl rfl dX9_aSaying_22) ?_
    refine Rk.sp (G_iconst (pc := 23) dX9_aSaying_23) ?_
    refine Rk.sp (G_iadd (pc := 24) dX9_aSaying_24) ?_
    refine Rk.sp (G_bipush (pc := 25) dX9_aSaying_25 rfl) ?_
    refine Rk.sp (G_iconst (pc := 27) dX9_aSaying_27) ?_
    refine Rk.sp (G_iconst (pc := 28) dX9_aSaying_28) ?_
    refine Rk.sp (Go.n3 (nmW _)) ?_
    refine Rk.cZ (pc := 29) (Cl.v [vi (wr (v1_1 + 1)), vi 7, vi 0, vi 1] [] dX9_aSaying_29 ckX9_267 lb172 rfl rfl rfl (Nat.le_of_ble_eq_true rfl) (Nat.le_of_ble_eq_true rfl)) (k_Mo_told (wr (v1_1 + 1)) 7 0 1 σ3 (wrR _) (inRk 7 rfl) (inRk 0 rfl) (inRk 1 rfl) hσ3) (fun r5 σ6 hr5 hσ6 => ?_)
    refine Rk.if_ne (pc := 32) (tgt := 37) dX9_aSaying_32 (nmI (inZ.R hr5)) rfl (fun hc7 => ?_) (fun hc7 => ?_)
    · refine Rk.sp (G_iconst (pc := 35) dX9_aSaying_35) ?_
      exact Rk.end_ (fun h => G_zreturn (pc := 36) rfl (nz inZ0) dX9_aSaying_36 (q_Z h inZ0 hσ6))
    · refine Rk.sp (G_aload_n (pc := 37) 0 rfl rfl dX9_aSaying_37) ?_
      refine Rk.gR (pc := 38) 179 flX9_28 cl9 rfl lb172 dX9_aSaying_38 ?_
      refine Rk.sp (G_iload_n (pc := 41) 1 rfl rfl dX9_aSaying_41) ?_
      refine Rk.sp (G_iconst (pc := 42) dX9_aSaying_42) ?_
      refine Rk.sp (G_iadd (pc := 43) dX9_aSaying_43) ?_
      refine Rk.sp (G_iconst (pc := 44) dX9_aSaying_44) ?_
      refine Rk.as (pc := 45) hσ6 (nmI (inRk 0 rfl)) lb179 dX9_aSaying_45 (fun hi9 σ8 hσ8 => ?_)
      refine Rk.sp (G_aload_n (pc := 46) 0 rfl rfl dX9_aSaying_46) ?_
      refine Rk.gR (pc := 47) 179 flX9_28 cl9 rfl lb172 dX9_aSaying_47 ?_
      refine Rk.sp (G_iload_n (pc := 50) 1 rfl rfl dX9_aSaying_50) ?_
      refine Rk.sp (G_iconst (pc := 51) dX9_aSaying_51) ?_
      refine Rk.sp (G_iadd (pc := 52) dX9_aSaying_52) ?_
      refine Rk.sp (G_iconst (pc := 53) dX9_aSaying_53) ?_
      refine Rk.as (pc := 54) hσ8 (nmI (inRk 0 rfl)) lb179 dX9_aSaying_54 (fun hi11 σ10 hσ10 => ?_)
      refine Rk.sp (G_aload_n (pc := 55) 0 rfl rfl dX9_aSaying_55) ?_
      refine Rk.gR (pc := 56) 179 flX9_28 cl9 rfl lb172 dX9_aSaying_56 ?_
      refine Rk.sp (G_iload_n (pc := 59) 1 rfl rfl dX9_aSaying_59) ?_
      refine Rk.sp (G_iconst (pc := 60) dX9_aSaying_60) ?_
      refine Rk.sp (G_iadd (pc := 61) dX9_aSaying_61) ?_
      refine Rk.sp (G_iconst (pc := 62) dX9_aSaying_62) ?_
      refine Rk.as (pc := 63) hσ10 (nmI (inRk 0 rfl)) lb179 dX9_aSaying_63 (fun hi13 σ12 hσ12 => ?_)
      refine Rk.sp (G_aload_n (pc := 64) 0 rfl rfl dX9_aSaying_64) ?_
      refine Rk.gI (pc := 65) flX9_193 cl9 rfl lb172 dX9_aSaying_65 ?_
      refine Rk.sp (G_bipush (pc := 68) dX9_aSaying_68 rfl) ?_
      refine Rk.icmp_ne (pc := 70) (tgt := 79) dX9_aSaying_70 (nmI (hσ12 _ _)) (nmI (inRk 14 rfl)) rfl (fun hc14 => ?_) (fun hc14 => ?_)
      · refine Rk.sp (G_aload_n (pc := 73) 0 rfl rfl dX9_aSaying_73) ?_
        refine Rk.cV (pc := 74) (Cl.v [] [] dX9_aSaying_74 ckX9_217 lb172 rfl rfl rfl (Nat.le_of_ble_eq_true rfl) (Nat.le_of_ble_eq_true rfl)) (k_Mo_next0 σ12 hσ12) (fun σ15 hσ15 => ?_)
        refine Rk.sp (G_iconst (pc := 77) dX9_aSaying_77) ?_
        exact Rk.end_ (fun h => G_zreturn (pc := 78) rfl (nz inZ1) dX9_aSaying_78 (q_Z h inZ1 hσ15))
      · refine Rk.sp (G_aload_n (pc := 79) 0 rfl rfl dX9_aSaying_79) ?_
        refine Rk.sp (G_iload_n (pc := 80) 1 rfl rfl dX9_aSaying_80) ?_
        refine Rk.sp (G_iconst (pc := 81) dX9_aSaying_81) ?_
        refine Rk.sp (G_iadd (pc := 82) dX9_aSaying_82) ?_
        refine Rk.sp (G_bipush (pc := 83) dX9_aSaying_83 rfl) ?_
        refine Rk.sp (G_iconst (pc := 85) dX9_aSaying_85) ?_
        refine Rk.sp (G_bipush (pc := 86) dX9_aSaying_86 rfl) ?_
        refine Rk.sp (Go.n3 (nmW _)) ?_
        refine Rk.cZ (pc := 88) (Cl.v [vi (wr (v1_1 + 2)), vi 11, vi 1, vi 99] [] dX9_aSaying_88 ckX9_267 lb172 rfl rfl rfl (Nat.le_of_ble_eq_true rfl) (Nat.le_of_ble_eq_true rfl)) (k_Mo_told (wr (v1_1 + 2)) 11 1 99 σ12 (wrR _) (inRk 11 rfl) (inRk 1 rfl) (inRk 99 rfl) hσ12) (fun r16 σ17 hr16 hσ17 => ?_)
        refine Rk.if_eq (pc := 91) (tgt := 109) dX9_aSaying_91 (nmI (inZ.R hr16)) rfl (fun hc18 => ?_) (fun hc18 => ?_)
        · refine Rk.sp (G_iconst (pc := 109) dX9_aSaying_109) ?_
          exact Rk.end_ (fun h => G_zreturn (pc := 110) rfl (nz inZ0) dX9_aSaying_110 (q_Z h inZ0 hσ17))
        · refine Rk.sp (G_aload_n (pc := 94) 0 rfl rfl dX9_aSaying_94) ?_
          refine Rk.sp (G_iload_n (pc := 95) 1 rfl rfl dX9_aSaying_95) ?_
          refine Rk.sp (G_iconst (pc := 96) dX9_aSaying_96) ?_
          refine Rk.sp (G_iadd (pc := 97) dX9_aSaying_97) ?_
          refine Rk.sp (G_bipush (pc := 98) dX9_aSaying_98 rfl) ?_
          refine Rk.sp (G_iconst (pc := 100) dX9_aSaying_100) ?_
          refine Rk.sp (G_bipush (pc := 101) dX9_aSaying_101 rfl) ?_
          refine Rk.sp (Go.n3 (nmW _)) ?_
          refine Rk.cZ (pc := 103) (Cl.v [vi (wr (v1_1 + 3)), vi 12, vi 0, vi 9] [] dX9_aSaying_103 ckX9_267 lb172 rfl rfl rfl (Nat.le_of_ble_eq_true rfl) (Nat.le_of_ble_eq_true rfl)) (k_Mo_told (wr (v1_1 + 3)) 12 0 9 σ17 (wrR _) (inRk 12 rfl) (inRk 0 rfl) (inRk 9 rfl) hσ17) (fun r19 σ20 hr19 hσ20 => ?_)
          refine Rk.if_ne (pc := 106) (tgt := 111) dX9_aSaying_106 (nmI (inZ.R hr19)) rfl (fun hc21 => ?_) (fun hc21 => ?_)
          · refine Rk.sp (G_iconst (pc := 109) dX9_aSaying_109) ?_
            exact Rk.end_ (fun h => G_zreturn (pc := 110) rfl (nz inZ0) dX9_aSaying_110 (q_Z h inZ0 hσ20))
          · refine Rk.sp (G_aload_n (pc := 111) 0 rfl rfl dX9_aSaying_111) ?_
            refine Rk.gI (pc := 112) flX9_193 cl9 rfl lb172 dX9_aSaying_112 ?_
            refine Rk.sp (G_bipush (pc := 115) dX9_aSaying_115 rfl) ?_
            refine Rk.icmp_eq (pc := 117) (tgt := 122) dX9_aSaying_117 (nmI (hσ20 _ _)) (nmI (inRk 13 rfl)) rfl (fun hc22 => ?_) (fun hc22 => ?_)
            · refine Rk.sp (G_aload_n (pc := 122) 0 rfl rfl dX9_aSaying_122) ?_
              refine Rk.gR (pc := 123) 179 flX9_28 cl9 rfl lb172 dX9_aSaying_123 ?_
              refine Rk.sp (G_iload_n (pc := 126) 1 rfl rfl dX9_aSaying_126) ?_
              refine Rk.sp (G_iconst (pc := 127) dX9_aSaying_127) ?_
              refine Rk.sp (G_iadd (pc := 128) dX9_aSaying_128) ?_
              refine Rk.sp (G_iconst (pc := 129) dX9_aSaying_129) ?_
              refine Rk.as (pc := 130) hσ20 (nmI (inRk 1 rfl)) lb179 dX9_aSaying_130 (fun hi24 σ23 hσ23 => ?_)
              refine Rk.sp (G_aload_n (pc := 131) 0 rfl rfl dX9_aSaying_131) ?_
              refine Rk.cV (pc := 132) (Cl.v [] [] dX9_aSaying_132 ckX9_217 lb172 rfl rfl rfl (Nat.le_of_ble_eq_true rfl) (Nat.le_of_ble_eq_true rfl)) (k_Mo_next0 σ23 hσ23) (fun σ25 hσ25 => ?_)
              refine Rk.sp (G_iconst (pc := 135) dX9_aSaying_135) ?_
              exact Rk.end_ (fun h => G_zreturn (pc := 136) rfl (nz inZ1) dX9_aSaying_136 (q_Z h inZ1 hσ25))
            · refine Rk.sp (G_iconst (pc := 120) dX9_aSaying_120) ?_
              exact Rk.end_ (fun h => G_zreturn (pc := 121) rfl (nz inZ1) dX9_aSaying_121 (q_Z h inZ1 hσ20))
theorem k_Mo_aRow {κ : Kx} {μ : Sg} (σ : Sg) (hok : okS σ) : CtZ κ mX9_aRow 12 [vr 172] true μ σ (Mo_aRow σ) := by
  intro r τ h
  refine con_of (by decide) (Nat.le_of_ble_eq_true rfl) 0 ?_
  refine (?_ : Rk κ mX9_aRow _ 0 [some (vr 172)] [] (ms true μ σ) (Mo_aRow σ) (fun a => a = (r, τ))) _ h rfl
  unfold Mo_aRow
  refine Rk.sp (G_aload_n (pc := 0) 0 rfl rfl dX9_aRow_0) ?_
  refine Rk.gI (pc := 1) flX9_173 cl9 rfl lb172 dX9_aRow_1 ?_
  refine Rk.sp (G_iconst (pc := 4) dX9_aRow_4) ?_
  refine Rk.icmp_ne (pc := 5) (tgt := 18) dX9_aRow_5 (nmI (hok _ _)) (nmI (inRk 1 rfl)) rfl (fun hc1 => ?_) (fun hc1 => ?_)
  · refine Rk.sp (G_aload_n (pc := 8) 0 rfl rfl dX9_aRow_8) ?_
    refine Rk.cZ (pc := 9) (Cl.v [] [] dX9_aRow_9 ckX9_271 lb172 rfl rfl rfl (Nat.le_of_ble_eq_true rfl) (Nat.le_of_ble_eq_true rfl)) (k_Mo_anHour σ hok) (fun r2 σ3 hr2 hσ3 => ?_)
    refine Rk.if_eq (pc := 12) (tgt := 57) dX9_aRow_12 (nmI (inZ.R hr2)) rfl (fun hc4 => ?_) (fun hc4 => ?_)
    · refine Rk.sp (G_iconst (pc := 57) dX9_aRow_57) ?_
      exact Rk.end_ (fun h => G_zreturn (pc := 58) rfl (nz inZ0) dX9_aRow_58 (q_Z h inZ0 hσ3))
    · refine Rk.sp (G_goto (pc := 15) (tgt := 43) dX9_aRow_15 rfl) ?_
      refine Rk.sp (G_aload_n (pc := 43) 0 rfl rfl dX9_aRow_43) ?_
      refine Rk.sp (G_sipush (pc := 44) dX9_aRow_44 rfl) ?_
      refine Rk.cZ (pc := 47) (Cl.v [vi 159] [] dX9_aRow_47 ckX9_249 lb172 rfl rfl rfl (Nat.le_of_ble_eq_true rfl) (Nat.le_of_ble_eq_true rfl)) (k_Mo_need 159 σ3 (inRk 159 rfl) hσ3) (fun r5 σ6 hr5 hσ6 => ?_)
      refine Rk.if_eq (pc := 50) (tgt := 57) dX9_aRow_50 (nmI (inZ.R hr5)) rfl (fun hc7 => ?_) (fun hc7 => ?_)
      · refine Rk.sp (G_iconst (pc := 57) dX9_aRow_57) ?_
        exact Rk.end_ (fun h => G_zreturn (pc := 58) rfl (nz inZ0) dX9_aRow_58 (q_Z h inZ0 hσ6))
      · refine Rk.sp (G_iconst (pc := 53) dX9_aRow_53) ?_
        refine Rk.sp (G_goto (pc := 54) (tgt := 58) dX9_aRow_54 rfl) ?_
        exact Rk.end_ (fun h => G_zreturn (pc := 58) rfl (nz inZ1) dX9_aRow_58 (q_Z h inZ1 hσ6))
  · refine Rk.sp (G_aload_n (pc := 18) 0 rfl rfl dX9_aRow_18) ?_
    refine Rk.gI (pc := 19) flX9_173 cl9 rfl lb172 dX9_aRow_19 ?_
    refine Rk.sp (G_iconst (pc := 22) dX9_aRow_22) ?_
    refine Rk.icmp_ne (pc := 23) (tgt := 36) dX9_aRow_23 (nmI (hok _ _)) (nmI (inRk 2 rfl)) rfl (fun hc8 => ?_) (fun hc8 => ?_)
    · refine Rk.sp (G_aload_n (pc := 26) 0 rfl rfl dX9_aRow_26) ?_
      refine Rk.cZ (pc := 27) (Cl.v [] [] dX9_aRow_27 ckX9_274 lb172 rfl rfl rfl (Nat.le_of_ble_eq_true rfl) (Nat.le_of_ble_eq_true rfl)) (k_Mo_aSaying σ hok) (fun r9 σ10 hr9 hσ10 => ?_)
      refine Rk.if_eq (pc := 30) (tgt := 57) dX9_aRow_30 (nmI (inZ.R hr9)) rfl (fun hc11 => ?_) (fun hc11 => ?_)
      · refine Rk.sp (G_iconst (pc := 57) dX9_aRow_57) ?_
        exact Rk.end_ (fun h => G_zreturn (pc := 58) rfl (nz inZ0) dX9_aRow_58 (q_Z h inZ0 hσ10))
      · refine Rk.sp (G_goto (pc := 33) (tgt := 43) dX9_aRow_33 rfl) ?_
        refine Rk.sp (G_aload_n (pc := 43) 0 rfl rfl dX9_aRow_43) ?_
        refine Rk.sp (G_sipush (pc := 44) dX9_aRow_44 rfl) ?_
        refine Rk.cZ (pc := 47) (Cl.v [vi 159] [] dX9_aRow_47 ckX9_249 lb172 rfl rfl rfl (Nat.le_of_ble_eq_true rfl) (Nat.le_of_ble_eq_true rfl)) (k_Mo_need 159 σ10 (inRk 159 rfl) hσ10) (fun r12 σ13 hr12 hσ13 => ?_)
        refine Rk.if_eq (pc := 50) (tgt := 57) dX9_aRow_50 (nmI (inZ.R hr12)) rfl (fun hc14 => ?_) (fun hc14 => ?_)
        · refine Rk.sp (G_iconst (pc := 57) dX9_aRow_57) ?_
          exact Rk.end_ (fun h => G_zreturn (pc := 58) rfl (nz inZ0) dX9_aRow_58 (q_Z h inZ0 hσ13))
        · refine Rk.sp (G_iconst (pc := 53) dX9_aRow_53) ?_
          refine Rk.sp (G_goto (pc := 54) (tgt := 58) dX9_aRow_54 rfl) ?_
          exact Rk.end_ (fun h => G_zreturn (pc := 58) rfl (nz inZ1) dX9_aRow_58 (q_Z h inZ1 hσ13))
    · refine Rk.sp (G_aload_n (pc := 36) 0 rfl rfl dX9_aRow_36) ?_
      refine Rk.cZ (pc := 37) (Cl.v [] [] dX9_aRow_37 ckX9_277 lb172 rfl rfl rfl (Nat.le_of_ble_eq_true rfl) (Nat.le_of_ble_eq_true rfl)) (k_Mo_aHabit σ hok) (fun r15 σ16 hr15 hσ16 => ?_)
      refine Rk.if_eq (pc := 40) (tgt := 57) dX9_aRow_40 (nmI (inZ.R hr15)) rfl (fun hc17 => ?_) (fun hc17 => ?_)
      · refine Rk.sp (G_iconst (pc := 57) dX9_aRow_57) ?_
        exact Rk.end_ (fun h => G_zreturn (pc := 58) rfl (nz inZ0) dX9_aRow_58 (q_Z h inZ0 hσ16))
      · refine Rk.sp (G_aload_n (pc := 43) 0 rfl rfl dX9_aRow_43) ?_
        refine Rk.sp (G_sipush (pc := 44) dX9_aRow_44 rfl) ?_
        refine Rk.cZ (pc := 47) (Cl.v [vi 159] [] dX9_aRow_47 ckX9_249 lb172 rfl rfl rfl (Nat.le_of_ble_eq_true rfl) (Nat.le_of_ble_eq_true rfl)) (k_Mo_need 159 σ16 (inRk 159 rfl) hσ16) (fun r18 σ19 hr18 hσ19 => ?_)
        refine Rk.if_eq (pc := 50) (tgt := 57) dX9_aRow_50 (nmI (inZ.R hr18)) rfl (fun hc20 => ?_) (fun hc20 => ?_)
        · refine Rk.sp (G_iconst (pc := 57) dX9_aRow_57) ?_
          exact Rk.end_ (fun h => G_zreturn (pc := 58) rfl (nz inZ0) dX9_aRow_58 (q_Z h inZ0 hσ19))
        · refine Rk.sp (G_iconst (pc := 53) dX9_aRow_53) ?_
          refine Rk.sp (G_goto (pc := 54) (tgt := 58) dX9_aRow_54 rfl) ?_
          exact Rk.end_ (fun h => G_zreturn (pc := 58) rfl (nz inZ1) dX9_aRow_58 (q_Z h inZ1 hσ19))
theorem k_Mo_areSigns {κ : Kx} {μ : Sg} (a1 : Int) (σ : Sg) (ha1 : inR a1) (hok : okS σ) : CtRZ κ mX9_areSigns 1 [vr 172, vi a1] true μ σ (Mo_areSigns a1 σ) := by
  intro r h
  refine con_of (by decide) (Nat.le_of_ble_eq_true rfl) 0 ?_
  refine (?_ : Rk κ mX9_areSigns _ 0 [some (vr 172), some (vi a1)] [] (ms true μ σ) (Mo_areSigns a1 σ) (fun a => a = r)) _ h rfl
  unfold Mo_areSigns
  refine Rk.sp (G_iload_n (pc := 0) 1 rfl rfl dX9_areSigns_0) ?_
  refine Rk.sp (G_iconst (pc := 1) dX9_areSigns_1) ?_
  refine Rk.sp (G_iconst (pc := 2) dX9_areSigns_2) ?_
  refine Rk.sp (G_aload_n (pc := 3) 0 rfl rfl dX9_areSigns_3) ?_
  refine Rk.gR (pc := 4) 173 flX9_7 cl9 rfl lb172 dX9_areSigns_4 ?_
  refine Rk.sp (G_sipush (pc := 7) dX9_areSigns_7 rfl) ?_
  refine Rk.alc (pc := 10) 553 rfl (Nat.le_of_ble_eq_true rfl) lb173 dX9_areSigns_10 ?_
  refine Rk.sp (G_ishl (pc := 11) dX9_areSigns_11) ?_
  refine Rk.sp (G_iconst (pc := 12) dX9_areSigns_12) ?_
  refine Rk.sp (G_isub (pc := 13) dX9_areSigns_13) ?_
  refine Rk.sp (Go.n0 (nmW _)) ?_
  refine Rk.cRZ (pc := 14) (Cl.s [vi a1, vi 0, vi (wr ((bShl 1 (σ 173 553)) - 1))] [] dX9_areSigns_14 ckX9_72 rfl rfl (Nat.le_of_ble_eq_true rfl) (Nat.le_of_ble_eq_true rfl)) (k_Mo_isIn a1 0 (wr ((bShl 1 (σ 173 553)) - 1)) ha1 (inRk 0 rfl) (wrR _)) (fun r1 hr1 => ?_)
  exact Rk.end_ (fun h => G_zreturn (pc := 17) rfl (nz hr1) dX9_areSigns_17 (q_RZ h hr1))
theorem k_Mo_isMessage {κ : Kx} {μ : Sg} (a1 : Int) (σ : Sg) (ha1 : inR a1) (hok : okS σ) : CtRZ κ mX9_isMessage 1 [vr 172, vi a1] true μ σ (Mo_isMessage a1 σ) := by
  intro r h
  refine con_of (by decide) (Nat.le_of_ble_eq_true rfl) 0 ?_
  refine (?_ : Rk κ mX9_isMessage _ 0 [some (vr 172), some (vi a1)] [] (ms true μ σ) (Mo_isMessage a1 σ) (fun a => a = r)) _ h rfl
  unfold Mo_isMessage
  refine Rk.sp (G_iload_n (pc := 0) 1 rfl rfl dX9_isMessage_0) ?_
  refine Rk.sp (G_iconst (pc := 1) dX9_isMessage_1) ?_
  refine Rk.sp (G_aload_n (pc := 2) 0 rfl rfl dX9_isMessage_2) ?_
  refine Rk.gR (pc := 3) 173 flX9_7 cl9 rfl lb172 dX9_isMessage_3 ?_
  refine Rk.sp (G_iconst (pc := 6) dX9_isMessage_6) ?_
  refine Rk.alc (pc := 7) 3 rfl (Nat.le_of_ble_eq_true rfl) lb173 dX9_isMessage_7 ?_
  refine Rk.sp (G_iconst (pc := 8) dX9_isMessage_8) ?_
  refine Rk.sp (G_isub (pc := 9) dX9_isMessage_9) ?_
  refine Rk.sp (Go.n0 (nmW _)) ?_
  refine Rk.cRZ (pc := 10) (Cl.s [vi a1, vi 0, vi (wr ((σ 173 3) - 1))] [] dX9_isMessage_10 ckX9_72 rfl rfl (Nat.le_of_ble_eq_true rfl) (Nat.le_of_ble_eq_true rfl)) (k_Mo_isIn a1 0 (wr ((σ 173 3) - 1)) ha1 (inRk 0 rfl) (wrR _)) (fun r1 hr1 => ?_)
  exact Rk.end_ (fun h => G_zreturn (pc := 13) rfl (nz hr1) dX9_isMessage_13 (q_RZ h hr1))
theorem k_Mo_asks {κ : Kx} {μ : Sg} (a1 : Int) (a2 : Int) (σ : Sg) (ha1 : inR a1) (ha2 : inR a2) (hok : okS σ) : CtI κ mX9_asks 5 [vr 172, vi a1, vi a2] true μ σ (Mo_asks a1 a2 σ) := by
  intro r τ h
  refine con_of (by decide) (Nat.le_of_ble_eq_true rfl) 0 ?_
  refine (?_ : Rk κ mX9_asks _ 0 [some (vr 172), some (vi a1), some (vi a2)] [] (ms true μ σ) (Mo_asks a1 a2 σ) (fun a => a = (r, τ))) _ h rfl
  unfold Mo_asks
  refine Rk.sp (G_aload_n (pc := 0) 0 rfl rfl dX9_asks_0) ?_
  refine Rk.sp (G_iload_n (pc := 1) 1 rfl rfl dX9_asks_1) ?_
  refine Rk.cRZ (pc := 2) (Cl.v [vi a1] [] dX9_asks_2 ckX9_351 lb172 rfl rfl rfl (Nat.le_of_ble_eq_true rfl) (Nat.le_of_ble_eq_true rfl)) (k_Mo_isMessage a1 σ ha1 hok) (fun r1 hr1 => ?_)
  refine Rk.if_ne (pc := 5) (tgt := 11) dX9_asks_5 (nmI (inZ.R hr1)) rfl (fun hc2 => ?_) (fun hc2 => ?_)
  · refine Rk.sp (G_bipush (pc := 8) dX9_asks_8 rfl) ?_
    exact Rk.end_ (fun h => G_ireturn (pc := 10) rfl dX9_asks_10 (q_I h (inRk (-100) rfl) hok))
  · refine Rk.sp (G_aload_n (pc := 11) 0 rfl rfl dX9_asks_11) ?_
    refine Rk.sp (G_iload_n (pc := 12) 1 rfl rfl dX9_asks_12) ?_
    refine Rk.cV (pc := 13) (Cl.v [vi a1] [] dX9_asks_13 ckX9_364 lb172 rfl rfl rfl (Nat.le_of_ble_eq_true rfl) (Nat.le_of_ble_eq_true rfl)) (k_Mo_laysMessage a1 σ ha1 hok) (fun σ3 hσ3 => ?_)
    refine Rk.sp (G_iload_n (pc := 16) 2 rfl rfl dX9_asks_16) ?_
    refine Rk.ite (fun hc4 => ?_) (fun hc4 => ?_)
    · refine Rk.tblI (pc := 17) (tgt := 52) 0 hc4 dX9_asks_17 (nmI ha2) (by decide) (by decide) rfl rfl ?_
      refine Rk.sp (G_aload_n (pc := 52) 0 rfl rfl dX9_asks_52) ?_
      refine Rk.cI (pc := 53) (Cl.v [] [] dX9_asks_53 ckX9_379 lb172 rfl rfl rfl (Nat.le_of_ble_eq_true rfl) (Nat.le_of_ble_eq_true rfl)) (k_Mo_delayNow σ3 hσ3) (fun r5 σ6 hr5 hσ6 => ?_)
      exact Rk.end_ (fun h => G_ireturn (pc := 56) rfl dX9_asks_56 (q_I h hr5 hσ6))
    · refine Rk.ite (fun hc7 => ?_) (fun hc7 => ?_)
      · refine Rk.tblI (pc := 17) (tgt := 57) 1 hc7 dX9_asks_17 (nmI ha2) (by decide) (by decide) rfl rfl ?_
        refine Rk.sp (G_aload_n (pc := 57) 0 rfl rfl dX9_asks_57) ?_
        refine Rk.cI (pc := 58) (Cl.v [] [] dX9_asks_58 ckX9_382 lb172 rfl rfl rfl (Nat.le_of_ble_eq_true rfl) (Nat.le_of_ble_eq_true rfl)) (k_Mo_lastsNow σ3 hσ3) (fun r8 σ9 hr8 hσ9 => ?_)
        exact Rk.end_ (fun h => G_ireturn (pc := 61) rfl dX9_asks_61 (q_I h hr8 hσ9))
      · refine Rk.ite (fun hc10 => ?_) (fun hc10 => ?_)
        · refine Rk.tblI (pc := 17) (tgt := 62) 2 hc10 dX9_asks_17 (nmI ha2) (by decide) (by decide) rfl rfl ?_
          refine Rk.sp (G_aload_n (pc := 62) 0 rfl rfl dX9_asks_62) ?_
          refine Rk.cI (pc := 63) (Cl.v [] [] dX9_asks_63 ckX9_385 lb172 rfl rfl rfl (Nat.le_of_ble_eq_true rfl) (Nat.le_of_ble_eq_true rfl)) (k_Mo_kissNow σ3 hσ3) (fun r11 σ12 hr11 hσ12 => ?_)
          exact Rk.end_ (fun h => G_ireturn (pc := 66) rfl dX9_asks_66 (q_I h hr11 hσ12))
        · refine Rk.ite (fun hc13 => ?_) (fun hc13 => ?_)
          · refine Rk.tblI (pc := 17) (tgt := 67) 3 hc13 dX9_asks_17 (nmI ha2) (by decide) (by decide) rfl rfl ?_
            refine Rk.sp (G_aload_n (pc := 67) 0 rfl rfl dX9_asks_67) ?_
            refine Rk.cI (pc := 68) (Cl.v [] [] dX9_asks_68 ckX9_367 lb172 rfl rfl rfl (Nat.le_of_ble_eq_true rfl) (Nat.le_of_ble_eq_true rfl)) (k_Mo_hurtNow σ3 hσ3) (fun r14 σ15 hr14 hσ15 => ?_)
            exact Rk.end_ (fun h => G_ireturn (pc := 71) rfl dX9_asks_71 (q_I h hr14 hσ15))
          · refine Rk.ite (fun hc16 => ?_) (fun hc16 => ?_)
            · refine Rk.tblI (pc := 17) (tgt := 72) 4 hc16 dX9_asks_17 (nmI ha2) (by decide) (by decide) rfl rfl ?_
              refine Rk.sp (G_aload_n (pc := 72) 0 rfl rfl dX9_asks_72) ?_
              refine Rk.cI (pc := 73) (Cl.v [] [] dX9_asks_73 ckX9_370 lb172 rfl rfl rfl (Nat.le_of_ble_eq_true rfl) (Nat.le_of_ble_eq_true rfl)) (k_Mo_goNow σ3 hσ3) (fun r17 σ18 hr17 hσ18 => ?_)
              exact Rk.end_ (fun h => G_ireturn (pc := 76) rfl dX9_asks_76 (q_I h hr17 hσ18))
            · refine Rk.tblO (pc := 17) (tgt := 77) dX9_asks_17 (nmI ha2) (by omega) rfl ?_
              refine Rk.sp (G_bipush (pc := 77) dX9_asks_77 rfl) ?_
              exact Rk.end_ (fun h => G_ireturn (pc := 79) rfl dX9_asks_79 (q_I h (inRk (-100) rfl) hσ3))
