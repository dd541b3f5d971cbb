theorem k_Mo_see {κ : Kx} {μ : Sg} (a1 : Int) (σ : Sg) (ha1 : inR a1) (hok : okS σ) : CtRI κ mX9_see 0 [vr 172, vi a1] true μ σ (Mo_see a1 σ) := by
  intro r h
  refine con_of (by decide) (Nat.le_of_ble_eq_true rfl) 0 ?_
  refine (?_ : Rk κ mX9_see _ 0 [some (vr 172), some (vi a1)] [] (ms true μ σ) (Mo_see a1 σ) (fun a => a = r)) _ h rfl
  unfold Mo_see
  refine Rk.sp (G_iload_n (pc := 0) 1 rfl rfl dX9_see_0) ?_
  refine Rk.sp (G_aload_n (pc := 1) 0 rfl rfl dX9_see_1) ?_
  refine Rk.gI (pc := 2) flX9_94 cl9 rfl lb172 dX9_see_2 ?_
  refine Rk.icmp_ge (pc := 5) (tgt := 17) dX9_see_5 (nmI ha1) (nmI (hok _ _)) rfl (fun hc1 => ?_) (fun hc1 => ?_)
  · refine Rk.sp (G_aload_n (pc := 8) 0 rfl rfl dX9_see_8) ?_
    refine Rk.gR (pc := 9) 180 flX9_31 cl9 rfl lb172 dX9_see_9 ?_
    refine Rk.sp (G_iload_n (pc := 12) 1 rfl rfl dX9_see_12) ?_
    refine Rk.al (pc := 13) lb180 dX9_see_13 (fun hi2 => ?_)
    refine Rk.sp (G_goto (pc := 14) (tgt := 18) dX9_see_14 rfl) ?_
    exact Rk.end_ (fun h => G_ireturn (pc := 18) rfl dX9_see_18 (q_RI h (hok _ _)))
  · refine Rk.sp (G_iconst (pc := 17) dX9_see_17) ?_
    exact Rk.end_ (fun h => G_ireturn (pc := 18) rfl dX9_see_18 (q_RI h (inRk (-1) rfl)))
theorem k_Mo_isIn {κ : Kx} {b : Bool} {μ σ : Sg} (a1 : Int) (a2 : Int) (a3 : Int) (ha1 : inR a1) (ha2 : inR a2) (ha3 : inR a3) : CtRZ κ mX9_isIn 0 [vi a1, vi a2, vi a3] b μ σ (Mo_isIn a1 a2 a3) := by
  intro r h
  refine con_of (by decide) (Nat.le_of_ble_eq_true rfl) 0 ?_
  refine (?_ : Rk κ mX9_isIn _ 0 [some (vi a1), some (vi a2), some (vi a3)] [] (ms b μ σ) (Mo_isIn a1 a2 a3) (fun a => a = r)) _ h rfl
  unfold Mo_isIn
  refine Rk.sp (G_iload_n (pc := 0) 0 rfl rfl dX9_isIn_0) ?_
  refine Rk.sp (G_iload_n (pc := 1) 1 rfl rfl dX9_isIn_1) ?_
  refine Rk.icmp_lt (pc := 2) (tgt := 14) dX9_isIn_2 (nmI ha1) (nmI ha2) rfl (fun hc1 => ?_) (fun hc1 => ?_)
  · refine Rk.sp (G_iconst (pc := 14) dX9_isIn_14) ?_
    exact Rk.end_ (fun h => G_zreturn (pc := 15) rfl (nz inZ0) dX9_isIn_15 (q_RZ h inZ0))
  · refine Rk.sp (G_iload_n (pc := 5) 0 rfl rfl dX9_isIn_5) ?_
    refine Rk.sp (G_iload_n (pc := 6) 2 rfl rfl dX9_isIn_6) ?_
    refine Rk.icmp_gt (pc := 7) (tgt := 14) dX9_isIn_7 (nmI ha1) (nmI ha3) rfl (fun hc2 => ?_) (fun hc2 => ?_)
    · refine Rk.sp (G_iconst (pc := 14) dX9_isIn_14) ?_
      exact Rk.end_ (fun h => G_zreturn (pc := 15) rfl (nz inZ0) dX9_isIn_15 (q_RZ h inZ0))
    · refine Rk.sp (G_iconst (pc := 10) dX9_isIn_10) ?_
      refine Rk.sp (G_goto (pc := 11) (tgt := 15) dX9_isIn_11 rfl) ?_
      exact Rk.end_ (fun h => G_zreturn (pc := 15) rfl (nz inZ1) dX9_isIn_15 (q_RZ h inZ1))
theorem k_Mo_isLetter {κ : Kx} {b : Bool} {μ σ : Sg} (a1 : Int) (ha1 : inR a1) : CtRZ κ mX9_isLetter 1 [vi a1] b μ σ (Mo_isLetter a1) := by
  intro r h
  refine con_of (by decide) (Nat.le_of_ble_eq_true rfl) 0 ?_
  refine (?_ : Rk κ mX9_isLetter _ 0 [some (vi a1)] [] (ms b μ σ) (Mo_isLetter a1) (fun a => a = r)) _ h rfl
  unfold Mo_isLetter
  refine Rk.sp (G_iload_n (pc := 0) 0 rfl rfl dX9_isLetter_0) ?_
  refine Rk.sp (G_bipush (pc := 1) dX9_isLetter_1 rfl) ?_
  refine Rk.sp (G_bipush (pc := 3) dX9_isLetter_3 rfl) ?_
  refine Rk.cRZ (pc := 5) (Cl.s [vi a1, vi 97, vi 122] [] dX9_isLetter_5 ckX9_72 rfl rfl (Nat.le_of_ble_eq_true rfl) (Nat.le_of_ble_eq_true rfl)) (k_Mo_isIn a1 97 122 ha1 (inRk 97 rfl) (inRk 122 rfl)) (fun r1 hr1 => ?_)
  refine Rk.if_ne (pc := 8) (tgt := 22) dX9_isLetter_8 (nmI (inZ.R hr1)) rfl (fun hc2 => ?_) (fun hc2 => ?_)
  · refine Rk.sp (G_iload_n (pc := 11) 0 rfl rfl dX9_isLetter_11) ?_
    refine Rk.sp (G_bipush (pc := 12) dX9_isLetter_12 rfl) ?_
    refine Rk.sp (G_bipush (pc := 14) dX9_isLetter_14 rfl) ?_
    refine Rk.cRZ (pc := 16) (Cl.s [vi a1, vi 65, vi 90] [] dX9_isLetter_16 ckX9_72 rfl rfl (Nat.le_of_ble_eq_true rfl) (Nat.le_of_ble_eq_true rfl)) (k_Mo_isIn a1 65 90 ha1 (inRk 65 rfl) (inRk 90 rfl)) (fun r3 hr3 => ?_)
    refine Rk.if_eq (pc := 19) (tgt := 26) dX9_isLetter_19 (nmI (inZ.R hr3)) rfl (fun hc4 => ?_) (fun hc4 => ?_)
    · refine Rk.sp (G_iconst (pc := 26) dX9_isLetter_26) ?_
      exact Rk.end_ (fun h => G_zreturn (pc := 27) rfl (nz inZ0) dX9_isLetter_27 (q_RZ h inZ0))
    · refine Rk.sp (G_iconst (pc := 22) dX9_isLetter_22) ?_
      refine Rk.sp (G_goto (pc := 23) (tgt := 27) dX9_isLetter_23 rfl) ?_
      exact Rk.end_ (fun h => G_zreturn (pc := 27) rfl (nz inZ1) dX9_isLetter_27 (q_RZ h inZ1))
  · refine Rk.sp (G_iconst (pc := 22) dX9_isLetter_22) ?_
    refine Rk.sp (G_goto (pc := 23) (tgt := 27) dX9_isLetter_23 rfl) ?_
    exact Rk.end_ (fun h => G_zreturn (pc := 27) rfl (nz inZ1) dX9_isLetter_27 (q_RZ h inZ1))
theorem k_Mo_is {κ : Kx} {μ : Sg} (a1 : Nat) (σ : Sg) (ha1 : a1 < nStr) (hok : okS σ) : CtRZ κ mX9_is 4 [vr 172, vr (1000 + 2 * a1)] true μ σ (Mo_is a1 σ) := by
  intro r h
  refine con_of (by decide) (Nat.le_of_ble_eq_true rfl) 2 ?_
  refine (?_ : Rk κ mX9_is _ 0 [some (vr 172), some (vr (1000 + 2 * a1)), none, none] [] (ms true μ σ) (Mo_is a1 σ) (fun a => a = r)) _ h rfl
  unfold Mo_is
  refine Rk.sp (G_aload_n (pc := 0) 0 rfl rfl dX9_is_0) ?_
  refine Rk.gI (pc := 1) flX9_97 cl9 rfl lb172 dX9_is_1 ?_
  refine Rk.sp (G_aload_n (pc := 4) 0 rfl rfl dX9_is_4) ?_
  refine Rk.gI (pc := 5) flX9_100 cl9 rfl lb172 dX9_is_5 ?_
  refine Rk.sp (G_isub (pc := 8) dX9_is_8) ?_
  refine Rk.sp (G_aload_n (pc := 9) 1 rfl rfl dX9_is_9) ?_
  refine Rk.cRI (pc := 10) (Cl.str [] [vi ((σ 172 17) - (σ 172 19))] dX9_is_10 ckX9_103 ha1 rfl rfl (Nat.le_of_ble_eq_true rfl) (Nat.le_of_ble_eq_true rfl)) (k_sL a1 ha1) (fun r1 hr1 => ?_)
  refine Rk.join (P := fun p => inR p) (pcj := 21) (fun p => [some (vr 172), some (vr (1000 + 2 * a1)), none, none]) (fun p => [vi p]) (fun p => (ms true μ σ)) ?_ (fun p hp => ?_)
  · refine Rk.icmp_ne (pc := 13) (tgt := 20) dX9_is_13 (nmW _) (nmI hr1) rfl (fun hc2 => ?_) (fun hc2 => ?_)
    · refine Rk.sp (G_iconst (pc := 16) dX9_is_16) ?_
      refine Rk.sp (G_goto (pc := 17) (tgt := 21) dX9_is_17 rfl) ?_
      exact Rk.end_ (fun h => h (inRk 1 rfl))
    · refine Rk.sp (G_iconst (pc := 20) dX9_is_20) ?_
      exact Rk.end_ (fun h => h (inRk 0 rfl))
  · revert hp; revert p; intro t3 ht3
    try dsimp only
    refine Rk.isa_n (pc := 21) 2 (L' := [some (vr 172), some (vr (1000 + 2 * a1)), some (vi t3), none]) rfl (Nat.le_of_ble_eq_true rfl) rfl dX9_is_21 rfl ?_
    refine Rk.sp (G_iconst (pc := 22) dX9_is_22) ?_
    refine Rk.isa_n (pc := 23) 3 (L' := [some (vr 172), some (vr (1000 + 2 * a1)), some (vi t3), some (vi 0)]) rfl (Nat.le_of_ble_eq_true rfl) rfl dX9_is_23 rfl ?_
    refine Rk.loop (pc := 24) (B := (fun p => Mo_is_24_b a1 σ p.1 p.2)) (fun p => inR p.1 ∧ inR p.2) (fun p => [some (vr 172), some (vr (1000 + 2 * a1)), some (vi p.1), some (vi p.2)]) (fun p => (ms true μ σ)) (fun p hp => ?_) (t3, 0) ⟨ht3, (inRk 0 rfl)⟩
    obtain ⟨v2_4, v3_5⟩ := p
    obtain ⟨hv2_4, hv3_5⟩ := hp
    try dsimp only
    unfold Mo_is_24_b
    refine Rk.sp (G_iload_n (pc := 24) 3 rfl rfl dX9_is_24) ?_
    refine Rk.sp (G_aload_n (pc := 25) 1 rfl rfl dX9_is_25) ?_
    refine Rk.cRI (pc := 26) (Cl.str [] [vi v3_5] dX9_is_26 ckX9_103 ha1 rfl rfl (Nat.le_of_ble_eq_true rfl) (Nat.le_of_ble_eq_true rfl)) (k_sL a1 ha1) (fun r6 hr6 => ?_)
    refine Rk.icmp_ge (pc := 29) (tgt := 67) dX9_is_29 (nmI hv3_5) (nmI hr6) rfl (fun hc7 => ?_) (fun hc7 => ?_)
    · refine Rk.sp (G_iload_n (pc := 32) 2 rfl rfl dX9_is_32) ?_
      refine Rk.if_eq (pc := 33) (tgt := 67) dX9_is_33 (nmI hv2_4) rfl (fun hc8 => ?_) (fun hc8 => ?_)
      · refine Rk.sp (G_iload_n (pc := 67) 2 rfl rfl dX9_is_67) ?_
        refine Rk.qzb (fun hb9 => ?_)
        exact Rk.end_ (fun h => G_zreturn (pc := 68) rfl (nz hb9) dX9_is_68 (q_RZ h hb9))
      · refine Rk.sp (G_aload_n (pc := 36) 0 rfl rfl dX9_is_36) ?_
        refine Rk.gR (pc := 37) 180 flX9_31 cl9 rfl lb172 dX9_is_37 ?_
        refine Rk.sp (G_aload_n (pc := 40) 0 rfl rfl dX9_is_40) ?_
        refine Rk.gI (pc := 41) flX9_100 cl9 rfl lb172 dX9_is_41 ?_
        refine Rk.sp (G_iload_n (pc := 44) 3 rfl rfl dX9_is_44) ?_
        refine Rk.sp (G_iadd (pc := 45) dX9_is_45) ?_
        refine Rk.al (pc := 46) lb180 dX9_is_46 (fun hi10 => ?_)
        refine Rk.sp (G_aload_n (pc := 47) 1 rfl rfl dX9_is_47) ?_
        refine Rk.sp (G_iload_n (pc := 48) 3 rfl rfl dX9_is_48) ?_
        refine Rk.cRI (pc := 49) (Cl.str [vi v3_5] [vi (σ 180 (((σ 172 19) + v3_5)).toNat)] dX9_is_49 ckX9_109 ha1 rfl rfl (Nat.le_of_ble_eq_true rfl) (Nat.le_of_ble_eq_true rfl)) (k_sC a1 v3_5 ha1 hv3_5) (fun r11 hr11 => ?_)
        refine Rk.icmp_ne (pc := 52) (tgt := 59) dX9_is_52 (nmI (hok _ _)) (nmI hr11) rfl (fun hc12 => ?_) (fun hc12 => ?_)
        · refine Rk.sp (G_iconst (pc := 55) dX9_is_55) ?_
          refine Rk.sp (G_goto (pc := 56) (tgt := 60) dX9_is_56 rfl) ?_
          refine Rk.isa_n (pc := 60) 2 (L' := [some (vr 172), some (vr (1000 + 2 * a1)), some (vi 1), some (vi v3_5)]) rfl (Nat.le_of_ble_eq_true rfl) rfl dX9_is_60 rfl ?_
          refine Rk.inc (pc := 61) 3 (fun v3_13 => [some (vr 172), some (vr (1000 + 2 * a1)), some (vi 1), some (vi v3_13)]) rfl (Nat.le_of_ble_eq_true rfl) rfl dX9_is_61 (fun _ => rfl) (fun v3_13 hv3_13 => ?_)
          refine Rk.sp (G_goto (pc := 64) (tgt := 24) dX9_is_64 rfl) ?_
          exact Rk.end_ (fun h => h ⟨(inRk 1 rfl), hv3_13⟩)
        · refine Rk.sp (G_iconst (pc := 59) dX9_is_59) ?_
          refine Rk.isa_n (pc := 60) 2 (L' := [some (vr 172), some (vr (1000 + 2 * a1)), some (vi 0), some (vi v3_5)]) rfl (Nat.le_of_ble_eq_true rfl) rfl dX9_is_60 rfl ?_
          refine Rk.inc (pc := 61) 3 (fun v3_14 => [some (vr 172), some (vr (1000 + 2 * a1)), some (vi 0), some (vi v3_14)]) rfl (Nat.le_of_ble_eq_true rfl) rfl dX9_is_61 (fun _ => rfl) (fun v3_14 hv3_14 => ?_)
          refine Rk.sp (G_goto (pc := 64) (tgt := 24) dX9_is_64 rfl) ?_
          exact Rk.end_ (fun h => h ⟨(inRk 0 rfl), hv3_14⟩)
    · refine Rk.sp (G_iload_n (pc := 67) 2 rfl rfl dX9_is_67) ?_
      refine Rk.qzb (fun hb15 => ?_)
      exact Rk.end_ (fun h => G_zreturn (pc := 68) rfl (nz hb15) dX9_is_68 (q_RZ h hb15))
theorem k_Mo_asked {κ : Kx} {μ : Sg} (σ : Sg) (hok : okS σ) : CtRI κ mX9_asked 5 [vr 172] true μ σ (Mo_asked σ) := by
  intro r h
  refine con_of (by decide) (Nat.le_of_ble_eq_true rfl) 0 ?_
  refine (?_ : Rk κ mX9_asked _ 0 [some (vr 172)] [] (ms true μ σ) (Mo_asked σ) (fun a => a = r)) _ h rfl
  unfold Mo_asked
  refine Rk.sp (G_aload_n (pc := 0) 0 rfl rfl dX9_asked_0) ?_
  refine Rk.sp (G_ldcS (pc := 1) 13 rfl dX9_asked_1) ?_
  refine Rk.cRZ (pc := 3) (Cl.v [vr (1000 + 2 * 13)] [] dX9_asked_3 ckX9_115 lb172 rfl rfl rfl (Nat.le_of_ble_eq_true rfl) (Nat.le_of_ble_eq_true rfl)) (k_Mo_is 13 σ (by decide) hok) (fun r1 hr1 => ?_)
  refine Rk.if_eq (pc := 6) (tgt := 12) dX9_asked_6 (nmI (inZ.R hr1)) rfl (fun hc2 => ?_) (fun hc2 => ?_)
  · refine Rk.sp (G_aload_n (pc := 12) 0 rfl rfl dX9_asked_12) ?_
    refine Rk.sp (G_ldcS (pc := 13) 14 rfl dX9_asked_13) ?_
    refine Rk.cRZ (pc := 15) (Cl.v [vr (1000 + 2 * 14)] [] dX9_asked_15 ckX9_115 lb172 rfl rfl rfl (Nat.le_of_ble_eq_true rfl) (Nat.le_of_ble_eq_true rfl)) (k_Mo_is 14 σ (by decide) hok) (fun r3 hr3 => ?_)
    refine Rk.if_eq (pc := 18) (tgt := 24) dX9_asked_18 (nmI (inZ.R hr3)) rfl (fun hc4 => ?_) (fun hc4 => ?_)
    · refine Rk.sp (G_aload_n (pc := 24) 0 rfl rfl dX9_asked_24) ?_
      refine Rk.sp (G_ldcS (pc := 25) 15 rfl dX9_asked_25) ?_
      refine Rk.cRZ (pc := 27) (Cl.v [vr (1000 + 2 * 15)] [] dX9_asked_27 ckX9_115 lb172 rfl rfl rfl (Nat.le_of_ble_eq_true rfl) (Nat.le_of_ble_eq_true rfl)) (k_Mo_is 15 σ (by decide) hok) (fun r5 hr5 => ?_)
      refine Rk.if_eq (pc := 30) (tgt := 36) dX9_asked_30 (nmI (inZ.R hr5)) rfl (fun hc6 => ?_) (fun hc6 => ?_)
      · refine Rk.sp (G_aload_n (pc := 36) 0 rfl rfl dX9_asked_36) ?_
        refine Rk.sp (G_ldcS (pc := 37) 16 rfl dX9_asked_37) ?_
        refine Rk.cRZ (pc := 39) (Cl.v [vr (1000 + 2 * 16)] [] dX9_asked_39 ckX9_115 lb172 rfl rfl rfl (Nat.le_of_ble_eq_true rfl) (Nat.le_of_ble_eq_true rfl)) (k_Mo_is 16 σ (by decide) hok) (fun r7 hr7 => ?_)
        refine Rk.if_eq (pc := 42) (tgt := 48) dX9_asked_42 (nmI (inZ.R hr7)) rfl (fun hc8 => ?_) (fun hc8 => ?_)
        · refine Rk.sp (G_aload_n (pc := 48) 0 rfl rfl dX9_asked_48) ?_
          refine Rk.sp (G_ldcS (pc := 49) 17 rfl dX9_asked_49) ?_
          refine Rk.cRZ (pc := 51) (Cl.v [vr (1000 + 2 * 17)] [] dX9_asked_51 ckX9_115 lb172 rfl rfl rfl (Nat.le_of_ble_eq_true rfl) (Nat.le_of_ble_eq_true rfl)) (k_Mo_is 17 σ (by decide) hok) (fun r9 hr9 => ?_)
          refine Rk.if_eq (pc := 54) (tgt := 60) dX9_asked_54 (nmI (inZ.R hr9)) rfl (fun hc10 => ?_) (fun hc10 => ?_)
          · refine Rk.sp (G_aload_n (pc := 60) 0 rfl rfl dX9_asked_60) ?_
            refine Rk.sp (G_ldcS (pc := 61) 18 rfl dX9_asked_61) ?_
            refine Rk.cRZ (pc := 63) (Cl.v [vr (1000 + 2 * 18)] [] dX9_asked_63 ckX9_115 lb172 rfl rfl rfl (Nat.le_of_ble_eq_true rfl) (Nat.le_of_ble_eq_true rfl)) (k_Mo_is 18 σ (by decide) hok) (fun r11 hr11 => ?_)
            refine Rk.if_eq (pc := 66) (tgt := 72) dX9_asked_66 (nmI (inZ.R hr11)) rfl (fun hc12 => ?_) (fun hc12 => ?_)
            · refine Rk.sp (G_aload_n (pc := 72) 0 rfl rfl dX9_asked_72) ?_
              refine Rk.sp (G_ldcS (pc := 73) 19 rfl dX9_asked_73) ?_
              refine Rk.cRZ (pc := 75) (Cl.v [vr (1000 + 2 * 19)] [] dX9_asked_75 ckX9_115 lb172 rfl rfl rfl (Nat.le_of_ble_eq_true rfl) (Nat.le_of_ble_eq_true rfl)) (k_Mo_is 19 σ (by decide) hok) (fun r13 hr13 => ?_)
              refine Rk.if_eq (pc := 78) (tgt := 84) dX9_asked_78 (nmI (inZ.R hr13)) rfl (fun hc14 => ?_) (fun hc14 => ?_)
              · refine Rk.sp (G_aload_n (pc := 84) 0 rfl rfl dX9_asked_84) ?_
                refine Rk.sp (G_ldcS (pc := 85) 20 rfl dX9_asked_85) ?_
                refine Rk.cRZ (pc := 87) (Cl.v [vr (1000 + 2 * 20)] [] dX9_asked_87 ckX9_115 lb172 rfl rfl rfl (Nat.le_of_ble_eq_true rfl) (Nat.le_of_ble_eq_true rfl)) (k_Mo_is 20 σ (by decide) hok) (fun r15 hr15 => ?_)
                refine Rk.if_eq (pc := 90) (tgt := 96) dX9_asked_90 (nmI (inZ.R hr15)) rfl (fun hc16 => ?_) (fun hc16 => ?_)
                · refine Rk.sp (G_aload_n (pc := 96) 0 rfl rfl dX9_asked_96) ?_
                  refine Rk.sp (G_ldcS (pc := 97) 21 rfl dX9_asked_97) ?_
                  refine Rk.cRZ (pc := 99) (Cl.v [vr (1000 + 2 * 21)] [] dX9_asked_99 ckX9_115 lb172 rfl rfl rfl (Nat.le_of_ble_eq_true rfl) (Nat.le_of_ble_eq_true rfl)) (k_Mo_is 21 σ (by decide) hok) (fun r17 hr17 => ?_)
                  refine Rk.if_eq (pc := 102) (tgt := 108) dX9_asked_102 (nmI (inZ.R hr17)) rfl (fun hc18 => ?_) (fun hc18 => ?_)
                  · refine Rk.sp (G_aload_n (pc := 108) 0 rfl rfl dX9_asked_108) ?_
                    refine Rk.sp (G_ldcS (pc := 109) 22 rfl dX9_asked_109) ?_
                    refine Rk.cRZ (pc := 111) (Cl.v [vr (1000 + 2 * 22)] [] dX9_asked_111 ckX9_115 lb172 rfl rfl rfl (Nat.le_of_ble_eq_true rfl) (Nat.le_of_ble_eq_true rfl)) (k_Mo_is 22 σ (by decide) hok) (fun r19 hr19 => ?_)
                    refine Rk.if_eq (pc := 114) (tgt := 122) dX9_asked_114 (nmI (inZ.R hr19)) rfl (fun hc20 => ?_) (fun hc20 => ?_)
                    · refine Rk.sp (G_iconst (pc := 122) dX9_asked_122) ?_
                      exact Rk.end_ (fun h => G_ireturn (pc := 123) rfl dX9_asked_123 (q_RI h (inRk 1 rfl)))
                    · refine Rk.sp (G_bipush (pc := 117) dX9_asked_117 rfl) ?_
                      refine Rk.sp (G_goto (pc := 119) (tgt := 123) dX9_asked_119 rfl) ?_
                      exact Rk.end_ (fun h => G_ireturn (pc := 123) rfl dX9_asked_123 (q_RI h (inRk 50 rfl)))
                  · refine Rk.sp (G_bipush (pc := 105) dX9_asked_105 rfl) ?_
                    exact Rk.end_ (fun h => G_ireturn (pc := 107) rfl dX9_asked_107 (q_RI h (inRk 49 rfl)))
                · refine Rk.sp (G_bipush (pc := 93) dX9_asked_93 rfl) ?_
                  exact Rk.end_ (fun h => G_ireturn (pc := 95) rfl dX9_asked_95 (q_RI h (inRk 48 rfl)))
              · refine Rk.sp (G_bipush (pc := 81) dX9_asked_81 rfl) ?_
                exact Rk.end_ (fun h => G_ireturn (pc := 83) rfl dX9_asked_83 (q_RI h (inRk 47 rfl)))
            · refine Rk.sp (G_bipush (pc := 69) dX9_asked_69 rfl) ?_
              exact Rk.end_ (fun h => G_ireturn (pc := 71) rfl dX9_asked_71 (q_RI h (inRk 46 rfl)))
          · refine Rk.sp (G_bipush (pc := 57) dX9_asked_57 rfl) ?_
            exact Rk.end_ (fun h => G_ireturn (pc := 59) rfl dX9_asked_59 (q_RI h (inRk 45 rfl)))
        · refine Rk.sp (G_bipush (pc := 45) dX9_asked_45 rfl) ?_
          exact Rk.end_ (fun h => G_ireturn (pc := 47) rfl dX9_asked_47 (q_RI h (inRk 44 rfl)))
      · refine Rk.sp (G_bipush (pc := 33) dX9_asked_33 rfl) ?_
        exact Rk.end_ (fun h => G_ireturn (pc := 35) rfl dX9_asked_35 (q_RI h (inRk 43 rfl)))
    · refine Rk.sp (G_bipush (pc := 21) dX9_asked_21 rfl) ?_
      exact Rk.end_ (fun h => G_ireturn (pc := 23) rfl dX9_asked_23 (q_RI h (inRk 42 rfl)))
  · refine Rk.sp (G_bipush (pc := 9) dX9_asked_9 rfl) ?_
    exact Rk.end_ (fun h => G_ireturn (pc := 11) rfl dX9_asked_11 (q_RI h (inRk 41 rfl)))
theorem k_Mo_lawWord {κ : Kx} {μ : Sg} (σ : Sg) (hok : okS σ) : CtRI κ mX9_lawWord 6 [vr 172] true μ σ (Mo_lawWord σ) := by
  intro r h
  refine con_of (by decide) (Nat.le_of_ble_eq_true rfl) 0 ?_
  refine (?_ : Rk κ mX9_lawWord _ 0 [some (vr 172)] [] (ms true μ σ) (Mo_lawWord σ) (fun a => a = r)) _ h rfl
  unfold Mo_lawWord
  refine Rk.sp (G_aload_n (pc := 0) 0 rfl rfl dX9_lawWord_0) ?_
  refine Rk.sp (G_ldcS (pc := 1) 4 rfl dX9_lawWord_1) ?_
  refine Rk.cRZ (pc := 3) (Cl.v [vr (1000 + 2 * 4)] [] dX9_lawWord_3 ckX9_115 lb172 rfl rfl rfl (Nat.le_of_ble_eq_true rfl) (Nat.le_of_ble_eq_true rfl)) (k_Mo_is 4 σ (by decide) hok) (fun r1 hr1 => ?_)
  refine Rk.if_eq (pc := 6) (tgt := 11) dX9_lawWord_6 (nmI (inZ.R hr1)) rfl (fun hc2 => ?_) (fun hc2 => ?_)
  · refine Rk.sp (G_aload_n (pc := 11) 0 rfl rfl dX9_lawWord_11) ?_
    refine Rk.sp (G_ldcS (pc := 12) 5 rfl dX9_lawWord_12) ?_
    refine Rk.cRZ (pc := 14) (Cl.v [vr (1000 + 2 * 5)] [] dX9_lawWord_14 ckX9_115 lb172 rfl rfl rfl (Nat.le_of_ble_eq_true rfl) (Nat.le_of_ble_eq_true rfl)) (k_Mo_is 5 σ (by decide) hok) (fun r3 hr3 => ?_)
    refine Rk.if_eq (pc := 17) (tgt := 22) dX9_lawWord_17 (nmI (inZ.R hr3)) rfl (fun hc4 => ?_) (fun hc4 => ?_)
    · refine Rk.sp (G_aload_n (pc := 22) 0 rfl rfl dX9_lawWord_22) ?_
      refine Rk.sp (G_ldcS (pc := 23) 6 rfl dX9_lawWord_23) ?_
      refine Rk.cRZ (pc := 25) (Cl.v [vr (1000 + 2 * 6)] [] dX9_lawWord_25 ckX9_115 lb172 rfl rfl rfl (Nat.le_of_ble_eq_true rfl) (Nat.le_of_ble_eq_true rfl)) (k_Mo_is 6 σ (by decide) hok) (fun r5 hr5 => ?_)
      refine Rk.if_eq (pc := 28) (tgt := 33) dX9_lawWord_28 (nmI (inZ.R hr5)) rfl (fun hc6 => ?_) (fun hc6 => ?_)
      · refine Rk.sp (G_aload_n (pc := 33) 0 rfl rfl dX9_lawWord_33) ?_
        refine Rk.sp (G_ldcS (pc := 34) 7 rfl dX9_lawWord_34) ?_
        refine Rk.cRZ (pc := 36) (Cl.v [vr (1000 + 2 * 7)] [] dX9_lawWord_36 ckX9_115 lb172 rfl rfl rfl (Nat.le_of_ble_eq_true rfl) (Nat.le_of_ble_eq_true rfl)) (k_Mo_is 7 σ (by decide) hok) (fun r7 hr7 => ?_)
        refine Rk.if_eq (pc := 39) (tgt := 45) dX9_lawWord_39 (nmI (inZ.R hr7)) rfl (fun hc8 => ?_) (fun hc8 => ?_)
        · refine Rk.sp (G_aload_n (pc := 45) 0 rfl rfl dX9_lawWord_45) ?_
          refine Rk.sp (G_ldcS (pc := 46) 8 rfl dX9_lawWord_46) ?_
          refine Rk.cRZ (pc := 48) (Cl.v [vr (1000 + 2 * 8)] [] dX9_lawWord_48 ckX9_115 lb172 rfl rfl rfl (Nat.le_of_ble_eq_true rfl) (Nat.le_of_ble_eq_true rfl)) (k_Mo_is 8 σ (by decide) hok) (fun r9 hr9 => ?_)
          refine Rk.if_eq (pc := 51) (tgt := 57) dX9_lawWord_51 (nmI (inZ.R hr9)) rfl (fun hc10 => ?_) (fun hc10 => ?_)
          · refine Rk.sp (G_aload_n (pc := 57) 0 rfl rfl dX9_lawWord_57) ?_
            refine Rk.sp (G_ldcS (pc := 58) 9 rfl dX9_lawWord_58) ?_
            refine Rk.cRZ (pc := 60) (Cl.v [vr (1000 + 2 * 9)] [] dX9_lawWord_60 ckX9_115 lb172 rfl rfl rfl (Nat.le_of_ble_eq_true rfl) (Nat.le_of_ble_eq_true rfl)) (k_Mo_is 9 σ (by decide) hok) (fun r11 hr11 => ?_)
            refine Rk.if_eq (pc := 63) (tgt := 69) dX9_lawWord_63 (nmI (inZ.R hr11)) rfl (fun hc12 => ?_) (fun hc12 => ?_)
            · refine Rk.sp (G_aload_n (pc := 69) 0 rfl rfl dX9_lawWord_69) ?_
              refine Rk.sp (G_ldcS (pc := 70) 10 rfl dX9_lawWord_70) ?_
              refine Rk.cRZ (pc := 72) (Cl.v [vr (1000 + 2 * 10)] [] dX9_lawWord_72 ckX9_115 lb172 rfl rfl rfl (Nat.le_of_ble_eq_true rfl) (Nat.le_of_ble_eq_true rfl)) (k_Mo_is 10 σ (by decide) hok) (fun r13 hr13 => ?_)
              refine Rk.if_eq (pc := 75) (tgt := 81) dX9_lawWord_75 (nmI (inZ.R hr13)) rfl (fun hc14 => ?_) (fun hc14 => ?_)
              · refine Rk.sp (G_aload_n (pc := 81) 0 rfl rfl dX9_lawWord_81) ?_
                refine Rk.sp (G_ldcS (pc := 82) 11 rfl dX9_lawWord_82) ?_
                refine Rk.cRZ (pc := 84) (Cl.v [vr (1000 + 2 * 11)] [] dX9_lawWord_84 ckX9_115 lb172 rfl rfl rfl (Nat.le_of_ble_eq_true rfl) (Nat.le_of_ble_eq_true rfl)) (k_Mo_is 11 σ (by decide) hok) (fun r15 hr15 => ?_)
                refine Rk.if_eq (pc := 87) (tgt := 93) dX9_lawWord_87 (nmI (inZ.R hr15)) rfl (fun hc16 => ?_) (fun hc16 => ?_)
                · refine Rk.sp (G_aload_n (pc := 93) 0 rfl rfl dX9_lawWord_93) ?_
                  refine Rk.sp (G_ldcS (pc := 94) 12 rfl dX9_lawWord_94) ?_
                  refine Rk.cRZ (pc := 96) (Cl.v [vr (1000 + 2 * 12)] [] dX9_lawWord_96 ckX9_115 lb172 rfl rfl rfl (Nat.le_of_ble_eq_true rfl) (Nat.le_of_ble_eq_true rfl)) (k_Mo_is 12 σ (by decide) hok) (fun r17 hr17 => ?_)
                  refine Rk.if_eq (pc := 99) (tgt := 107) dX9_lawWord_99 (nmI (inZ.R hr17)) rfl (fun hc18 => ?_) (fun hc18 => ?_)
                  · refine Rk.sp (G_aload_n (pc := 107) 0 rfl rfl dX9_lawWord_107) ?_
                    refine Rk.cRI (pc := 108) (Cl.v [] [] dX9_lawWord_108 ckX9_155 lb172 rfl rfl rfl (Nat.le_of_ble_eq_true rfl) (Nat.le_of_ble_eq_true rfl)) (k_Mo_asked σ hok) (fun r19 hr19 => ?_)
                    exact Rk.end_ (fun h => G_ireturn (pc := 111) rfl dX9_lawWord_111 (q_RI h hr19))
                  · refine Rk.sp (G_bipush (pc := 102) dX9_lawWord_102 rfl) ?_
                    refine Rk.sp (G_goto (pc := 104) (tgt := 111) dX9_lawWord_104 rfl) ?_
                    exact Rk.end_ (fun h => G_ireturn (pc := 111) rfl dX9_lawWord_111 (q_RI h (inRk 24 rfl)))
                · refine Rk.sp (G_bipush (pc := 90) dX9_lawWord_90 rfl) ?_
                  exact Rk.end_ (fun h => G_ireturn (pc := 92) rfl dX9_lawWord_92 (q_RI h (inRk 23 rfl)))
              · refine Rk.sp (G_bipush (pc := 78) dX9_lawWord_78 rfl) ?_
                exact Rk.end_ (fun h => G_ireturn (pc := 80) rfl dX9_lawWord_80 (q_RI h (inRk 22 rfl)))
            · refine Rk.sp (G_bipush (pc := 66) dX9_lawWord_66 rfl) ?_
              exact Rk.end_ (fun h => G_ireturn (pc := 68) rfl dX9_lawWord_68 (q_RI h (inRk 21 rfl)))
          · refine Rk.sp (G_bipush (pc := 54) dX9_lawWord_54 rfl) ?_
            exact Rk.end_ (fun h => G_ireturn (pc := 56) rfl dX9_lawWord_56 (q_RI h (inRk 20 rfl)))
        · refine Rk.sp (G_bipush (pc := 42) dX9_lawWord_42 rfl) ?_
          exact Rk.end_ (fun h => G_ireturn (pc := 44) rfl dX9_lawWord_44 (q_RI h (inRk 6 rfl)))
      · refine Rk.sp (G_iconst (pc := 31) dX9_lawWord_31) ?_
        exact Rk.end_ (fun h => G_ireturn (pc := 32) rfl dX9_lawWord_32 (q_RI h (inRk 5 rfl)))
    · refine Rk.sp (G_iconst (pc := 20) dX9_lawWord_20) ?_
      exact Rk.end_ (fun h => G_ireturn (pc := 21) rfl dX9_lawWord_21 (q_RI h (inRk 4 rfl)))
  · refine Rk.sp (G_iconst (pc := 9) dX9_lawWord_9) ?_
    exact Rk.end_ (fun h => G_ireturn (pc := 10) rfl dX9_lawWord_10 (q_RI h (inRk 3 rfl)))
theorem k_Mo_hourWord {κ : Kx} {μ : Sg} (σ : Sg) (hok : okS σ) : CtRI κ mX9_hourWord 5 [vr 172] true μ σ (Mo_hourWord σ) := by
  intro r h
  refine con_of (by decide) (Nat.le_of_ble_eq_true rfl) 0 ?_
  refine (?_ : Rk κ mX9_hourWord _ 0 [some (vr 172)] [] (ms true μ σ) (Mo_hourWord σ) (fun a => a = r)) _ h rfl
  unfold Mo_hourWord
  refine Rk.sp (G_aload_n (pc := 0) 0 rfl rfl dX9_hourWord_0) ?_
  refine Rk.sp (G_ldcS (pc := 1) 13 rfl dX9_hourWord_1) ?_
  refine Rk.cRZ (pc := 3) (Cl.v [vr (1000 + 2 * 13)] [] dX9_hourWord_3 ckX9_115 lb172 rfl rfl rfl (Nat.le_of_ble_eq_true rfl) (Nat.le_of_ble_eq_true rfl)) (k_Mo_is 13 σ (by decide) hok) (fun r1 hr1 => ?_)
  refine Rk.if_eq (pc := 6) (tgt := 12) dX9_hourWord_6 (nmI (inZ.R hr1)) rfl (fun hc2 => ?_) (fun hc2 => ?_)
  · refine Rk.sp (G_aload_n (pc := 12) 0 rfl rfl dX9_hourWord_12) ?_
    refine Rk.sp (G_ldcS (pc := 13) 23 rfl dX9_hourWord_13) ?_
    refine Rk.cRZ (pc := 15) (Cl.v [vr (1000 + 2 * 23)] [] dX9_hourWord_15 ckX9_115 lb172 rfl rfl rfl (Nat.le_of_ble_eq_true rfl) (Nat.le_of_ble_eq_true rfl)) (k_Mo_is 23 σ (by decide) hok) (fun r3 hr3 => ?_)
    refine Rk.if_eq (pc := 18) (tgt := 24) dX9_hourWord_18 (nmI (inZ.R hr3)) rfl (fun hc4 => ?_) (fun hc4 => ?_)
    · refine Rk.sp (G_aload_n (pc := 24) 0 rfl rfl dX9_hourWord_24) ?_
      refine Rk.sp (G_ldcS (pc := 25) 24 rfl dX9_hourWord_25) ?_
      refine Rk.cRZ (pc := 27) (Cl.v [vr (1000 + 2 * 24)] [] dX9_hourWord_27 ckX9_115 lb172 rfl rfl rfl (Nat.le_of_ble_eq_true rfl) (Nat.le_of_ble_eq_true rfl)) (k_Mo_is 24 σ (by decide) hok) (fun r5 hr5 => ?_)
      refine Rk.if_eq (pc := 30) (tgt := 36) dX9_hourWord_30 (nmI (inZ.R hr5)) rfl (fun hc6 => ?_) (fun hc6 => ?_)
      · refine Rk.sp (G_aload_n (pc := 36) 0 rfl rfl dX9_hourWord_36) ?_
        refine Rk.sp (G_ldcS (pc := 37) 25 rfl dX9_hourWord_37) ?_
        refine Rk.cRZ (pc := 39) (Cl.v [vr (1000 + 2 * 25)] [] dX9_hourWord_39 ckX9_115 lb172 rfl rfl rfl (Nat.le_of_ble_eq_true rfl) (Nat.le_of_ble_eq_true rfl)) (k_Mo_is 25 σ (by decide) hok) (fun r7 hr7 => ?_)
        refine Rk.if_eq (pc := 42) (tgt := 48) dX9_hourWord_42 (nmI (inZ.R hr7)) rfl (fun hc8 => ?_) (fun hc8 => ?_)
        · refine Rk.sp (G_aload_n (pc := 48) 0 rfl rfl dX9_hourWord_48) ?_
          refine Rk.sp (G_ldcS (pc := 49) 19 rfl dX9_hourWord_49) ?_
          refine Rk.cRZ (pc := 51) (Cl.v [vr (1000 + 2 * 19)] [] dX9_hourWord_51 ckX9_115 lb172 rfl rfl rfl (Nat.le_of_ble_eq_true rfl) (Nat.le_of_ble_eq_true rfl)) (k_Mo_is 19 σ (by decide) hok) (fun r9 hr9 => ?_)
          refine Rk.if_eq (pc := 54) (tgt := 60) dX9_hourWord_54 (nmI (inZ.R hr9)) rfl (fun hc10 => ?_) (fun hc10 => ?_)
          · refine Rk.sp (G_aload_n (pc := 60) 0 rfl rfl dX9_hourWord_60) ?_
            refine Rk.sp (G_ldcS (pc := 61) 26 rfl dX9_hourWord_61) ?_
            refine Rk.cRZ (pc := 63) (Cl.v [vr (1000 + 2 * 26)] [] dX9_hourWord_63 ckX9_115 lb172 rfl rfl rfl (Nat.le_of_ble_eq_true rfl) (Nat.le_of_ble_eq_true rfl)) (k_Mo_is 26 σ (by decide) hok) (fun r11 hr11 => ?_)
            refine Rk.if_eq (pc := 66) (tgt := 72) dX9_hourWord_66 (nmI (inZ.R hr11)) rfl (fun hc12 => ?_) (fun hc12 => ?_)
            · refine Rk.sp (G_aload_n (pc := 72) 0 rfl rfl dX9_hourWord_72) ?_
              refine Rk.sp (G_ldcS (pc := 73) 27 rfl dX9_hourWord_73) ?_
              refine Rk.cRZ (pc := 75) (Cl.v [vr (1000 + 2 * 27)] [] dX9_hourWord_75 ckX9_115 lb172 rfl rfl rfl (Nat.le_of_ble_eq_true rfl) (Nat.le_of_ble_eq_true rfl)) (k_Mo_is 27 σ (by decide) hok) (fun r13 hr13 => ?_)
              refine Rk.if_eq (pc := 78) (tgt := 86) dX9_hourWord_78 (nmI (inZ.R hr13)) rfl (fun hc14 => ?_) (fun hc14 => ?_)
              · refine Rk.sp (G_iconst (pc := 86) dX9_hourWord_86) ?_
                exact Rk.end_ (fun h => G_ireturn (pc := 87) rfl dX9_hourWord_87 (q_RI h (inRk 1 rfl)))
              · refine Rk.sp (G_bipush (pc := 81) dX9_hourWord_81 rfl) ?_
                refine Rk.sp (G_goto (pc := 83) (tgt := 87) dX9_hourWord_83 rfl) ?_
                exact Rk.end_ (fun h => G_ireturn (pc := 87) rfl dX9_hourWord_87 (q_RI h (inRk 33 rfl)))
            · refine Rk.sp (G_bipush (pc := 69) dX9_hourWord_69 rfl) ?_
              exact Rk.end_ (fun h => G_ireturn (pc := 71) rfl dX9_hourWord_71 (q_RI h (inRk 32 rfl)))
          · refine Rk.sp (G_bipush (pc := 57) dX9_hourWord_57 rfl) ?_
            exact Rk.end_ (fun h => G_ireturn (pc := 59) rfl dX9_hourWord_59 (q_RI h (inRk 31 rfl)))
        · refine Rk.sp (G_bipush (pc := 45) dX9_hourWord_45 rfl) ?_
          exact Rk.end_ (fun h => G_ireturn (pc := 47) rfl dX9_hourWord_47 (q_RI h (inRk 30 rfl)))
      · refine Rk.sp (G_bipush (pc := 33) dX9_hourWord_33 rfl) ?_
        exact Rk.end_ (fun h => G_ireturn (pc := 35) rfl dX9_hourWord_35 (q_RI h (inRk 9 rfl)))
    · refine Rk.sp (G_bipush (pc := 21) dX9_hourWord_21 rfl) ?_
      exact Rk.end_ (fun h => G_ireturn (pc := 23) rfl dX9_hourWord_23 (q_RI h (inRk 8 rfl)))
  · refine Rk.sp (G_bipush (pc := 9) dX9_hourWord_9 rfl) ?_
    exact Rk.end_ (fun h => G_ireturn (pc := 11) rfl dX9_hourWord_11 (q_RI h (inRk 7 rfl)))
theorem k_Mo_sayingWord {κ : Kx} {μ : Sg} (σ : Sg) (hok : okS σ) : CtRI κ mX9_sayingWord 5 [vr 172] true μ σ (Mo_sayingWord σ) := by
  intro r h
  refine con_of (by decide) (Nat.le_of_ble_eq_true rfl) 0 ?_
  refine (?_ : Rk κ mX9_sayingWord _ 0 [some (vr 172)] [] (ms true μ σ) (Mo_sayingWord σ) (fun a => a = r)) _ h rfl
  unfold Mo_sayingWord
  refine Rk.sp (G_aload_n (pc := 0) 0 rfl rfl dX9_sayingWord_0) ?_
  refine Rk.sp (G_ldcS (pc := 1) 28 rfl dX9_sayingWord_1) ?_
  refine Rk.cRZ (pc := 3) (Cl.v [vr (1000 + 2 * 28)] [] dX9_sayingWord_3 ckX9_115 lb172 rfl rfl rfl (Nat.le_of_ble_eq_true rfl) (Nat.le_of_ble_eq_true rfl)) (k_Mo_is 28 σ (by decide) hok) (fun r1 hr1 => ?_)
  refine Rk.if_eq (pc := 6) (tgt := 12) dX9_sayingWord_6 (nmI (inZ.R hr1)) rfl (fun hc2 => ?_) (fun hc2 => ?_)
  · refine Rk.sp (G_aload_n (pc := 12) 0 rfl rfl dX9_sayingWord_12) ?_
    refine Rk.sp (G_ldcS (pc := 13) 13 rfl dX9_sayingWord_13) ?_
    refine Rk.cRZ (pc := 15) (Cl.v [vr (1000 + 2 * 13)] [] dX9_sayingWord_15 ckX9_115 lb172 rfl rfl rfl (Nat.le_of_ble_eq_true rfl) (Nat.le_of_ble_eq_true rfl)) (k_Mo_is 13 σ (by decide) hok) (fun r3 hr3 => ?_)
    refine Rk.if_eq (pc := 18) (tgt := 24) dX9_sayingWord_18 (nmI (inZ.R hr3)) rfl (fun hc4 => ?_) (fun hc4 => ?_)
    · refine Rk.sp (G_aload_n (pc := 24) 0 rfl rfl dX9_sayingWord_24) ?_
      refine Rk.sp (G_ldcS (pc := 25) 29 rfl dX9_sayingWord_25) ?_
      refine Rk.cRZ (pc := 27) (Cl.v [vr (1000 + 2 * 29)] [] dX9_sayingWord_27 ckX9_115 lb172 rfl rfl rfl (Nat.le_of_ble_eq_true rfl) (Nat.le_of_ble_eq_true rfl)) (k_Mo_is 29 σ (by decide) hok) (fun r5 hr5 => ?_)
      refine Rk.if_eq (pc := 30) (tgt := 36) dX9_sayingWord_30 (nmI (inZ.R hr5)) rfl (fun hc6 => ?_) (fun hc6 => ?_)
      · refine Rk.sp (G_aload_n (pc := 36) 0 rfl rfl dX9_sayingWord_36) ?_
        refine Rk.sp (G_ldcS (pc := 37) 17 rfl dX9_sayingWord_37) ?_
        refine Rk.cRZ (pc := 39) (Cl.v [vr (1000 + 2 * 17)] [] dX9_sayingWord_39 ckX9_115 lb172 rfl rfl rfl (Nat.le_of_ble_eq_true rfl) (Nat.le_of_ble_eq_true rfl)) (k_Mo_is 17 σ (by decide) hok) (fun r7 hr7 => ?_)
        refine Rk.if_eq (pc := 42) (tgt := 48) dX9_sayingWord_42 (nmI (inZ.R hr7)) rfl (fun hc8 => ?_) (fun hc8 => ?_)
        · refine Rk.sp (G_aload_n (pc := 48) 0 rfl rfl dX9_sayingWord_48) ?_
          refine Rk.sp (G_ldcS (pc := 49) 18 rfl dX9_sayingWord_49) ?_
          refine Rk.cRZ (pc := 51) (Cl.v [vr (1000 + 2 * 18)] [] dX9_sayingWord_51 ckX9_115 lb172 rfl rfl rfl (Nat.le_of_ble_eq_true rfl) (Nat.le_of_ble_eq_true rfl)) (k_Mo_is 18 σ (by decide) hok) (fun r9 hr9 => ?_)
          refine Rk.if_eq (pc := 54) (tgt := 60) dX9_sayingWord_54 (nmI (inZ.R hr9)) rfl (fun hc10 => ?_) (fun hc10 => ?_)
          · refine Rk.sp (G_aload_n (pc := 60) 0 rfl rfl dX9_sayingWord_60) ?_
            refine Rk.sp (G_ldcS (pc := 61) 30 rfl dX9_sayingWord_61) ?_
            refine Rk.cRZ (pc := 63) (Cl.v [vr (1000 + 2 * 30)] [] dX9_sayingWord_63 ckX9_115 lb172 rfl rfl rfl (Nat.le_of_ble_eq_true rfl) (Nat.le_of_ble_eq_true rfl)) (k_Mo_is 30 σ (by decide) hok) (fun r11 hr11 => ?_)
            refine Rk.if_eq (pc := 66) (tgt := 74) dX9_sayingWord_66 (nmI (inZ.R hr11)) rfl (fun hc12 => ?_) (fun hc12 => ?_)
            · refine Rk.sp (G_iconst (pc := 74) dX9_sayingWord_74) ?_
              exact Rk.end_ (fun h => G_ireturn (pc := 75) rfl dX9_sayingWord_75 (q_RI h (inRk 1 rfl)))
            · refine Rk.sp (G_bipush (pc := 69) dX9_sayingWord_69 rfl) ?_
              refine Rk.sp (G_goto (pc := 71) (tgt := 75) dX9_sayingWord_71 rfl) ?_
              exact Rk.end_ (fun h => G_ireturn (pc := 75) rfl dX9_sayingWord_75 (q_RI h (inRk 14 rfl)))
          · refine Rk.sp (G_bipush (pc := 57) dX9_sayingWord_57 rfl) ?_
            exact Rk.end_ (fun h => G_ireturn (pc := 59) rfl dX9_sayingWord_59 (q_RI h (inRk 13 rfl)))
        · refine Rk.sp (G_bipush (pc := 45) dX9_sayingWord_45 rfl) ?_
          exact Rk.end_ (fun h => G_ireturn (pc := 47) rfl dX9_sayingWord_47 (q_RI h (inRk 12 rfl)))
      · refine Rk.sp (G_bipush (pc := 33) dX9_sayingWord_33 rfl) ?_
        exact Rk.end_ (fun h => G_ireturn (pc := 35) rfl dX9_sayingWord_35 (q_RI h (inRk 11 rfl)))
    · refine Rk.sp (G_bipush (pc := 21) dX9_sayingWord_21 rfl) ?_
      exact Rk.end_ (fun h => G_ireturn (pc := 23) rfl dX9_sayingWord_23 (q_RI h (inRk 7 rfl)))
  · refine Rk.sp (G_bipush (pc := 9) dX9_sayingWord_9 rfl) ?_
    exact Rk.end_ (fun h => G_ireturn (pc := 11) rfl dX9_sayingWord_11 (q_RI h (inRk 10 rfl)))
theorem k_Mo_word {κ : Kx} {μ : Sg} (σ : Sg) (hok : okS σ) : CtRI κ mX9_word 7 [vr 172] true μ σ (Mo_word σ) := by
  intro r h
  refine con_of (by decide) (Nat.le_of_ble_eq_true rfl) 0 ?_
  refine (?_ : Rk κ mX9_word _ 0 [some (vr 172)] [] (ms true μ σ) (Mo_word σ) (fun a => a = r)) _ h rfl
  unfold Mo_word
  refine Rk.sp (G_aload_n (pc := 0) 0 rfl rfl dX9_word_0) ?_
  refine Rk.gI (pc := 1) flX9_173 cl9 rfl lb172 dX9_word_1 ?_
  refine Rk.ite (fun hc1 => ?_) (fun hc1 => ?_)
  · refine Rk.tblI (pc := 4) (tgt := 32) 0 hc1 dX9_word_4 (nmI (hok _ _)) (by decide) (by decide) rfl rfl ?_
    refine Rk.sp (G_aload_n (pc := 32) 0 rfl rfl dX9_word_32) ?_
    refine Rk.cRI (pc := 33) (Cl.v [] [] dX9_word_33 ckX9_176 lb172 rfl rfl rfl (Nat.le_of_ble_eq_true rfl) (Nat.le_of_ble_eq_true rfl)) (k_Mo_lawWord σ hok) (fun r2 hr2 => ?_)
    exact Rk.end_ (fun h => G_ireturn (pc := 36) rfl dX9_word_36 (q_RI h hr2))
  · refine Rk.ite (fun hc3 => ?_) (fun hc3 => ?_)
    · refine Rk.tblI (pc := 4) (tgt := 37) 1 hc3 dX9_word_4 (nmI (hok _ _)) (by decide) (by decide) rfl rfl ?_
      refine Rk.sp (G_aload_n (pc := 37) 0 rfl rfl dX9_word_37) ?_
      refine Rk.cRI (pc := 38) (Cl.v [] [] dX9_word_38 ckX9_179 lb172 rfl rfl rfl (Nat.le_of_ble_eq_true rfl) (Nat.le_of_ble_eq_true rfl)) (k_Mo_hourWord σ hok) (fun r4 hr4 => ?_)
      exact Rk.end_ (fun h => G_ireturn (pc := 41) rfl dX9_word_41 (q_RI h hr4))
    · refine Rk.ite (fun hc5 => ?_) (fun hc5 => ?_)
      · refine Rk.tblI (pc := 4) (tgt := 42) 2 hc5 dX9_word_4 (nmI (hok _ _)) (by decide) (by decide) rfl rfl ?_
        refine Rk.sp (G_aload_n (pc := 42) 0 rfl rfl dX9_word_42) ?_
        refine Rk.cRI (pc := 43) (Cl.v [] [] dX9_word_43 ckX9_182 lb172 rfl rfl rfl (Nat.le_of_ble_eq_true rfl) (Nat.le_of_ble_eq_true rfl)) (k_Mo_sayingWord σ hok) (fun r6 hr6 => ?_)
        exact Rk.end_ (fun h => G_ireturn (pc := 46) rfl dX9_word_46 (q_RI h hr6))
      · refine Rk.tblO (pc := 4) (tgt := 47) dX9_word_4 (nmI (hok _ _)) (by omega) rfl ?_
        refine Rk.sp (G_aload_n (pc := 47) 0 rfl rfl dX9_word_47) ?_
        refine Rk.sp (G_ldcS (pc := 48) 31 rfl dX9_word_48) ?_
        refine Rk.cRZ (pc := 50) (Cl.v [vr (1000 + 2 * 31)] [] dX9_word_50 ckX9_115 lb172 rfl rfl rfl (Nat.le_of_ble_eq_true rfl) (Nat.le_of_ble_eq_true rfl)) (k_Mo_is 31 σ (by decide) hok) (fun r7 hr7 => ?_)
        refine Rk.if_eq (pc := 53) (tgt := 61) dX9_word_53 (nmI (inZ.R hr7)) rfl (fun hc8 => ?_) (fun hc8 => ?_)
        · refine Rk.sp (G_aload_n (pc := 61) 0 rfl rfl dX9_word_61) ?_
          refine Rk.sp (G_ldcS (pc := 62) 32 rfl dX9_word_62) ?_
          refine Rk.cRZ (pc := 64) (Cl.v [vr (1000 + 2 * 32)] [] dX9_word_64 ckX9_115 lb172 rfl rfl rfl (Nat.le_of_ble_eq_true rfl) (Nat.le_of_ble_eq_true rfl)) (k_Mo_is 32 σ (by decide) hok) (fun r9 hr9 => ?_)
          refine Rk.if_eq (pc := 67) (tgt := 75) dX9_word_67 (nmI (inZ.R hr9)) rfl (fun hc10 => ?_) (fun hc10 => ?_)
          · refine Rk.sp (G_aload_n (pc := 75) 0 rfl rfl dX9_word_75) ?_
            refine Rk.sp (G_ldcS (pc := 76) 14 rfl dX9_word_76) ?_
            refine Rk.cRZ (pc := 78) (Cl.v [vr (1000 + 2 * 14)] [] dX9_word_78 ckX9_115 lb172 rfl rfl rfl (Nat.le_of_ble_eq_true rfl) (Nat.le_of_ble_eq_true rfl)) (k_Mo_is 14 σ (by decide) hok) (fun r11 hr11 => ?_)
            refine Rk.if_eq (pc := 81) (tgt := 89) dX9_word_81 (nmI (inZ.R hr11)) rfl (fun hc12 => ?_) (fun hc12 => ?_)
            · refine Rk.sp (G_iconst (pc := 89) dX9_word_89) ?_
              exact Rk.end_ (fun h => G_ireturn (pc := 90) rfl dX9_word_90 (q_RI h (inRk 1 rfl)))
            · refine Rk.sp (G_bipush (pc := 84) dX9_word_84 rfl) ?_
              refine Rk.sp (G_goto (pc := 86) (tgt := 90) dX9_word_86 rfl) ?_
              exact Rk.end_ (fun h => G_ireturn (pc := 90) rfl dX9_word_90 (q_RI h (inRk 17 rfl)))
          · refine Rk.sp (G_bipush (pc := 70) dX9_word_70 rfl) ?_
            refine Rk.sp (G_goto (pc := 72) (tgt := 90) dX9_word_72 rfl) ?_
            exact Rk.end_ (fun h => G_ireturn (pc := 90) rfl dX9_word_90 (q_RI h (inRk 16 rfl)))
        · refine Rk.sp (G_bipush (pc := 56) dX9_word_56 rfl) ?_
          refine Rk.sp (G_goto (pc := 58) (tgt := 90) dX9_word_58 rfl) ?_
          exact Rk.end_ (fun h => G_ireturn (pc := 90) rfl dX9_word_90 (q_RI h (inRk 15 rfl)))
theorem k_Mo_isDigit {κ : Kx} {b : Bool} {μ σ : Sg} (a1 : Int) (ha1 : inR a1) : CtRZ κ mX9_isDigit 1 [vi a1] b μ σ (Mo_isDigit a1) := by
  intro r h
  refine con_of (by decide) (Nat.le_of_ble_eq_true rfl) 0 ?_
  refine (?_ : Rk κ mX9_isDigit _ 0 [some (vi a1)] [] (ms b μ σ) (Mo_isDigit a1) (fun a => a = r)) _ h rfl
  unfold Mo_isDigit
  refine Rk.sp (G_iload_n (pc := 0) 0 rfl rfl dX9_isDigit_0) ?_
  refine Rk.sp (G_bipush (pc := 1) dX9_isDigit_1 rfl) ?_
  refine Rk.sp (G_bipush (pc := 3) dX9_isDigit_3 rfl) ?_
  refine Rk.cRZ (pc := 5) (Cl.s [vi a1, vi 48, vi 57] [] dX9_isDigit_5 ckX9_72 rfl rfl (Nat.le_of_ble_eq_true rfl) (Nat.le_of_ble_eq_true rfl)) (k_Mo_isIn a1 48 57 ha1 (inRk 48 rfl) (inRk 57 rfl)) (fun r1 hr1 => ?_)
  exact Rk.end_ (fun h => G_zreturn (pc := 8) rfl (nz hr1) dX9_isDigit_8 (q_RZ h hr1))
theorem k_Mo_next0 {κ : Kx} {μ : Sg} (σ : Sg) (hok : okS σ) : CtV κ mX9_next0 8 [vr 172] true μ σ (Mo_next0 σ) := by
  intro τ h
  refine con_of (by decide) (Nat.le_of_ble_eq_true rfl) 2 ?_
  refine (?_ : Rk κ mX9_next0 _ 0 [some (vr 172), none, none] [] (ms true μ σ) (Mo_next0 σ) (fun a => a = τ)) _ h rfl
  unfold Mo_next0
  refine Rk.loop (pc := 0) (B := (fun p => Mo_next0_0_b p)) (fun p => okS p) (fun p => [some (vr 172), none, none]) (fun p => (ms true μ p)) (fun p hp => ?_) σ hok
  revert hp; revert p; intro σ1 hσ1
  try dsimp only
  unfold Mo_next0_0_b
  refine Rk.sp (G_aload_n (pc := 0) 0 rfl rfl dX9_next0_0) ?_
  refine Rk.sp (G_aload_n (pc := 1) 0 rfl rfl dX9_next0_1) ?_
  refine Rk.gI (pc := 2) flX9_97 cl9 rfl lb172 dX9_next0_2 ?_
  refine Rk.cRI (pc := 5) (Cl.v [vi (σ1 172 17)] [] dX9_next0_5 ckX9_189 lb172 rfl rfl rfl (Nat.le_of_ble_eq_true rfl) (Nat.le_of_ble_eq_true rfl)) (k_Mo_see (σ1 172 17) σ1 (hσ1 _ _) hσ1) (fun r2 hr2 => ?_)
  refine Rk.sp (G_bipush (pc := 8) dX9_next0_8 rfl) ?_
  refine Rk.icmp_eq (pc := 10) (tgt := 26) dX9_next0_10 (nmI hr2) (nmI (inRk 32 rfl)) rfl (fun hc3 => ?_) (fun hc3 => ?_)
  · refine Rk.sp (G_aload_n (pc := 26) 0 rfl rfl dX9_next0_26) ?_
    refine Rk.sp (G_dup (pc := 27) dX9_next0_27 (fun _ h => by cases h)) ?_
    refine Rk.gI (pc := 28) flX9_97 cl9 rfl lb172 dX9_next0_28 ?_
    refine Rk.sp (G_iconst (pc := 31) dX9_next0_31) ?_
    refine Rk.sp (G_iadd (pc := 32) dX9_next0_32) ?_
    refine Rk.pI (pc := 33) hσ1 (nmW _) flX9_97 cl9 rfl rfl lb172 dX9_next0_33 (fun σ4 hσ4 => ?_)
    refine Rk.sp (G_goto (pc := 36) (tgt := 0) dX9_next0_36 rfl) ?_
    exact Rk.end_ (fun h => h hσ4)
  · refine Rk.sp (G_aload_n (pc := 13) 0 rfl rfl dX9_next0_13) ?_
    refine Rk.sp (G_aload_n (pc := 14) 0 rfl rfl dX9_next0_14) ?_
    refine Rk.gI (pc := 15) flX9_97 cl9 rfl lb172 dX9_next0_15 ?_
    refine Rk.cRI (pc := 18) (Cl.v [vi (σ1 172 17)] [] dX9_next0_18 ckX9_189 lb172 rfl rfl rfl (Nat.le_of_ble_eq_true rfl) (Nat.le_of_ble_eq_true rfl)) (k_Mo_see (σ1 172 17) σ1 (hσ1 _ _) hσ1) (fun r5 hr5 => ?_)
    refine Rk.sp (G_bipush (pc := 21) dX9_next0_21 rfl) ?_
    refine Rk.icmp_ne (pc := 23) (tgt := 39) dX9_next0_23 (nmI hr5) (nmI (inRk 10 rfl)) rfl (fun hc6 => ?_) (fun hc6 => ?_)
    · refine Rk.sp (G_aload_n (pc := 26) 0 rfl rfl dX9_next0_26) ?_
      refine Rk.sp (G_dup (pc := 27) dX9_next0_27 (fun _ h => by cases h)) ?_
      refine Rk.gI (pc := 28) flX9_97 cl9 rfl lb172 dX9_next0_28 ?_
      refine Rk.sp (G_iconst (pc := 31) dX9_next0_31) ?_
      refine Rk.sp (G_iadd (pc := 32) dX9_next0_32) ?_
      refine Rk.pI (pc := 33) hσ1 (nmW _) flX9_97 cl9 rfl rfl lb172 dX9_next0_33 (fun σ7 hσ7 => ?_)
      refine Rk.sp (G_goto (pc := 36) (tgt := 0) dX9_next0_36 rfl) ?_
      exact Rk.end_ (fun h => h hσ7)
    · refine Rk.sp (G_aload_n (pc := 39) 0 rfl rfl dX9_next0_39) ?_
      refine Rk.sp (G_aload_n (pc := 40) 0 rfl rfl dX9_next0_40) ?_
      refine Rk.gI (pc := 41) flX9_97 cl9 rfl lb172 dX9_next0_41 ?_
      refine Rk.pI (pc := 44) hσ1 (nmI (hσ1 _ _)) flX9_100 cl9 rfl rfl lb172 dX9_next0_44 (fun σ8 hσ8 => ?_)
      refine Rk.sp (G_aload_n (pc := 47) 0 rfl rfl dX9_next0_47) ?_
      refine Rk.sp (G_aload_n (pc := 48) 0 rfl rfl dX9_next0_48) ?_
      refine Rk.gI (pc := 49) flX9_97 cl9 rfl lb172 dX9_next0_49 ?_
      refine Rk.cRI (pc := 52) (Cl.v [vi (σ8 172 17)] [] dX9_next0_52 ckX9_189 lb172 rfl rfl rfl (Nat.le_of_ble_eq_true rfl) (Nat.le_of_ble_eq_true rfl)) (k_Mo_see (σ8 172 17) σ8 (hσ8 _ _) hσ8) (fun r9 hr9 => ?_)
      refine Rk.isa_n (pc := 55) 1 (L' := [some (vr 172), some (vi r9), none]) rfl (Nat.le_of_ble_eq_true rfl) rfl dX9_next0_55 rfl ?_
      refine Rk.sp (G_iload_n (pc := 56) 1 rfl rfl dX9_next0_56) ?_
      refine Rk.sp (G_iconst (pc := 57) dX9_next0_57) ?_
      refine Rk.icmp_ne (pc := 58) (tgt := 69) dX9_next0_58 (nmI hr9) (nmI (inRk (-1) rfl)) rfl (fun hc10 => ?_) (fun hc10 => ?_)
      · refine Rk.sp (G_aload_n (pc := 61) 0 rfl rfl dX9_next0_61) ?_
        refine Rk.sp (G_iconst (pc := 62) dX9_next0_62) ?_
        refine Rk.pI (pc := 63) hσ8 (nmI (inRk 0 rfl)) flX9_193 cl9 rfl rfl lb172 dX9_next0_63 (fun σ11 hσ11 => ?_)
        refine Rk.sp (G_goto (pc := 66) (tgt := 306) dX9_next0_66 rfl) ?_
        exact Rk.end_ (fun h => G_return (pc := 306) rfl dX9_next0_306 (q_V h hσ11))
      · refine Rk.sp (G_iload_n (pc := 69) 1 rfl rfl dX9_next0_69) ?_
        refine Rk.cRZ (pc := 70) (Cl.s [vi r9] [] dX9_next0_70 ckX9_196 rfl rfl (Nat.le_of_ble_eq_true rfl) (Nat.le_of_ble_eq_true rfl)) (k_Mo_isLetter r9 hr9) (fun r12 hr12 => ?_)
        refine Rk.if_eq (pc := 73) (tgt := 114) dX9_next0_73 (nmI (inZ.R hr12)) rfl (fun hc13 => ?_) (fun hc13 => ?_)
        · refine Rk.sp (G_iload_n (pc := 114) 1 rfl rfl dX9_next0_114) ?_
          refine Rk.cRZ (pc := 115) (Cl.s [vi r9] [] dX9_next0_115 ckX9_202 rfl rfl (Nat.le_of_ble_eq_true rfl) (Nat.le_of_ble_eq_true rfl)) (k_Mo_isDigit r9 hr9) (fun r14 hr14 => ?_)
          refine Rk.if_eq (pc := 118) (tgt := 214) dX9_next0_118 (nmI (inZ.R hr14)) rfl (fun hc15 => ?_) (fun hc15 => ?_)
          · refine Rk.sp (G_aload_n (pc := 214) 0 rfl rfl dX9_next0_214) ?_
            refine Rk.sp (G_dup (pc := 215) dX9_next0_215 (fun _ h => by cases h)) ?_
            refine Rk.gI (pc := 216) flX9_97 cl9 rfl lb172 dX9_next0_216 ?_
            refine Rk.sp (G_iconst (pc := 219) dX9_next0_219) ?_
            refine Rk.sp (G_iadd (pc := 220) dX9_next0_220) ?_
            refine Rk.pI (pc := 221) hσ8 (nmW _) flX9_97 cl9 rfl rfl lb172 dX9_next0_221 (fun σ16 hσ16 => ?_)
            refine Rk.sp (G_iload_n (pc := 224) 1 rfl rfl dX9_next0_224) ?_
            refine Rk.sp (G_bipush (pc := 225) dX9_next0_225 rfl) ?_
            refine Rk.sel (A := 284) (B := 288) (st' := []) ?_ ?_ ?_
            · refine Rk.icmp_eq (pc := 227) (tgt := 284) dX9_next0_227 (nmI hr9) (nmI (inRk 59 rfl)) rfl (fun hc17 => ?_) (fun hc17 => ?_)
              · exact Rk.end_ (fun h => h inZ1)
              · refine Rk.sp (G_iload_n (pc := 230) 1 rfl rfl dX9_next0_230) ?_
                refine Rk.sp (G_bipush (pc := 231) dX9_next0_231 rfl) ?_
                refine Rk.icmp_eq (pc := 233) (tgt := 284) dX9_next0_233 (nmI hr9) (nmI (inRk 43 rfl)) rfl (fun hc18 => ?_) (fun hc18 => ?_)
                · exact Rk.end_ (fun h => h inZ1)
                · refine Rk.sp (G_iload_n (pc := 236) 1 rfl rfl dX9_next0_236) ?_
                  refine Rk.sp (G_bipush (pc := 237) dX9_next0_237 rfl) ?_
                  refine Rk.icmp_eq (pc := 239) (tgt := 284) dX9_next0_239 (nmI hr9) (nmI (inRk 45 rfl)) rfl (fun hc19 => ?_) (fun hc19 => ?_)
                  · exact Rk.end_ (fun h => h inZ1)
                  · refine Rk.sp (G_iload_n (pc := 242) 1 rfl rfl dX9_next0_242) ?_
                    refine Rk.sp (G_bipush (pc := 243) dX9_next0_243 rfl) ?_
                    refine Rk.icmp_eq (pc := 245) (tgt := 284) dX9_next0_245 (nmI hr9) (nmI (inRk 42 rfl)) rfl (fun hc20 => ?_) (fun hc20 => ?_)
                    · exact Rk.end_ (fun h => h inZ1)
                    · refine Rk.sp (G_iload_n (pc := 248) 1 rfl rfl dX9_next0_248) ?_
                      refine Rk.sp (G_bipush (pc := 249) dX9_next0_249 rfl) ?_
                      refine Rk.icmp_eq (pc := 251) (tgt := 284) dX9_next0_251 (nmI hr9) (nmI (inRk 47 rfl)) rfl (fun hc21 => ?_) (fun hc21 => ?_)
                      · exact Rk.end_ (fun h => h inZ1)
                      · refine Rk.sp (G_iload_n (pc := 254) 1 rfl rfl dX9_next0_254) ?_
                        refine Rk.sp (G_bipush (pc := 255) dX9_next0_255 rfl) ?_
                        refine Rk.icmp_eq (pc := 257) (tgt := 284) dX9_next0_257 (nmI hr9) (nmI (inRk 40 rfl)) rfl (fun hc22 => ?_) (fun hc22 => ?_)
                        · exact Rk.end_ (fun h => h inZ1)
                        · refine Rk.sp (G_iload_n (pc := 260) 1 rfl rfl dX9_next0_260) ?_
                          refine Rk.sp (G_bipush (pc := 261) dX9_next0_261 rfl) ?_
                          refine Rk.icmp_eq (pc := 263) (tgt := 284) dX9_next0_263 (nmI hr9) (nmI (inRk 41 rfl)) rfl (fun hc23 => ?_) (fun hc23 => ?_)
                          · exact Rk.end_ (fun h => h inZ1)
                          · refine Rk.sp (G_iload_n (pc := 266) 1 rfl rfl dX9_next0_266) ?_
                            refine Rk.sp (G_bipush (pc := 267) dX9_next0_267 rfl) ?_
                            refine Rk.icmp_eq (pc := 269) (tgt := 284) dX9_next0_269 (nmI hr9) (nmI (inRk 60 rfl)) rfl (fun hc24 => ?_) (fun hc24 => ?_)
                            · exact Rk.end_ (fun h => h inZ1)
                            · refine Rk.sp (G_iload_n (pc := 272) 1 rfl rfl dX9_next0_272) ?_
                              refine Rk.sp (G_bipush (pc := 273) dX9_next0_273 rfl) ?_
                              refine Rk.icmp_eq (pc := 275) (tgt := 284) dX9_next0_275 (nmI hr9) (nmI (inRk 61 rfl)) rfl (fun hc25 => ?_) (fun hc25 => ?_)
                              · exact Rk.end_ (fun h => h inZ1)
                              · refine Rk.sp (G_iload_n (pc := 278) 1 rfl rfl dX9_next0_278) ?_
                                refine Rk.sp (G_bipush (pc := 279) dX9_next0_279 rfl) ?_
                                refine Rk.icmp_ne (pc := 281) (tgt := 288) dX9_next0_281 (nmI hr9) (nmI (inRk 62 rfl)) rfl (fun hc26 => ?_) (fun hc26 => ?_)
                                · exact Rk.end_ (fun h => h inZ1)
                                · exact Rk.end_ (fun h => h inZ0)
            · refine Rk.sp (G_iconst (pc := 288) dX9_next0_288) ?_
              refine Rk.isa_n (pc := 289) 2 (L' := [some (vr 172), some (vi r9), some (vi 0)]) rfl (Nat.le_of_ble_eq_true rfl) rfl dX9_next0_289 rfl ?_
              refine Rk.sp (G_aload_n (pc := 290) 0 rfl rfl dX9_next0_290) ?_
              refine Rk.sp (G_iload_n (pc := 291) 2 rfl rfl dX9_next0_291) ?_
              refine Rk.if_eq (pc := 292) (tgt := 302) dX9_next0_292 (nmI (inRk 0 rfl)) rfl (fun hc30 => ?_) (fun hc30 => ?_)
              · refine Rk.sp (G_iconst (pc := 302) dX9_next0_302) ?_
                refine Rk.pI (pc := 303) hσ16 (nmI (inRk 1 rfl)) flX9_193 cl9 rfl rfl lb172 dX9_next0_303 (fun σ31 hσ31 => ?_)
                exact Rk.end_ (fun h => G_return (pc := 306) rfl dX9_next0_306 (q_V h hσ31))
              · refine Rk.sp (G_bipush (pc := 295) dX9_next0_295 rfl) ?_
                refine Rk.sp (G_iload_n (pc := 297) 1 rfl rfl dX9_next0_297) ?_
                refine Rk.sp (G_iadd (pc := 298) dX9_next0_298) ?_
                refine Rk.sp (G_goto (pc := 299) (tgt := 303) dX9_next0_299 rfl) ?_
                refine Rk.pI (pc := 303) hσ16 (nmW _) flX9_193 cl9 rfl rfl lb172 dX9_next0_303 (fun σ32 hσ32 => ?_)
                exact Rk.end_ (fun h => G_return (pc := 306) rfl dX9_next0_306 (q_V h hσ32))
            · refine Rk.sp (G_iconst (pc := 284) dX9_next0_284) ?_
              refine Rk.sp (G_goto (pc := 285) (tgt := 289) dX9_next0_285 rfl) ?_
              refine Rk.isa_n (pc := 289) 2 (L' := [some (vr 172), some (vi r9), some (vi 1)]) rfl (Nat.le_of_ble_eq_true rfl) rfl dX9_next0_289 rfl ?_
              refine Rk.sp (G_aload_n (pc := 290) 0 rfl rfl dX9_next0_290) ?_
              refine Rk.sp (G_iload_n (pc := 291) 2 rfl rfl dX9_next0_291) ?_
              refine Rk.if_eq (pc := 292) (tgt := 302) dX9_next0_292 (nmI (inRk 1 rfl)) rfl (fun hc27 => ?_) (fun hc27 => ?_)
              · refine Rk.sp (G_iconst (pc := 302) dX9_next0_302) ?_
                refine Rk.pI (pc := 303) hσ16 (nmI (inRk 1 rfl)) flX9_193 cl9 rfl rfl lb172 dX9_next0_303 (fun σ28 hσ28 => ?_)
                exact Rk.end_ (fun h => G_return (pc := 306) rfl dX9_next0_306 (q_V h hσ28))
              · refine Rk.sp (G_bipush (pc := 295) dX9_next0_295 rfl) ?_
                refine Rk.sp (G_iload_n (pc := 297) 1 rfl rfl dX9_next0_297) ?_
                refine Rk.sp (G_iadd (pc := 298) dX9_next0_298) ?_
                refine Rk.sp (G_goto (pc := 299) (tgt := 303) dX9_next0_299 rfl) ?_
                refine Rk.pI (pc := 303) hσ16 (nmW _) flX9_193 cl9 rfl rfl lb172 dX9_next0_303 (fun σ29 hσ29 => ?_)
                exact Rk.end_ (fun h => G_return (pc := 306) rfl dX9_next0_306 (q_V h hσ29))
          · refine Rk.sp (G_aload_n (pc := 121) 0 rfl rfl dX9_next0_121) ?_
            refine Rk.sp (G_iconst (pc := 122) dX9_next0_122) ?_
            refine Rk.pI (pc := 123) hσ8 (nmI (inRk 0 rfl)) flX9_205 cl9 rfl rfl lb172 dX9_next0_123 (fun σ34 hσ34 => ?_)
            refine Rk.fg [true, false, false] (L' := [some (vr 172), none, none]) rfl ?_
            refine Rk.loop (pc := 126) (B := (fun p => Mo_next0_126_b p)) (fun p => okS p) (fun p => [some (vr 172), none, none]) (fun p => (ms true μ p)) (fun p hp => ?_) σ34 hσ34
            revert hp; revert p; intro σ35 hσ35
            try dsimp only
            unfold Mo_next0_126_b
            refine Rk.sp (G_aload_n (pc := 126) 0 rfl rfl dX9_next0_126) ?_
            refine Rk.sp (G_aload_n (pc := 127) 0 rfl rfl dX9_next0_127) ?_
            refine Rk.gI (pc := 128) flX9_97 cl9 rfl lb172 dX9_next0_128 ?_
            refine Rk.cRI (pc := 131) (Cl.v [vi (σ35 172 17)] [] dX9_next0_131 ckX9_189 lb172 rfl rfl rfl (Nat.le_of_ble_eq_true rfl) (Nat.le_of_ble_eq_true rfl)) (k_Mo_see (σ35 172 17) σ35 (hσ35 _ _) hσ35) (fun r36 hr36 => ?_)
            refine Rk.cRZ (pc := 134) (Cl.s [vi r36] [] dX9_next0_134 ckX9_202 rfl rfl (Nat.le_of_ble_eq_true rfl) (Nat.le_of_ble_eq_true rfl)) (k_Mo_isDigit r36 hr36) (fun r37 hr37 => ?_)
            refine Rk.if_eq (pc := 137) (tgt := 189) dX9_next0_137 (nmI (inZ.R hr37)) rfl (fun hc38 => ?_) (fun hc38 => ?_)
            · refine Rk.sp (G_aload_n (pc := 189) 0 rfl rfl dX9_next0_189) ?_
              refine Rk.sp (G_aload_n (pc := 190) 0 rfl rfl dX9_next0_190) ?_
              refine Rk.gI (pc := 191) flX9_97 cl9 rfl lb172 dX9_next0_191 ?_
              refine Rk.sp (G_aload_n (pc := 194) 0 rfl rfl dX9_next0_194) ?_
              refine Rk.gI (pc := 195) flX9_100 cl9 rfl lb172 dX9_next0_195 ?_
              refine Rk.sp (G_isub (pc := 198) dX9_next0_198) ?_
              refine Rk.sp (G_iconst (pc := 199) dX9_next0_199) ?_
              refine Rk.icmp_ge (pc := 200) (tgt := 207) dX9_next0_200 (nmW _) (nmI (inRk 5 rfl)) rfl (fun hc39 => ?_) (fun hc39 => ?_)
              · refine Rk.sp (G_iconst (pc := 203) dX9_next0_203) ?_
                refine Rk.sp (G_goto (pc := 204) (tgt := 208) dX9_next0_204 rfl) ?_
                refine Rk.pI (pc := 208) hσ35 (nmI (inRk 2 rfl)) flX9_193 cl9 rfl rfl lb172 dX9_next0_208 (fun σ40 hσ40 => ?_)
                refine Rk.sp (G_goto (pc := 211) (tgt := 306) dX9_next0_211 rfl) ?_
                exact Rk.end_ (fun h => G_return (pc := 306) rfl dX9_next0_306 (q_V h hσ40))
              · refine Rk.sp (G_iconst (pc := 207) dX9_next0_207) ?_
                refine Rk.pI (pc := 208) hσ35 (nmI (inRk 1 rfl)) flX9_193 cl9 rfl rfl lb172 dX9_next0_208 (fun σ41 hσ41 => ?_)
                refine Rk.sp (G_goto (pc := 211) (tgt := 306) dX9_next0_211 rfl) ?_
                exact Rk.end_ (fun h => G_return (pc := 306) rfl dX9_next0_306 (q_V h hσ41))
            · refine Rk.sp (G_aload_n (pc := 140) 0 rfl rfl dX9_next0_140) ?_
              refine Rk.gI (pc := 141) flX9_97 cl9 rfl lb172 dX9_next0_141 ?_
              refine Rk.sp (G_aload_n (pc := 144) 0 rfl rfl dX9_next0_144) ?_
              refine Rk.gI (pc := 145) flX9_100 cl9 rfl lb172 dX9_next0_145 ?_
              refine Rk.sp (G_iconst (pc := 148) dX9_next0_148) ?_
              refine Rk.sp (G_iadd (pc := 149) dX9_next0_149) ?_
              refine Rk.icmp_ge (pc := 150) (tgt := 176) dX9_next0_150 (nmI (hσ35 _ _)) (nmW _) rfl (fun hc42 => ?_) (fun hc42 => ?_)
              · refine Rk.sp (G_aload_n (pc := 153) 0 rfl rfl dX9_next0_153) ?_
                refine Rk.sp (G_bipush (pc := 154) dX9_next0_154 rfl) ?_
                refine Rk.sp (G_aload_n (pc := 156) 0 rfl rfl dX9_next0_156) ?_
                refine Rk.gI (pc := 157) flX9_205 cl9 rfl lb172 dX9_next0_157 ?_
                refine Rk.sp (G_imul (pc := 160) dX9_next0_160) ?_
                refine Rk.sp (G_aload_n (pc := 161) 0 rfl rfl dX9_next0_161) ?_
                refine Rk.sp (G_aload_n (pc := 162) 0 rfl rfl dX9_next0_162) ?_
                refine Rk.gI (pc := 163) flX9_97 cl9 rfl lb172 dX9_next0_163 ?_
                refine Rk.cRI (pc := 166) (Cl.v [vi (σ35 172 17)] [vi (10 * (σ35 172 20)), vr 172] dX9_next0_166 ckX9_189 lb172 rfl rfl rfl (Nat.le_of_ble_eq_true rfl) (Nat.le_of_ble_eq_true rfl)) (k_Mo_see (σ35 172 17) σ35 (hσ35 _ _) hσ35) (fun r43 hr43 => ?_)
                refine Rk.sp (G_iadd (pc := 169) dX9_next0_169) ?_
                refine Rk.sp (G_bipush (pc := 170) dX9_next0_170 rfl) ?_
                refine Rk.sp (G_isub (pc := 172) dX9_next0_172) ?_
                refine Rk.pI (pc := 173) hσ35 (nmW _) flX9_205 cl9 rfl rfl lb172 dX9_next0_173 (fun σ44 hσ44 => ?_)
                refine Rk.sp (G_aload_n (pc := 176) 0 rfl rfl dX9_next0_176) ?_
                refine Rk.sp (G_dup (pc := 177) dX9_next0_177 (fun _ h => by cases h)) ?_
                refine Rk.gI (pc := 178) flX9_97 cl9 rfl lb172 dX9_next0_178 ?_
                refine Rk.sp (G_iconst (pc := 181) dX9_next0_181) ?_
                refine Rk.sp (G_iadd (pc := 182) dX9_next0_182) ?_
                refine Rk.pI (pc := 183) hσ44 (nmW _) flX9_97 cl9 rfl rfl lb172 dX9_next0_183 (fun σ45 hσ45 => ?_)
                refine Rk.sp (G_goto (pc := 186) (tgt := 126) dX9_next0_186 rfl) ?_
                exact Rk.end_ (fun h => h hσ45)
              · refine Rk.sp (G_aload_n (pc := 176) 0 rfl rfl dX9_next0_176) ?_
                refine Rk.sp (G_dup (pc := 177) dX9_next0_177 (fun _ h => by cases h)) ?_
                refine Rk.gI (pc := 178) flX9_97 cl9 rfl lb172 dX9_next0_178 ?_
                refine Rk.sp (G_iconst (pc := 181) dX9_next0_181) ?_
                refine Rk.sp (G_iadd (pc := 182) dX9_next0_182) ?_
                refine Rk.pI (pc := 183) hσ35 (nmW _) flX9_97 cl9 rfl rfl lb172 dX9_next0_183 (fun σ46 hσ46 => ?_)
                refine Rk.sp (G_goto (pc := 186) (tgt := 126) dX9_next0_186 rfl) ?_
                exact Rk.end_ (fun h => h hσ46)
        · refine Rk.fg [true, false, false] (L' := [some (vr 172), none, none]) rfl ?_
          refine Rk.loop (pc := 76) (B := (fun p => Mo_next0_76_b p)) (fun p => okS p) (fun p => [some (vr 172), none, none]) (fun p => (ms true μ p)) (fun p hp => ?_) σ8 hσ8
          revert hp; revert p; intro σ47 hσ47
          try dsimp only
          unfold Mo_next0_76_b
          refine Rk.sp (G_aload_n (pc := 76) 0 rfl rfl dX9_next0_76) ?_
          refine Rk.sp (G_aload_n (pc := 77) 0 rfl rfl dX9_next0_77) ?_
          refine Rk.gI (pc := 78) flX9_97 cl9 rfl lb172 dX9_next0_78 ?_
          refine Rk.cRI (pc := 81) (Cl.v [vi (σ47 172 17)] [] dX9_next0_81 ckX9_189 lb172 rfl rfl rfl (Nat.le_of_ble_eq_true rfl) (Nat.le_of_ble_eq_true rfl)) (k_Mo_see (σ47 172 17) σ47 (hσ47 _ _) hσ47) (fun r48 hr48 => ?_)
          refine Rk.cRZ (pc := 84) (Cl.s [vi r48] [] dX9_next0_84 ckX9_196 rfl rfl (Nat.le_of_ble_eq_true rfl) (Nat.le_of_ble_eq_true rfl)) (k_Mo_isLetter r48 hr48) (fun r49 hr49 => ?_)
          refine Rk.if_eq (pc := 87) (tgt := 103) dX9_next0_87 (nmI (inZ.R hr49)) rfl (fun hc50 => ?_) (fun hc50 => ?_)
          · refine Rk.sp (G_aload_n (pc := 103) 0 rfl rfl dX9_next0_103) ?_
            refine Rk.sp (G_aload_n (pc := 104) 0 rfl rfl dX9_next0_104) ?_
            refine Rk.cRI (pc := 105) (Cl.v [] [vr 172] dX9_next0_105 ckX9_199 lb172 rfl rfl rfl (Nat.le_of_ble_eq_true rfl) (Nat.le_of_ble_eq_true rfl)) (k_Mo_word σ47 hσ47) (fun r51 hr51 => ?_)
            refine Rk.pI (pc := 108) hσ47 (nmI hr51) flX9_193 cl9 rfl rfl lb172 dX9_next0_108 (fun σ52 hσ52 => ?_)
            refine Rk.sp (G_goto (pc := 111) (tgt := 306) dX9_next0_111 rfl) ?_
            exact Rk.end_ (fun h => G_return (pc := 306) rfl dX9_next0_306 (q_V h hσ52))
          · refine Rk.sp (G_aload_n (pc := 90) 0 rfl rfl dX9_next0_90) ?_
            refine Rk.sp (G_dup (pc := 91) dX9_next0_91 (fun _ h => by cases h)) ?_
            refine Rk.gI (pc := 92) flX9_97 cl9 rfl lb172 dX9_next0_92 ?_
            refine Rk.sp (G_iconst (pc := 95) dX9_next0_95) ?_
            refine Rk.sp (G_iadd (pc := 96) dX9_next0_96) ?_
            refine Rk.pI (pc := 97) hσ47 (nmW _) flX9_97 cl9 rfl rfl lb172 dX9_next0_97 (fun σ53 hσ53 => ?_)
            refine Rk.sp (G_goto (pc := 100) (tgt := 76) dX9_next0_100 rfl) ?_
            exact Rk.end_ (fun h => h hσ53)
theorem k_Mo_lay {κ : Kx} {μ : Sg} (a1 : Int) (a2 : Int) (σ : Sg) (ha1 : inR a1) (ha2 : inR a2) (hok : okS σ) : CtV κ mX9_lay 0 [vr 172, vi a1, vi a2] true μ σ (Mo_lay a1 a2 σ) := by
  intro τ h
  refine con_of (by decide) (Nat.le_of_ble_eq_true rfl) 0 ?_
  refine (?_ : Rk κ mX9_lay _ 0 [some (vr 172), some (vi a1), some (vi a2)] [] (ms true μ σ) (Mo_lay a1 a2 σ) (fun a => a = τ)) _ h rfl
  unfold Mo_lay
  refine Rk.sp (G_aload_n (pc := 0) 0 rfl rfl dX9_lay_0) ?_
  refine Rk.gR (pc := 1) 178 flX9_25 cl9 rfl lb172 dX9_lay_1 ?_
  refine Rk.sp (G_iconst (pc := 4) dX9_lay_4) ?_
  refine Rk.sp (G_aload_n (pc := 5) 0 rfl rfl dX9_lay_5) ?_
  refine Rk.gI (pc := 6) flX9_220 cl9 rfl lb172 dX9_lay_6 ?_
  refine Rk.sp (G_imul (pc := 9) dX9_lay_9) ?_
  refine Rk.sp (G_iload_n (pc := 10) 1 rfl rfl dX9_lay_10) ?_
  refine Rk.as (pc := 11) hok (nmI ha1) lb178 dX9_lay_11 (fun hi2 σ1 hσ1 => ?_)
  refine Rk.sp (G_aload_n (pc := 12) 0 rfl rfl dX9_lay_12) ?_
  refine Rk.gR (pc := 13) 178 flX9_25 cl9 rfl lb172 dX9_lay_13 ?_
  refine Rk.sp (G_iconst (pc := 16) dX9_lay_16) ?_
  refine Rk.sp (G_aload_n (pc := 17) 0 rfl rfl dX9_lay_17) ?_
  refine Rk.gI (pc := 18) flX9_220 cl9 rfl lb172 dX9_lay_18 ?_
  refine Rk.sp (G_imul (pc := 21) dX9_lay_21) ?_
  refine Rk.sp (G_iconst (pc := 22) dX9_lay_22) ?_
  refine Rk.sp (G_iadd (pc := 23) dX9_lay_23) ?_
  refine Rk.sp (G_iload_n (pc := 24) 2 rfl rfl dX9_lay_24) ?_
  refine Rk.as (pc := 25) hσ1 (nmI ha2) lb178 dX9_lay_25 (fun hi4 σ3 hσ3 => ?_)
  refine Rk.sp (G_aload_n (pc := 26) 0 rfl rfl dX9_lay_26) ?_
  refine Rk.sp (G_dup (pc := 27) dX9_lay_27 (fun _ h => by cases h)) ?_
  refine Rk.gI (pc := 28) flX9_220 cl9 rfl lb172 dX9_lay_28 ?_
  refine Rk.sp (G_iconst (pc := 31) dX9_lay_31) ?_
  refine Rk.sp (G_iadd (pc := 32) dX9_lay_32) ?_
  refine Rk.pI (pc := 33) hσ3 (nmW _) flX9_220 cl9 rfl rfl lb172 dX9_lay_33 (fun σ5 hσ5 => ?_)
  exact Rk.end_ (fun h => G_return (pc := 36) rfl dX9_lay_36 (q_V h hσ5))
theorem k_Mo_bad {κ : Kx} {μ : Sg} (a1 : Int) (σ : Sg) (ha1 : inR a1) (hok : okS σ) : CtZ κ mX9_bad 0 [vr 172, vi a1] true μ σ (Mo_bad a1 σ) := by
  intro r τ h
  refine con_of (by decide) (Nat.le_of_ble_eq_true rfl) 0 ?_
  refine (?_ : Rk κ mX9_bad _ 0 [some (vr 172), some (vi a1)] [] (ms true μ σ) (Mo_bad a1 σ) (fun a => a = (r, τ))) _ h rfl
  unfold Mo_bad
  refine Rk.sp (G_aload_n (pc := 0) 0 rfl rfl dX9_bad_0) ?_
  refine Rk.sp (G_iload_n (pc := 1) 1 rfl rfl dX9_bad_1) ?_
  refine Rk.pI (pc := 2) hok (nmI ha1) flX9_208 cl9 rfl rfl lb172 dX9_bad_2 (fun σ1 hσ1 => ?_)
  refine Rk.sp (G_aload_n (pc := 5) 0 rfl rfl dX9_bad_5) ?_
  refine Rk.sp (G_aload_n (pc := 6) 0 rfl rfl dX9_bad_6) ?_
  refine Rk.gI (pc := 7) flX9_100 cl9 rfl lb172 dX9_bad_7 ?_
  refine Rk.pI (pc := 10) hσ1 (nmI (hσ1 _ _)) flX9_211 cl9 rfl rfl lb172 dX9_bad_10 (fun σ2 hσ2 => ?_)
  refine Rk.sp (G_iconst (pc := 13) dX9_bad_13) ?_
  exact Rk.end_ (fun h => G_zreturn (pc := 14) rfl (nz inZ0) dX9_bad_14 (q_Z h inZ0 hσ2))
theorem k_Mo_opens {κ : Kx} {μ : Sg} (σ : Sg) (hok : okS σ) : CtZ κ mX9_opens 9 [vr 172] true μ σ (Mo_opens σ) := by
  intro r τ h
  refine con_of (by decide) (Nat.le_of_ble_eq_true rfl) 0 ?_
  refine (?_ : Rk κ mX9_opens _ 0 [some (vr 172)] [] (ms true μ σ) (Mo_opens σ) (fun a => a = (r, τ))) _ h rfl
  unfold Mo_opens
  refine Rk.sp (G_aload_n (pc := 0) 0 rfl rfl dX9_opens_0) ?_
  refine Rk.gI (pc := 1) flX9_223 cl9 rfl lb172 dX9_opens_1 ?_
  refine Rk.sp (G_bipush (pc := 4) dX9_opens_4 rfl) ?_
  refine Rk.icmp_ne (pc := 6) (tgt := 15) dX9_opens_6 (nmI (hok _ _)) (nmI (inRk 8 rfl)) rfl (fun hc1 => ?_) (fun hc1 => ?_)
  · refine Rk.sp (G_aload_n (pc := 9) 0 rfl rfl dX9_opens_9) ?_
    refine Rk.sp (G_iconst (pc := 10) dX9_opens_10) ?_
    refine Rk.cZ (pc := 11) (Cl.v [vi 3] [] dX9_opens_11 ckX9_214 lb172 rfl rfl rfl (Nat.le_of_ble_eq_true rfl) (Nat.le_of_ble_eq_true rfl)) (k_Mo_bad 3 σ (inRk 3 rfl) hok) (fun r2 σ3 hr2 hσ3 => ?_)
    exact Rk.end_ (fun h => G_zreturn (pc := 14) rfl (nz hr2) dX9_opens_14 (q_Z h hr2 hσ3))
  · refine Rk.sp (G_aload_n (pc := 15) 0 rfl rfl dX9_opens_15) ?_
    refine Rk.sp (G_dup (pc := 16) dX9_opens_16 (fun _ h => by cases h)) ?_
    refine Rk.gI (pc := 17) flX9_223 cl9 rfl lb172 dX9_opens_17 ?_
    refine Rk.sp (G_iconst (pc := 20) dX9_opens_20) ?_
    refine Rk.sp (G_iadd (pc := 21) dX9_opens_21) ?_
    refine Rk.pI (pc := 22) hok (nmW _) flX9_223 cl9 rfl rfl lb172 dX9_opens_22 (fun σ4 hσ4 => ?_)
    refine Rk.sp (G_aload_n (pc := 25) 0 rfl rfl dX9_opens_25) ?_
    refine Rk.cV (pc := 26) (Cl.v [] [] dX9_opens_26 ckX9_217 lb172 rfl rfl rfl (Nat.le_of_ble_eq_true rfl) (Nat.le_of_ble_eq_true rfl)) (k_Mo_next0 σ4 hσ4) (fun σ5 hσ5 => ?_)
    refine Rk.sp (G_iconst (pc := 29) dX9_opens_29) ?_
    exact Rk.end_ (fun h => G_zreturn (pc := 30) rfl (nz inZ1) dX9_opens_30 (q_Z h inZ1 hσ5))
theorem k_Mo_need {κ : Kx} {μ : Sg} (a1 : Int) (σ : Sg) (ha1 : inR a1) (hok : okS σ) : CtZ κ mX9_need 9 [vr 172, vi a1] true μ σ (Mo_need a1 σ) := by
  intro r τ h
  refine con_of (by decide) (Nat.le_of_ble_eq_true rfl) 0 ?_
  refine (?_ : Rk κ mX9_need _ 0 [some (vr 172), some (vi a1)] [] (ms true μ σ) (Mo_need a1 σ) (fun a => a = (r, τ))) _ h rfl
  unfold Mo_need
  refine Rk.sp (G_aload_n (pc := 0) 0 rfl rfl dX9_need_0) ?_
  refine Rk.gI (pc := 1) flX9_193 cl9 rfl lb172 dX9_need_1 ?_
  refine Rk.sp (G_iload_n (pc := 4) 1 rfl rfl dX9_need_4) ?_
  refine Rk.icmp_eq (pc := 5) (tgt := 14) dX9_need_5 (nmI (hok _ _)) (nmI ha1) rfl (fun hc1 => ?_) (fun hc1 => ?_)
  · refine Rk.sp (G_aload_n (pc := 14) 0 rfl rfl dX9_need_14) ?_
    refine Rk.cV (pc := 15) (Cl.v [] [] dX9_need_15 ckX9_217 lb172 rfl rfl rfl (Nat.le_of_ble_eq_true rfl) (Nat.le_of_ble_eq_true rfl)) (k_Mo_next0 σ hok) (fun σ2 hσ2 => ?_)
    refine Rk.sp (G_iconst (pc := 18) dX9_need_18) ?_
    exact Rk.end_ (fun h => G_zreturn (pc := 19) rfl (nz inZ1) dX9_need_19 (q_Z h inZ1 hσ2))
  · refine Rk.sp (G_aload_n (pc := 8) 0 rfl rfl dX9_need_8) ?_
    refine Rk.sp (G_iconst (pc := 9) dX9_need_9) ?_
    refine Rk.cZ (pc := 10) (Cl.v [vi 1] [] dX9_need_10 ckX9_214 lb172 rfl rfl rfl (Nat.le_of_ble_eq_true rfl) (Nat.le_of_ble_eq_true rfl)) (k_Mo_bad 1 σ (inRk 1 rfl) hok) (fun r3 σ4 hr3 hσ4 => ?_)
    exact Rk.end_ (fun h => G_zreturn (pc := 13) rfl (nz hr3) dX9_need_13 (q_Z h hr3 hσ4))
theorem k_Mo_unit {κ : Kx} {μ : Sg} (σ : Sg) (hok : okS σ) : CtZ κ mX9_unit 9 [vr 172] true μ σ (Mo_unit σ) := by
  intro r τ h
  refine con_of (by decide) (Nat.le_of_ble_eq_true rfl) 1 ?_
  refine (?_ : Rk κ mX9_unit _ 0 [some (vr 172), none] [] (ms true μ σ) (Mo_unit σ) (fun a => a = (r, τ))) _ h rfl
  unfold Mo_unit
  refine Rk.sp (G_aload_n (pc := 0) 0 rfl rfl dX9_unit_0) ?_
  refine Rk.gI (pc := 1) flX9_193 cl9 rfl lb172 dX9_unit_1 ?_
  refine Rk.sp (G_bipush (pc := 4) dX9_unit_4 rfl) ?_
  refine Rk.sp (G_bipush (pc := 6) dX9_unit_6 rfl) ?_
  refine Rk.cRZ (pc := 8) (Cl.s [vi (σ 172 18), vi 41, vi 50] [] dX9_unit_8 ckX9_72 rfl rfl (Nat.le_of_ble_eq_true rfl) (Nat.le_of_ble_eq_true rfl)) (k_Mo_isIn (σ 172 18) 41 50 (hok _ _) (inRk 41 rfl) (inRk 50 rfl)) (fun r1 hr1 => ?_)
  refine Rk.isa_n (pc := 11) 1 (L' := [some (vr 172), some (vi r1)]) rfl (Nat.le_of_ble_eq_true rfl) rfl dX9_unit_11 rfl ?_
  refine Rk.sp (G_aload_n (pc := 12) 0 rfl rfl dX9_unit_12) ?_
  refine Rk.gI (pc := 13) flX9_193 cl9 rfl lb172 dX9_unit_13 ?_
  refine Rk.sp (G_iconst (pc := 16) dX9_unit_16) ?_
  refine Rk.sel (A := 30) (B := 24) (st' := []) ?_ ?_ ?_
  · refine Rk.icmp_eq (pc := 17) (tgt := 30) dX9_unit_17 (nmI (hok _ _)) (nmI (inRk 2 rfl)) rfl (fun hc2 => ?_) (fun hc2 => ?_)
    · exact Rk.end_ (fun h => h inZ1)
    · refine Rk.sp (G_iload_n (pc := 20) 1 rfl rfl dX9_unit_20) ?_
      refine Rk.if_ne (pc := 21) (tgt := 30) dX9_unit_21 (nmI (inZ.R hr1)) rfl (fun hc3 => ?_) (fun hc3 => ?_)
      · exact Rk.end_ (fun h => h inZ0)
      · exact Rk.end_ (fun h => h inZ1)
  · refine Rk.sp (G_aload_n (pc := 24) 0 rfl rfl dX9_unit_24) ?_
    refine Rk.sp (G_iconst (pc := 25) dX9_unit_25) ?_
    refine Rk.cZ (pc := 26) (Cl.v [vi 1] [] dX9_unit_26 ckX9_214 lb172 rfl rfl rfl (Nat.le_of_ble_eq_true rfl) (Nat.le_of_ble_eq_true rfl)) (k_Mo_bad 1 σ (inRk 1 rfl) hok) (fun r8 σ9 hr8 hσ9 => ?_)
    exact Rk.end_ (fun h => G_zreturn (pc := 29) rfl (nz hr8) dX9_unit_29 (q_Z h hr8 hσ9))
  · refine Rk.sp (G_aload_n (pc := 30) 0 rfl rfl dX9_unit_30) ?_
    refine Rk.sp (G_iload_n (pc := 31) 1 rfl rfl dX9_unit_31) ?_
    refine Rk.join (P := fun p => inR p) (pcj := 46) (fun p => [some (vr 172), none]) (fun p => [vi p, vr 172]) (fun p => (ms true μ σ)) ?_ (fun p hp => ?_)
    · refine Rk.if_eq (pc := 32) (tgt := 45) dX9_unit_32 (nmI (inZ.R hr1)) rfl (fun hc4 => ?_) (fun hc4 => ?_)
      · refine Rk.sp (G_iconst (pc := 45) dX9_unit_45) ?_
        refine Rk.fg [true, false] (L' := [some (vr 172), none]) rfl ?_
        exact Rk.end_ (fun h => h (inRk 0 rfl))
      · refine Rk.sp (G_aload_n (pc := 35) 0 rfl rfl dX9_unit_35) ?_
        refine Rk.gI (pc := 36) flX9_193 cl9 rfl lb172 dX9_unit_36 ?_
        refine Rk.sp (G_bipush (pc := 39) dX9_unit_39 rfl) ?_
        refine Rk.sp (G_isub (pc := 41) dX9_unit_41) ?_
        refine Rk.sp (G_goto (pc := 42) (tgt := 46) dX9_unit_42 rfl) ?_
        refine Rk.sp (Go.n0 (nmW _)) ?_
        refine Rk.fg [true, false] (L' := [some (vr 172), none]) rfl ?_
        exact Rk.end_ (fun h => h (wrR _))
    · revert hp; revert p; intro t5 ht5
      try dsimp only
      refine Rk.sp (G_aload_n (pc := 46) 0 rfl rfl dX9_unit_46) ?_
      refine Rk.gI (pc := 47) flX9_205 cl9 rfl lb172 dX9_unit_47 ?_
      refine Rk.cV (pc := 50) (Cl.v [vi t5, vi (σ 172 20)] [] dX9_unit_50 ckX9_230 lb172 rfl rfl rfl (Nat.le_of_ble_eq_true rfl) (Nat.le_of_ble_eq_true rfl)) (k_Mo_lay t5 (σ 172 20) σ ht5 (hok _ _) hok) (fun σ6 hσ6 => ?_)
      refine Rk.sp (G_aload_n (pc := 53) 0 rfl rfl dX9_unit_53) ?_
      refine Rk.cV (pc := 54) (Cl.v [] [] dX9_unit_54 ckX9_217 lb172 rfl rfl rfl (Nat.le_of_ble_eq_true rfl) (Nat.le_of_ble_eq_true rfl)) (k_Mo_next0 σ6 hσ6) (fun σ7 hσ7 => ?_)
      refine Rk.sp (G_iconst (pc := 57) dX9_unit_57) ?_
      exact Rk.end_ (fun h => G_zreturn (pc := 58) rfl (nz inZ1) dX9_unit_58 (q_Z h inZ1 hσ7))
theorem k_Mo_product {κ : Kx} {μ : Sg} (σ : Sg) (hok : okS σ) : CtZ κ mX9_product 10 [vr 172] true μ σ (Mo_product σ) := by
  intro r τ h
  refine con_of (by decide) (Nat.le_of_ble_eq_true rfl) 2 ?_
  refine (?_ : Rk κ mX9_product _ 0 [some (vr 172), none, none] [] (ms true μ σ) (Mo_product σ) (fun a => a = (r, τ))) _ h rfl
  unfold Mo_product
  refine Rk.sp (G_aload_n (pc := 0) 0 rfl rfl dX9_product_0) ?_
  refine Rk.cZ (pc := 1) (Cl.v [] [] dX9_product_1 ckX9_234 lb172 rfl rfl rfl (Nat.le_of_ble_eq_true rfl) (Nat.le_of_ble_eq_true rfl)) (k_Mo_unit σ hok) (fun r1 σ2 hr1 hσ2 => ?_)
  refine Rk.if_ne (pc := 4) (tgt := 9) dX9_product_4 (nmI (inZ.R hr1)) rfl (fun hc3 => ?_) (fun hc3 => ?_)
  · refine Rk.sp (G_iconst (pc := 7) dX9_product_7) ?_
    exact Rk.end_ (fun h => G_zreturn (pc := 8) rfl (nz inZ0) dX9_product_8 (q_Z h inZ0 hσ2))
  · refine Rk.loop (pc := 9) (B := (fun p => Mo_product_9_b p)) (fun p => okS p) (fun p => [some (vr 172), none, none]) (fun p => (ms true μ p)) (fun p hp => ?_) σ2 hσ2
    revert hp; revert p; intro σ4 hσ4
    try dsimp only
    unfold Mo_product_9_b
    refine Rk.sp (G_aload_n (pc := 9) 0 rfl rfl dX9_product_9) ?_
    refine Rk.gI (pc := 10) flX9_193 cl9 rfl lb172 dX9_product_10 ?_
    refine Rk.sp (G_sipush (pc := 13) dX9_product_13 rfl) ?_
    refine Rk.sel (A := 29) (B := 115) (st' := []) ?_ ?_ ?_
    · refine Rk.icmp_eq (pc := 16) (tgt := 29) dX9_product_16 (nmI (hσ4 _ _)) (nmI (inRk 142 rfl)) rfl (fun hc5 => ?_) (fun hc5 => ?_)
      · exact Rk.end_ (fun h => h inZ1)
      · refine Rk.sp (G_aload_n (pc := 19) 0 rfl rfl dX9_product_19) ?_
        refine Rk.gI (pc := 20) flX9_193 cl9 rfl lb172 dX9_product_20 ?_
        refine Rk.sp (G_sipush (pc := 23) dX9_product_23 rfl) ?_
        refine Rk.icmp_ne (pc := 26) (tgt := 115) dX9_product_26 (nmI (hσ4 _ _)) (nmI (inRk 147 rfl)) rfl (fun hc6 => ?_) (fun hc6 => ?_)
        · exact Rk.end_ (fun h => h inZ1)
        · exact Rk.end_ (fun h => h inZ0)
    · refine Rk.sp (G_iconst (pc := 115) dX9_product_115) ?_
      exact Rk.end_ (fun h => G_zreturn (pc := 116) rfl (nz inZ1) dX9_product_116 (q_Z h inZ1 hσ4))
    · refine Rk.sp (G_aload_n (pc := 29) 0 rfl rfl dX9_product_29) ?_
      refine Rk.gI (pc := 30) flX9_193 cl9 rfl lb172 dX9_product_30 ?_
      refine Rk.sp (G_sipush (pc := 33) dX9_product_33 rfl) ?_
      refine Rk.join (P := fun p => inR p) (pcj := 44) (fun p => [some (vr 172), none, none]) (fun p => [vi p]) (fun p => (ms true μ σ4)) ?_ (fun p hp => ?_)
      · refine Rk.icmp_ne (pc := 36) (tgt := 43) dX9_product_36 (nmI (hσ4 _ _)) (nmI (inRk 147 rfl)) rfl (fun hc7 => ?_) (fun hc7 => ?_)
        · refine Rk.sp (G_iconst (pc := 39) dX9_product_39) ?_
          refine Rk.sp (G_goto (pc := 40) (tgt := 44) dX9_product_40 rfl) ?_
          exact Rk.end_ (fun h => h (inRk 1 rfl))
        · refine Rk.sp (G_iconst (pc := 43) dX9_product_43) ?_
          exact Rk.end_ (fun h => h (inRk 0 rfl))
      · revert hp; revert p; intro t8 ht8
        try dsimp only
        refine Rk.isa_n (pc := 44) 1 (L' := [some (vr 172), some (vi t8), none]) rfl (Nat.le_of_ble_eq_true rfl) rfl dX9_product_44 rfl ?_
        refine Rk.sp (G_aload_n (pc := 45) 0 rfl rfl dX9_product_45) ?_
        refine Rk.cV (pc := 46) (Cl.v [] [] dX9_product_46 ckX9_217 lb172 rfl rfl rfl (Nat.le_of_ble_eq_true rfl) (Nat.le_of_ble_eq_true rfl)) (k_Mo_next0 σ4 hσ4) (fun σ9 hσ9 => ?_)
        refine Rk.sp (G_iload_n (pc := 49) 1 rfl rfl dX9_product_49) ?_
        refine Rk.if_eq (pc := 50) (tgt := 96) dX9_product_50 (nmI ht8) rfl (fun hc10 => ?_) (fun hc10 => ?_)
        · refine Rk.sp (G_aload_n (pc := 96) 0 rfl rfl dX9_product_96) ?_
          refine Rk.cZ (pc := 97) (Cl.v [] [] dX9_product_97 ckX9_234 lb172 rfl rfl rfl (Nat.le_of_ble_eq_true rfl) (Nat.le_of_ble_eq_true rfl)) (k_Mo_unit σ9 hσ9) (fun r11 σ12 hr11 hσ12 => ?_)
          refine Rk.if_ne (pc := 100) (tgt := 105) dX9_product_100 (nmI (inZ.R hr11)) rfl (fun hc13 => ?_) (fun hc13 => ?_)
          · refine Rk.sp (G_iconst (pc := 103) dX9_product_103) ?_
            exact Rk.end_ (fun h => G_zreturn (pc := 104) rfl (nz inZ0) dX9_product_104 (q_Z h inZ0 hσ12))
          · refine Rk.sp (G_aload_n (pc := 105) 0 rfl rfl dX9_product_105) ?_
            refine Rk.sp (G_bipush (pc := 106) dX9_product_106 rfl) ?_
            refine Rk.sp (G_iconst (pc := 108) dX9_product_108) ?_
            refine Rk.cV (pc := 109) (Cl.v [vi 25, vi 0] [] dX9_product_109 ckX9_230 lb172 rfl rfl rfl (Nat.le_of_ble_eq_true rfl) (Nat.le_of_ble_eq_true rfl)) (k_Mo_lay 25 0 σ12 (inRk 25 rfl) (inRk 0 rfl) hσ12) (fun σ14 hσ14 => ?_)
            refine Rk.sp (G_goto (pc := 112) (tgt := 9) dX9_product_112 rfl) ?_
            refine Rk.fg [true, false, false] (L' := [some (vr 172), none, none]) rfl ?_
            exact Rk.end_ (fun h => h hσ14)
        · refine Rk.sp (G_aload_n (pc := 53) 0 rfl rfl dX9_product_53) ?_
          refine Rk.gI (pc := 54) flX9_205 cl9 rfl lb172 dX9_product_54 ?_
          refine Rk.ist_n (pc := 57) 2 (fun v2_15 => [some (vr 172), some (vi t8), some (vi v2_15)]) rfl (Nat.le_of_ble_eq_true rfl) rfl dX9_product_57 (nmI (hσ9 _ _)) (fun _ => rfl) (fun v2_15 hv2_15 => ?_)
          refine Rk.sp (G_aload_n (pc := 58) 0 rfl rfl dX9_product_58) ?_
          refine Rk.gI (pc := 59) flX9_193 cl9 rfl lb172 dX9_product_59 ?_
          refine Rk.sp (G_iconst (pc := 62) dX9_product_62) ?_
          refine Rk.icmp_eq (pc := 63) (tgt := 72) dX9_product_63 (nmI (hσ9 _ _)) (nmI (inRk 2 rfl)) rfl (fun hc16 => ?_) (fun hc16 => ?_)
          · refine Rk.sp (G_iload_n (pc := 72) 2 rfl rfl dX9_product_72) ?_
            refine Rk.if_ne (pc := 73) (tgt := 82) dX9_product_73 (nmI hv2_15) rfl (fun hc17 => ?_) (fun hc17 => ?_)
            · refine Rk.sp (G_aload_n (pc := 76) 0 rfl rfl dX9_product_76) ?_
              refine Rk.sp (G_iconst (pc := 77) dX9_product_77) ?_
              refine Rk.cZ (pc := 78) (Cl.v [vi 2] [] dX9_product_78 ckX9_214 lb172 rfl rfl rfl (Nat.le_of_ble_eq_true rfl) (Nat.le_of_ble_eq_true rfl)) (k_Mo_bad 2 σ9 (inRk 2 rfl) hσ9) (fun r18 σ19 hr18 hσ19 => ?_)
              exact Rk.end_ (fun h => G_zreturn (pc := 81) rfl (nz hr18) dX9_product_81 (q_Z h hr18 hσ19))
            · refine Rk.sp (G_aload_n (pc := 82) 0 rfl rfl dX9_product_82) ?_
              refine Rk.cV (pc := 83) (Cl.v [] [] dX9_product_83 ckX9_217 lb172 rfl rfl rfl (Nat.le_of_ble_eq_true rfl) (Nat.le_of_ble_eq_true rfl)) (k_Mo_next0 σ9 hσ9) (fun σ20 hσ20 => ?_)
              refine Rk.sp (G_aload_n (pc := 86) 0 rfl rfl dX9_product_86) ?_
              refine Rk.sp (G_bipush (pc := 87) dX9_product_87 rfl) ?_
              refine Rk.sp (G_iload_n (pc := 89) 2 rfl rfl dX9_product_89) ?_
              refine Rk.cV (pc := 90) (Cl.v [vi 26, vi v2_15] [] dX9_product_90 ckX9_230 lb172 rfl rfl rfl (Nat.le_of_ble_eq_true rfl) (Nat.le_of_ble_eq_true rfl)) (k_Mo_lay 26 v2_15 σ20 (inRk 26 rfl) hv2_15 hσ20) (fun σ21 hσ21 => ?_)
              refine Rk.sp (G_goto (pc := 93) (tgt := 112) dX9_product_93 rfl) ?_
              refine Rk.sp (G_goto (pc := 112) (tgt := 9) dX9_product_112 rfl) ?_
              refine Rk.fg [true, false, false] (L' := [some (vr 172), none, none]) rfl ?_
              exact Rk.end_ (fun h => h hσ21)
          · refine Rk.sp (G_aload_n (pc := 66) 0 rfl rfl dX9_product_66) ?_
            refine Rk.sp (G_iconst (pc := 67) dX9_product_67) ?_
            refine Rk.cZ (pc := 68) (Cl.v [vi 1] [] dX9_product_68 ckX9_214 lb172 rfl rfl rfl (Nat.le_of_ble_eq_true rfl) (Nat.le_of_ble_eq_true rfl)) (k_Mo_bad 1 σ9 (inRk 1 rfl) hσ9) (fun r22 σ23 hr22 hσ23 => ?_)
            exact Rk.end_ (fun h => G_zreturn (pc := 71) rfl (nz hr22) dX9_product_71 (q_Z h hr22 hσ23))
theorem k_Mo_sumUp {κ : Kx} {μ : Sg} (σ : Sg) (hok : okS σ) : CtZ κ mX9_sumUp 11 [vr 172] true μ σ (Mo_sumUp σ) := by
  intro r τ h
  refine con_of (by decide) (Nat.le_of_ble_eq_true rfl) 1 ?_
  refine (?_ : Rk κ mX9_sumUp _ 0 [some (vr 172), none] [] (ms true μ σ) (Mo_sumUp σ) (fun a => a = (r, τ))) _ h rfl
  unfold Mo_sumUp
  refine Rk.sp (G_aload_n (pc := 0) 0 rfl rfl dX9_sumUp_0) ?_
  refine Rk.cZ (pc := 1) (Cl.v [] [] dX9_sumUp_1 ckX9_226 lb172 rfl rfl rfl (Nat.le_of_ble_eq_true rfl) (Nat.le_of_ble_eq_true rfl)) (k_Mo_product σ hok) (fun r1 σ2 hr1 hσ2 => ?_)
  refine Rk.if_ne (pc := 4) (tgt := 9) dX9_sumUp_4 (nmI (inZ.R hr1)) rfl (fun hc3 => ?_) (fun hc3 => ?_)
  · refine Rk.sp (G_iconst (pc := 7) dX9_sumUp_7) ?_
    exact Rk.end_ (fun h => G_zreturn (pc := 8) rfl (nz inZ0) dX9_sumUp_8 (q_Z h inZ0 hσ2))
  · refine Rk.loop (pc := 9) (B := (fun p => Mo_sumUp_9_b p)) (fun p => okS p) (fun p => [some (vr 172), none]) (fun p => (ms true μ p)) (fun p hp => ?_) σ2 hσ2
    revert hp; revert p; intro σ4 hσ4
    try dsimp only
    unfold Mo_sumUp_9_b
    refine Rk.sp (G_aload_n (pc := 9) 0 rfl rfl dX9_sumUp_9) ?_
    refine Rk.gI (pc := 10) flX9_193 cl9 rfl lb172 dX9_sumUp_10 ?_
    refine Rk.sp (G_sipush (pc := 13) dX9_sumUp_13 rfl) ?_
    refine Rk.sel (A := 29) (B := 69) (st' := []) ?_ ?_ ?_
    · refine Rk.icmp_eq (pc := 16) (tgt := 29) dX9_sumUp_16 (nmI (hσ4 _ _)) (nmI (inRk 143 rfl)) rfl (fun hc5 => ?_) (fun hc5 => ?_)
      · exact Rk.end_ (fun h => h inZ1)
      · refine Rk.sp (G_aload_n (pc := 19) 0 rfl rfl dX9_sumUp_19) ?_
        refine Rk.gI (pc := 20) flX9_193 cl9 rfl lb172 dX9_sumUp_20 ?_
        refine Rk.sp (G_sipush (pc := 23) dX9_sumUp_23 rfl) ?_
        refine Rk.icmp_ne (pc := 26) (tgt := 69) dX9_sumUp_26 (nmI (hσ4 _ _)) (nmI (inRk 145 rfl)) rfl (fun hc6 => ?_) (fun hc6 => ?_)
        · exact Rk.end_ (fun h => h inZ1)
        · exact Rk.end_ (fun h => h inZ0)
    · refine Rk.sp (G_iconst (pc := 69) dX9_sumUp_69) ?_
      exact Rk.end_ (fun h => G_zreturn (pc := 70) rfl (nz inZ1) dX9_sumUp_70 (q_Z h inZ1 hσ4))
    · refine Rk.sp (G_aload_n (pc := 29) 0 rfl rfl dX9_sumUp_29) ?_
      refine Rk.gI (pc := 30) flX9_193 cl9 rfl lb172 dX9_sumUp_30 ?_
      refine Rk.sp (G_sipush (pc := 33) dX9_sumUp_33 rfl) ?_
      refine Rk.join (P := fun p => inR p) (pcj := 46) (fun p => [some (vr 172), none]) (fun p => [vi p]) (fun p => (ms true μ σ4)) ?_ (fun p hp => ?_)
      · refine Rk.icmp_ne (pc := 36) (tgt := 44) dX9_sumUp_36 (nmI (hσ4 _ _)) (nmI (inRk 143 rfl)) rfl (fun hc7 => ?_) (fun hc7 => ?_)
        · refine Rk.sp (G_bipush (pc := 39) dX9_sumUp_39 rfl) ?_
          refine Rk.sp (G_goto (pc := 41) (tgt := 46) dX9_sumUp_41 rfl) ?_
          exact Rk.end_ (fun h => h (inRk 23 rfl))
        · refine Rk.sp (G_bipush (pc := 44) dX9_sumUp_44 rfl) ?_
          exact Rk.end_ (fun h => h (inRk 24 rfl))
      · revert hp; revert p; intro t8 ht8
        try dsimp only
        refine Rk.isa_n (pc := 46) 1 (L' := [some (vr 172), some (vi t8)]) rfl (Nat.le_of_ble_eq_true rfl) rfl dX9_sumUp_46 rfl ?_
        refine Rk.sp (G_aload_n (pc := 47) 0 rfl rfl dX9_sumUp_47) ?_
        refine Rk.cV (pc := 48) (Cl.v [] [] dX9_sumUp_48 ckX9_217 lb172 rfl rfl rfl (Nat.le_of_ble_eq_true rfl) (Nat.le_of_ble_eq_true rfl)) (k_Mo_next0 σ4 hσ4) (fun σ9 hσ9 => ?_)
        refine Rk.sp (G_aload_n (pc := 51) 0 rfl rfl dX9_sumUp_51) ?_
        refine Rk.cZ (pc := 52) (Cl.v [] [] dX9_sumUp_52 ckX9_226 lb172 rfl rfl rfl (Nat.le_of_ble_eq_true rfl) (Nat.le_of_ble_eq_true rfl)) (k_Mo_product σ9 hσ9) (fun r10 σ11 hr10 hσ11 => ?_)
        refine Rk.if_ne (pc := 55) (tgt := 60) dX9_sumUp_55 (nmI (inZ.R hr10)) rfl (fun hc12 => ?_) (fun hc12 => ?_)
        · refine Rk.sp (G_iconst (pc := 58) dX9_sumUp_58) ?_
          exact Rk.end_ (fun h => G_zreturn (pc := 59) rfl (nz inZ0) dX9_sumUp_59 (q_Z h inZ0 hσ11))
        · refine Rk.sp (G_aload_n (pc := 60) 0 rfl rfl dX9_sumUp_60) ?_
          refine Rk.sp (G_iload_n (pc := 61) 1 rfl rfl dX9_sumUp_61) ?_
          refine Rk.sp (G_iconst (pc := 62) dX9_sumUp_62) ?_
          refine Rk.cV (pc := 63) (Cl.v [vi t8, vi 0] [] dX9_sumUp_63 ckX9_230 lb172 rfl rfl rfl (Nat.le_of_ble_eq_true rfl) (Nat.le_of_ble_eq_true rfl)) (k_Mo_lay t8 0 σ11 ht8 (inRk 0 rfl) hσ11) (fun σ13 hσ13 => ?_)
          refine Rk.sp (G_goto (pc := 66) (tgt := 9) dX9_sumUp_66 rfl) ?_
          refine Rk.fg [true, false] (L' := [some (vr 172), none]) rfl ?_
          exact Rk.end_ (fun h => h hσ13)
theorem k_Mo_every {κ : Kx} {μ : Sg} (rc : Sg → Option (Int × Sg)) (e : Nat) (hrc : ∀ σ, okS σ → CtZ κ mX9_oneTest e [vr 172] true μ σ (rc σ)) (he : 9 ≤ e) (σ : Sg) (hok : okS σ) : CtZ κ mX9_every (e + 1) [vr 172] true μ σ (Mo_every rc σ) := by
  intro r τ h
  refine con_of (by decide) (Nat.le_of_ble_eq_true rfl) 0 ?_
  refine (?_ : Rk κ mX9_every _ 0 [some (vr 172)] [] (ms true μ σ) (Mo_every rc σ) (fun a => a = (r, τ))) _ h rfl
  unfold Mo_every
  refine Rk.sp (G_aload_n (pc := 0) 0 rfl rfl dX9_every_0) ?_
  refine Rk.cZ (pc := 1) (Cl.v [] [] dX9_every_1 ckX9_240 lb172 rfl rfl rfl (Nat.le_of_ble_eq_true rfl) (by omega)) (hrc σ hok) (fun r1 σ2 hr1 hσ2 => ?_)
  refine Rk.if_ne (pc := 4) (tgt := 9) dX9_every_4 (nmI (inZ.R hr1)) rfl (fun hc3 => ?_) (fun hc3 => ?_)
  · refine Rk.sp (G_iconst (pc := 7) dX9_every_7) ?_
    exact Rk.end_ (fun h => G_zreturn (pc := 8) rfl (nz inZ0) dX9_every_8 (q_Z h inZ0 hσ2))
  · refine Rk.loop (pc := 9) (B := (fun p => Mo_every_9_b rc p)) (fun p => okS p) (fun p => [some (vr 172)]) (fun p => (ms true μ p)) (fun p hp => ?_) σ2 hσ2
    revert hp; revert p; intro σ4 hσ4
    try dsimp only
    unfold Mo_every_9_b
    refine Rk.sp (G_aload_n (pc := 9) 0 rfl rfl dX9_every_9) ?_
    refine Rk.gI (pc := 10) flX9_193 cl9 rfl lb172 dX9_every_10 ?_
    refine Rk.sp (G_iconst (pc := 13) dX9_every_13) ?_
    refine Rk.icmp_ne (pc := 14) (tgt := 40) dX9_every_14 (nmI (hσ4 _ _)) (nmI (inRk 5 rfl)) rfl (fun hc5 => ?_) (fun hc5 => ?_)
    · refine Rk.sp (G_aload_n (pc := 17) 0 rfl rfl dX9_every_17) ?_
      refine Rk.cV (pc := 18) (Cl.v [] [] dX9_every_18 ckX9_217 lb172 rfl rfl rfl (Nat.le_of_ble_eq_true rfl) (by omega)) (k_Mo_next0 σ4 hσ4) (fun σ6 hσ6 => ?_)
      refine Rk.sp (G_aload_n (pc := 21) 0 rfl rfl dX9_every_21) ?_
      refine Rk.cZ (pc := 22) (Cl.v [] [] dX9_every_22 ckX9_240 lb172 rfl rfl rfl (Nat.le_of_ble_eq_true rfl) (by omega)) (hrc σ6 hσ6) (fun r7 σ8 hr7 hσ8 => ?_)
      refine Rk.if_ne (pc := 25) (tgt := 30) dX9_every_25 (nmI (inZ.R hr7)) rfl (fun hc9 => ?_) (fun hc9 => ?_)
      · refine Rk.sp (G_iconst (pc := 28) dX9_every_28) ?_
        exact Rk.end_ (fun h => G_zreturn (pc := 29) rfl (nz inZ0) dX9_every_29 (q_Z h inZ0 hσ8))
      · refine Rk.sp (G_aload_n (pc := 30) 0 rfl rfl dX9_every_30) ?_
        refine Rk.sp (G_bipush (pc := 31) dX9_every_31 rfl) ?_
        refine Rk.sp (G_iconst (pc := 33) dX9_every_33) ?_
        refine Rk.cV (pc := 34) (Cl.v [vi 31, vi 0] [] dX9_every_34 ckX9_230 lb172 rfl rfl rfl (Nat.le_of_ble_eq_true rfl) (by omega)) (k_Mo_lay 31 0 σ8 (inRk 31 rfl) (inRk 0 rfl) hσ8) (fun σ10 hσ10 => ?_)
        refine Rk.sp (G_goto (pc := 37) (tgt := 9) dX9_every_37 rfl) ?_
        exact Rk.end_ (fun h => h hσ10)
    · refine Rk.sp (G_iconst (pc := 40) dX9_every_40) ?_
      exact Rk.end_ (fun h => G_zreturn (pc := 41) rfl (nz inZ1) dX9_every_41 (q_Z h inZ1 hσ4))
theorem k_Mo_any {κ : Kx} {μ : Sg} (rc : Sg → Option (Int × Sg)) (e : Nat) (hrc : ∀ σ, okS σ → CtZ κ mX9_oneTest e [vr 172] true μ σ (rc σ)) (he : 9 ≤ e) (σ : Sg) (hok : okS σ) : CtZ κ mX9_any (e + 2) [vr 172] true μ σ (Mo_any rc σ) := by
  intro r τ h
  refine con_of (by decide) (Nat.le_of_ble_eq_true rfl) 0 ?_
  refine (?_ : Rk κ mX9_any _ 0 [some (vr 172)] [] (ms true μ σ) (Mo_any rc σ) (fun a => a = (r, τ))) _ h rfl
  unfold Mo_any
  refine Rk.sp (G_aload_n (pc := 0) 0 rfl rfl dX9_any_0) ?_
  refine Rk.cZ (pc := 1) (Cl.v [] [] dX9_any_1 ckX9_237 lb172 rfl rfl rfl (Nat.le_of_ble_eq_true rfl) (by omega)) (k_Mo_every rc e hrc (by omega) σ hok) (fun r1 σ2 hr1 hσ2 => ?_)
  refine Rk.if_ne (pc := 4) (tgt := 9) dX9_any_4 (nmI (inZ.R hr1)) rfl (fun hc3 => ?_) (fun hc3 => ?_)
  · refine Rk.sp (G_iconst (pc := 7) dX9_any_7) ?_
    exact Rk.end_ (fun h => G_zreturn (pc := 8) rfl (nz inZ0) dX9_any_8 (q_Z h inZ0 hσ2))
  · refine Rk.loop (pc := 9) (B := (fun p => Mo_any_9_b rc p)) (fun p => okS p) (fun p => [some (vr 172)]) (fun p => (ms true μ p)) (fun p hp => ?_) σ2 hσ2
    revert hp; revert p; intro σ4 hσ4
    try dsimp only
    unfold Mo_any_9_b
    refine Rk.sp (G_aload_n (pc := 9) 0 rfl rfl dX9_any_9) ?_
    refine Rk.gI (pc := 10) flX9_193 cl9 rfl lb172 dX9_any_10 ?_
    refine Rk.sp (G_iconst (pc := 13) dX9_any_13) ?_
    refine Rk.icmp_ne (pc := 14) (tgt := 40) dX9_any_14 (nmI (hσ4 _ _)) (nmI (inRk 4 rfl)) rfl (fun hc5 => ?_) (fun hc5 => ?_)
    · refine Rk.sp (G_aload_n (pc := 17) 0 rfl rfl dX9_any_17) ?_
      refine Rk.cV (pc := 18) (Cl.v [] [] dX9_any_18 ckX9_217 lb172 rfl rfl rfl (Nat.le_of_ble_eq_true rfl) (by omega)) (k_Mo_next0 σ4 hσ4) (fun σ6 hσ6 => ?_)
      refine Rk.sp (G_aload_n (pc := 21) 0 rfl rfl dX9_any_21) ?_
      refine Rk.cZ (pc := 22) (Cl.v [] [] dX9_any_22 ckX9_237 lb172 rfl rfl rfl (Nat.le_of_ble_eq_true rfl) (by omega)) (k_Mo_every rc e hrc (by omega) σ6 hσ6) (fun r7 σ8 hr7 hσ8 => ?_)
      refine Rk.if_ne (pc := 25) (tgt := 30) dX9_any_25 (nmI (inZ.R hr7)) rfl (fun hc9 => ?_) (fun hc9 => ?_)
      · refine Rk.sp (G_iconst (pc := 28) dX9_any_28) ?_
        exact Rk.end_ (fun h => G_zreturn (pc := 29) rfl (nz inZ0) dX9_any_29 (q_Z h inZ0 hσ8))
      · refine Rk.sp (G_aload_n (pc := 30) 0 rfl rfl dX9_any_30) ?_
        refine Rk.sp (G_bipush (pc := 31) dX9_any_31 rfl) ?_
        refine Rk.sp (G_iconst (pc := 33) dX9_any_33) ?_
        refine Rk.cV (pc := 34) (Cl.v [vi 32, vi 0] [] dX9_any_34 ckX9_230 lb172 rfl rfl rfl (Nat.le_of_ble_eq_true rfl) (by omega)) (k_Mo_lay 32 0 σ8 (inRk 32 rfl) (inRk 0 rfl) hσ8) (fun σ10 hσ10 => ?_)
        refine Rk.sp (G_goto (pc := 37) (tgt := 9) dX9_any_37 rfl) ?_
        exact Rk.end_ (fun h => h hσ10)
    · refine Rk.sp (G_iconst (pc := 40) dX9_any_40) ?_
      exact Rk.end_ (fun h => G_zreturn (pc := 41) rfl (nz inZ1) dX9_any_41 (q_Z h inZ1 hσ4))
theorem k_Mo_oneTest {κ : Kx} {μ : Sg} : ∀ (n : Nat) (σ : Sg) (hok : okS σ), CtZ κ mX9_oneTest (12 + 3 * n) [vr 172] true μ σ (Mo_oneTest n σ)
  | 0, σ, hok => by
    intro r τ h; cases h
  | n + 1, σ, hok => by
    have ih := k_Mo_oneTest (κ := κ) (μ := μ) n
    generalize hen : 12 + 3 * n = e at ih
    intro r τ h
    refine con_of (by decide) (Nat.le_of_ble_eq_true rfl) 1 ?_
    refine (?_ : Rk κ mX9_oneTest _ 0 [some (vr 172), none] [] (ms true μ σ) (Mo_oneTest (n + 1) σ) (fun a => a = (r, τ))) _ h rfl
    unfold Mo_oneTest
    refine Rk.sp (G_aload_n (pc := 0) 0 rfl rfl dX9_oneTest_0) ?_
    refine Rk.gI (pc := 1) flX9_193 cl9 rfl lb172 dX9_oneTest_1 ?_
    refine Rk.sp (G_bipush (pc := 4) dX9_oneTest_4 rfl) ?_
    refine Rk.icmp_ne (pc := 6) (tgt := 44) dX9_oneTest_6 (nmI (hok _ _)) (nmI (inRk 6 rfl)) rfl (fun hc1 => ?_) (fun hc1 => ?_)
    · refine Rk.sp (G_aload_n (pc := 9) 0 rfl rfl dX9_oneTest_9) ?_
      refine Rk.cZ (pc := 10) (Cl.v [] [] dX9_oneTest_10 ckX9_243 lb172 rfl rfl rfl (Nat.le_of_ble_eq_true rfl) (by omega)) (k_Mo_opens σ hok) (fun r2 σ3 hr2 hσ3 => ?_)
      refine Rk.if_eq (pc := 13) (tgt := 23) dX9_oneTest_13 (nmI (inZ.R hr2)) rfl (fun hc4 => ?_) (fun hc4 => ?_)
      · refine Rk.sp (G_iconst (pc := 23) dX9_oneTest_23) ?_
        exact Rk.end_ (fun h => G_zreturn (pc := 24) rfl (nz inZ0) dX9_oneTest_24 (q_Z h inZ0 hσ3))
      · refine Rk.sp (G_aload_n (pc := 16) 0 rfl rfl dX9_oneTest_16) ?_
        refine Rk.cZ (pc := 17) (Cl.v [] [] dX9_oneTest_17 ckX9_240 lb172 rfl rfl rfl (Nat.le_of_ble_eq_true rfl) (by omega)) (ih σ3 hσ3) (fun r5 σ6 hr5 hσ6 => ?_)
        refine Rk.if_ne (pc := 20) (tgt := 25) dX9_oneTest_20 (nmI (inZ.R hr5)) rfl (fun hc7 => ?_) (fun hc7 => ?_)
        · refine Rk.sp (G_iconst (pc := 23) dX9_oneTest_23) ?_
          exact Rk.end_ (fun h => G_zreturn (pc := 24) rfl (nz inZ0) dX9_oneTest_24 (q_Z h inZ0 hσ6))
        · refine Rk.sp (G_aload_n (pc := 25) 0 rfl rfl dX9_oneTest_25) ?_
          refine Rk.sp (G_dup (pc := 26) dX9_oneTest_26 (fun _ h => by cases h)) ?_
          refine Rk.gI (pc := 27) flX9_223 cl9 rfl lb172 dX9_oneTest_27 ?_
          refine Rk.sp (G_iconst (pc := 30) dX9_oneTest_30) ?_
          refine Rk.sp (G_isub (pc := 31) dX9_oneTest_31) ?_
          refine Rk.pI (pc := 32) hσ6 (nmW _) flX9_223 cl9 rfl rfl lb172 dX9_oneTest_32 (fun σ8 hσ8 => ?_)
          refine Rk.sp (G_aload_n (pc := 35) 0 rfl rfl dX9_oneTest_35) ?_
          refine Rk.sp (G_bipush (pc := 36) dX9_oneTest_36 rfl) ?_
          refine Rk.sp (G_iconst (pc := 38) dX9_oneTest_38) ?_
          refine Rk.cV (pc := 39) (Cl.v [vi 30, vi 0] [] dX9_oneTest_39 ckX9_230 lb172 rfl rfl rfl (Nat.le_of_ble_eq_true rfl) (by omega)) (k_Mo_lay 30 0 σ8 (inRk 30 rfl) (inRk 0 rfl) hσ8) (fun σ9 hσ9 => ?_)
          refine Rk.sp (G_iconst (pc := 42) dX9_oneTest_42) ?_
          exact Rk.end_ (fun h => G_zreturn (pc := 43) rfl (nz inZ1) dX9_oneTest_43 (q_Z h inZ1 hσ9))
    · refine Rk.sp (G_aload_n (pc := 44) 0 rfl rfl dX9_oneTest_44) ?_
      refine Rk.gI (pc := 45) flX9_193 cl9 rfl lb172 dX9_oneTest_45 ?_
      refine Rk.sp (G_sipush (pc := 48) dX9_oneTest_48 rfl) ?_
      refine Rk.icmp_ne (pc := 51) (tgt := 92) dX9_oneTest_51 (nmI (hok _ _)) (nmI (inRk 140 rfl)) rfl (fun hc10 => ?_) (fun hc10 => ?_)
      · refine Rk.sp (G_aload_n (pc := 54) 0 rfl rfl dX9_oneTest_54) ?_
        refine Rk.cZ (pc := 55) (Cl.v [] [] dX9_oneTest_55 ckX9_243 lb172 rfl rfl rfl (Nat.le_of_ble_eq_true rfl) (by omega)) (k_Mo_opens σ hok) (fun r11 σ12 hr11 hσ12 => ?_)
        refine Rk.if_eq (pc := 58) (tgt := 78) dX9_oneTest_58 (nmI (inZ.R hr11)) rfl (fun hc13 => ?_) (fun hc13 => ?_)
        · refine Rk.sp (G_iconst (pc := 78) dX9_oneTest_78) ?_
          exact Rk.end_ (fun h => G_zreturn (pc := 79) rfl (nz inZ0) dX9_oneTest_79 (q_Z h inZ0 hσ12))
        · refine Rk.sp (G_aload_n (pc := 61) 0 rfl rfl dX9_oneTest_61) ?_
          refine Rk.cZ (pc := 62) (Cl.v [] [] dX9_oneTest_62 ckX9_246 lb172 rfl rfl rfl (Nat.le_of_ble_eq_true rfl) (by omega)) (k_Mo_any (Mo_oneTest n) e ih (by omega) σ12 hσ12) (fun r14 σ15 hr14 hσ15 => ?_)
          refine Rk.if_eq (pc := 65) (tgt := 78) dX9_oneTest_65 (nmI (inZ.R hr14)) rfl (fun hc16 => ?_) (fun hc16 => ?_)
          · refine Rk.sp (G_iconst (pc := 78) dX9_oneTest_78) ?_
            exact Rk.end_ (fun h => G_zreturn (pc := 79) rfl (nz inZ0) dX9_oneTest_79 (q_Z h inZ0 hσ15))
          · refine Rk.sp (G_aload_n (pc := 68) 0 rfl rfl dX9_oneTest_68) ?_
            refine Rk.sp (G_sipush (pc := 69) dX9_oneTest_69 rfl) ?_
            refine Rk.cZ (pc := 72) (Cl.v [vi 141] [] dX9_oneTest_72 ckX9_249 lb172 rfl rfl rfl (Nat.le_of_ble_eq_true rfl) (by omega)) (k_Mo_need 141 σ15 (inRk 141 rfl) hσ15) (fun r17 σ18 hr17 hσ18 => ?_)
            refine Rk.if_ne (pc := 75) (tgt := 80) dX9_oneTest_75 (nmI (inZ.R hr17)) rfl (fun hc19 => ?_) (fun hc19 => ?_)
            · refine Rk.sp (G_iconst (pc := 78) dX9_oneTest_78) ?_
              exact Rk.end_ (fun h => G_zreturn (pc := 79) rfl (nz inZ0) dX9_oneTest_79 (q_Z h inZ0 hσ18))
            · refine Rk.sp (G_aload_n (pc := 80) 0 rfl rfl dX9_oneTest_80) ?_
              refine Rk.sp (G_dup (pc := 81) dX9_oneTest_81 (fun _ h => by cases h)) ?_
              refine Rk.gI (pc := 82) flX9_223 cl9 rfl lb172 dX9_oneTest_82 ?_
              refine Rk.sp (G_iconst (pc := 85) dX9_oneTest_85) ?_
              refine Rk.sp (G_isub (pc := 86) dX9_oneTest_86) ?_
              refine Rk.pI (pc := 87) hσ18 (nmW _) flX9_223 cl9 rfl rfl lb172 dX9_oneTest_87 (fun σ20 hσ20 => ?_)
              refine Rk.sp (G_iconst (pc := 90) dX9_oneTest_90) ?_
              exact Rk.end_ (fun h => G_zreturn (pc := 91) rfl (nz inZ1) dX9_oneTest_91 (q_Z h inZ1 hσ20))
      · refine Rk.sp (G_aload_n (pc := 92) 0 rfl rfl dX9_oneTest_92) ?_
        refine Rk.cZ (pc := 93) (Cl.v [] [] dX9_oneTest_93 ckX9_252 lb172 rfl rfl rfl (Nat.le_of_ble_eq_true rfl) (by omega)) (k_Mo_sumUp σ hok) (fun r21 σ22 hr21 hσ22 => ?_)
        refine Rk.if_ne (pc := 96) (tgt := 101) dX9_oneTest_96 (nmI (inZ.R hr21)) rfl (fun hc23 => ?_) (fun hc23 => ?_)
        · refine Rk.sp (G_iconst (pc := 99) dX9_oneTest_99) ?_
          exact Rk.end_ (fun h => G_zreturn (pc := 100) rfl (nz inZ0) dX9_oneTest_100 (q_Z h inZ0 hσ22))
        · refine Rk.sp (G_aload_n (pc := 101) 0 rfl rfl dX9_oneTest_101) ?_
          refine Rk.gI (pc := 102) flX9_193 cl9 rfl lb172 dX9_oneTest_102 ?_
          refine Rk.sp (G_sipush (pc := 105) dX9_oneTest_105 rfl) ?_
          refine Rk.join (P := fun p => inR p) (pcj := 147) (fun p => [some (vr 172), none]) (fun p => [vi p]) (fun p => (ms true μ σ22)) ?_ (fun p hp => ?_)
          · refine Rk.icmp_ne (pc := 108) (tgt := 116) dX9_oneTest_108 (nmI (hσ22 _ _)) (nmI (inRk 160 rfl)) rfl (fun hc24 => ?_) (fun hc24 => ?_)
            · refine Rk.sp (G_bipush (pc := 111) dX9_oneTest_111 rfl) ?_
              refine Rk.sp (G_goto (pc := 113) (tgt := 147) dX9_oneTest_113 rfl) ?_
              exact Rk.end_ (fun h => h (inRk 27 rfl))
            · refine Rk.sp (G_aload_n (pc := 116) 0 rfl rfl dX9_oneTest_116) ?_
              refine Rk.gI (pc := 117) flX9_193 cl9 rfl lb172 dX9_oneTest_117 ?_
              refine Rk.sp (G_sipush (pc := 120) dX9_oneTest_120 rfl) ?_
              refine Rk.icmp_ne (pc := 123) (tgt := 131) dX9_oneTest_123 (nmI (hσ22 _ _)) (nmI (inRk 161 rfl)) rfl (fun hc26 => ?_) (fun hc26 => ?_)
              · refine Rk.sp (G_bipush (pc := 126) dX9_oneTest_126 rfl) ?_
                refine Rk.sp (G_goto (pc := 128) (tgt := 147) dX9_oneTest_128 rfl) ?_
                exact Rk.end_ (fun h => h (inRk 28 rfl))
              · refine Rk.sp (G_aload_n (pc := 131) 0 rfl rfl dX9_oneTest_131) ?_
                refine Rk.gI (pc := 132) flX9_193 cl9 rfl lb172 dX9_oneTest_132 ?_
                refine Rk.sp (G_sipush (pc := 135) dX9_oneTest_135 rfl) ?_
                refine Rk.icmp_ne (pc := 138) (tgt := 146) dX9_oneTest_138 (nmI (hσ22 _ _)) (nmI (inRk 162 rfl)) rfl (fun hc27 => ?_) (fun hc27 => ?_)
                · refine Rk.sp (G_bipush (pc := 141) dX9_oneTest_141 rfl) ?_
                  refine Rk.sp (G_goto (pc := 143) (tgt := 147) dX9_oneTest_143 rfl) ?_
                  exact Rk.end_ (fun h => h (inRk 29 rfl))
                · refine Rk.sp (G_iconst (pc := 146) dX9_oneTest_146) ?_
                  exact Rk.end_ (fun h => h (inRk (-1) rfl))
          · revert hp; revert p; intro t25 ht25
            try dsimp only
            refine Rk.isa_n (pc := 147) 1 (L' := [some (vr 172), some (vi t25)]) rfl (Nat.le_of_ble_eq_true rfl) rfl dX9_oneTest_147 rfl ?_
            refine Rk.sp (G_iload_n (pc := 148) 1 rfl rfl dX9_oneTest_148) ?_
            refine Rk.sp (G_iconst (pc := 149) dX9_oneTest_149) ?_
            refine Rk.icmp_ne (pc := 150) (tgt := 159) dX9_oneTest_150 (nmI ht25) (nmI (inRk (-1) rfl)) rfl (fun hc28 => ?_) (fun hc28 => ?_)
            · refine Rk.sp (G_aload_n (pc := 153) 0 rfl rfl dX9_oneTest_153) ?_
              refine Rk.sp (G_iconst (pc := 154) dX9_oneTest_154) ?_
              refine Rk.cZ (pc := 155) (Cl.v [vi 1] [] dX9_oneTest_155 ckX9_214 lb172 rfl rfl rfl (Nat.le_of_ble_eq_true rfl) (by omega)) (k_Mo_bad 1 σ22 (inRk 1 rfl) hσ22) (fun r29 σ30 hr29 hσ30 => ?_)
              exact Rk.end_ (fun h => G_zreturn (pc := 158) rfl (nz hr29) dX9_oneTest_158 (q_Z h hr29 hσ30))
            · refine Rk.sp (G_aload_n (pc := 159) 0 rfl rfl dX9_oneTest_159) ?_
              refine Rk.cV (pc := 160) (Cl.v [] [] dX9_oneTest_160 ckX9_217 lb172 rfl rfl rfl (Nat.le_of_ble_eq_true rfl) (by omega)) (k_Mo_next0 σ22 hσ22) (fun σ31 hσ31 => ?_)
              refine Rk.sp (G_aload_n (pc := 163) 0 rfl rfl dX9_oneTest_163) ?_
              refine Rk.cZ (pc := 164) (Cl.v [] [] dX9_oneTest_164 ckX9_252 lb172 rfl rfl rfl (Nat.le_of_ble_eq_true rfl) (by omega)) (k_Mo_sumUp σ31 hσ31) (fun r32 σ33 hr32 hσ33 => ?_)
              refine Rk.if_ne (pc := 167) (tgt := 172) dX9_oneTest_167 (nmI (inZ.R hr32)) rfl (fun hc34 => ?_) (fun hc34 => ?_)
              · refine Rk.sp (G_iconst (pc := 170) dX9_oneTest_170) ?_
                exact Rk.end_ (fun h => G_zreturn (pc := 171) rfl (nz inZ0) dX9_oneTest_171 (q_Z h inZ0 hσ33))
              · refine Rk.sp (G_aload_n (pc := 172) 0 rfl rfl dX9_oneTest_172) ?_
                refine Rk.sp (G_iload_n (pc := 173) 1 rfl rfl dX9_oneTest_173) ?_
                refine Rk.sp (G_iconst (pc := 174) dX9_oneTest_174) ?_
                refine Rk.cV (pc := 175) (Cl.v [vi t25, vi 0] [] dX9_oneTest_175 ckX9_230 lb172 rfl rfl rfl (Nat.le_of_ble_eq_true rfl) (by omega)) (k_Mo_lay t25 0 σ33 ht25 (inRk 0 rfl) hσ33) (fun σ35 hσ35 => ?_)
                refine Rk.sp (G_iconst (pc := 178) dX9_oneTest_178) ?_
                exact Rk.end_ (fun h => G_zreturn (pc := 179) rfl (nz inZ1) dX9_oneTest_179 (q_Z h inZ1 hσ35))
theorem k_Sh_emit {κ : Kx} {μ : Sg} (t0 : Nat) (a1 : Int) (σ : Sg) (ht0 : LB false t0 (1, 5)) (ha1 : inR a1) (hok : okS σ) : CtV κ mX5_emit 0 [vr t0, vi a1] false μ σ (Sh_emit t0 a1 σ) := by
  intro τ h
  refine con_of (by decide) (Nat.le_of_ble_eq_true rfl) 0 ?_
  refine (?_ : Rk κ mX5_emit _ 0 [some (vr t0), some (vi a1)] [] (ms false μ σ) (Sh_emit t0 a1 σ) (fun a => a = τ)) _ h rfl
  unfold Sh_emit
  refine Rk.sp (G_aload_n (pc := 0) 0 rfl rfl dX5_emit_0) ?_
  refine Rk.gI (pc := 1) flX5_26 cl5 rfl ht0 dX5_emit_1 ?_
  refine Rk.sp (G_aload_n (pc := 4) 0 rfl rfl dX5_emit_4) ?_
  refine Rk.gR (pc := 5) (t0 + 2) flX5_13 cl5 rfl ht0 dX5_emit_5 ?_
  refine Rk.sp (G_arrlen (pc := 8) ((LBs ht0 2 (by decide))).1 dX5_emit_8) ?_
  refine Rk.icmp_ge (pc := 9) (tgt := 32) dX5_emit_9 (nmI (hok _ _)) (nmI (lnR _)) rfl (fun hc1 => ?_) (fun hc1 => ?_)
  · refine Rk.sp (G_aload_n (pc := 12) 0 rfl rfl dX5_emit_12) ?_
    refine Rk.gR (pc := 13) (t0 + 2) flX5_13 cl5 rfl ht0 dX5_emit_13 ?_
    refine Rk.sp (G_aload_n (pc := 16) 0 rfl rfl dX5_emit_16) ?_
    refine Rk.gI (pc := 17) flX5_26 cl5 rfl ht0 dX5_emit_17 ?_
    refine Rk.sp (G_iload_n (pc := 20) 1 rfl rfl dX5_emit_20) ?_
    refine Rk.as (pc := 21) hok (nmI ha1) (LBs ht0 2 (by decide)) dX5_emit_21 (fun hi3 σ2 hσ2 => ?_)
    refine Rk.sp (G_aload_n (pc := 22) 0 rfl rfl dX5_emit_22) ?_
    refine Rk.sp (G_dup (pc := 23) dX5_emit_23 (fun _ h => by cases h)) ?_
    refine Rk.gI (pc := 24) flX5_26 cl5 rfl ht0 dX5_emit_24 ?_
    refine Rk.sp (G_iconst (pc := 27) dX5_emit_27) ?_
    refine Rk.sp (G_iadd (pc := 28) dX5_emit_28) ?_
    refine Rk.pI (pc := 29) hσ2 (nmW _) flX5_26 cl5 rfl rfl ht0 dX5_emit_29 (fun σ4 hσ4 => ?_)
    exact Rk.end_ (fun h => G_return (pc := 32) rfl dX5_emit_32 (q_V h hσ4))
  · exact Rk.end_ (fun h => G_return (pc := 32) rfl dX5_emit_32 (q_V h hok))
theorem k_Re_isWord {κ : Kx} {μ : Sg} (a1 : Int) (σ : Sg) (ha1 : inR a1) (hok : okS σ) : CtRZ κ mX4_isWord 0 [vr 141, vi a1] false μ σ (Re_isWord a1 σ) := by
  intro r h
  refine con_of (by decide) (Nat.le_of_ble_eq_true rfl) 0 ?_
  refine (?_ : Rk κ mX4_isWord _ 0 [some (vr 141), some (vi a1)] [] (ms false μ σ) (Re_isWord a1 σ) (fun a => a = r)) _ h rfl
  unfold Re_isWord
  refine Rk.sp (G_aload_n (pc := 0) 0 rfl rfl dX4_isWord_0) ?_
  refine Rk.gR (pc := 1) 146 flX4_28 cl4 rfl lb141 dX4_isWord_1 ?_
  refine Rk.sp (G_aload_n (pc := 4) 0 rfl rfl dX4_isWord_4) ?_
  refine Rk.gI (pc := 5) flX4_50 cl4 rfl lb141 dX4_isWord_5 ?_
  refine Rk.al (pc := 8) lb146 dX4_isWord_8 (fun hi1 => ?_)
  refine Rk.sp (G_iconst (pc := 9) dX4_isWord_9) ?_
  refine Rk.icmp_ne (pc := 10) (tgt := 30) dX4_isWord_10 (nmI (hok _ _)) (nmI (inRk 1 rfl)) rfl (fun hc2 => ?_) (fun hc2 => ?_)
  · refine Rk.sp (G_aload_n (pc := 13) 0 rfl rfl dX4_isWord_13) ?_
    refine Rk.gR (pc := 14) 147 flX4_31 cl4 rfl lb141 dX4_isWord_14 ?_
    refine Rk.sp (G_aload_n (pc := 17) 0 rfl rfl dX4_isWord_17) ?_
    refine Rk.gI (pc := 18) flX4_50 cl4 rfl lb141 dX4_isWord_18 ?_
    refine Rk.al (pc := 21) lb147 dX4_isWord_21 (fun hi3 => ?_)
    refine Rk.sp (G_iload_n (pc := 22) 1 rfl rfl dX4_isWord_22) ?_
    refine Rk.icmp_ne (pc := 23) (tgt := 30) dX4_isWord_23 (nmI (hok _ _)) (nmI ha1) rfl (fun hc4 => ?_) (fun hc4 => ?_)
    · refine Rk.sp (G_iconst (pc := 26) dX4_isWord_26) ?_
      refine Rk.sp (G_goto (pc := 27) (tgt := 31) dX4_isWord_27 rfl) ?_
      exact Rk.end_ (fun h => G_zreturn (pc := 31) rfl (nz inZ1) dX4_isWord_31 (q_RZ h inZ1))
    · refine Rk.sp (G_iconst (pc := 30) dX4_isWord_30) ?_
      exact Rk.end_ (fun h => G_zreturn (pc := 31) rfl (nz inZ0) dX4_isWord_31 (q_RZ h inZ0))
  · refine Rk.sp (G_iconst (pc := 30) dX4_isWord_30) ?_
    exact Rk.end_ (fun h => G_zreturn (pc := 31) rfl (nz inZ0) dX4_isWord_31 (q_RZ h inZ0))
theorem k_Re_advance {κ : Kx} {μ : Sg} (σ : Sg) (hok : okS σ) : CtV κ mX4_advance 0 [vr 141] false μ σ (Re_advance σ) := by
  intro τ h
  refine con_of (by decide) (Nat.le_of_ble_eq_true rfl) 0 ?_
  refine (?_ : Rk κ mX4_advance _ 0 [some (vr 141)] [] (ms false μ σ) (Re_advance σ) (fun a => a = τ)) _ h rfl
  unfold Re_advance
  refine Rk.sp (G_aload_n (pc := 0) 0 rfl rfl dX4_advance_0) ?_
  refine Rk.gI (pc := 1) flX4_50 cl4 rfl lb141 dX4_advance_1 ?_
  refine Rk.sp (G_aload_n (pc := 4) 0 rfl rfl dX4_advance_4) ?_
  refine Rk.gI (pc := 5) flX4_47 cl4 rfl lb141 dX4_advance_5 ?_
  refine Rk.sp (G_iconst (pc := 8) dX4_advance_8) ?_
  refine Rk.sp (G_isub (pc := 9) dX4_advance_9) ?_
  refine Rk.icmp_ge (pc := 10) (tgt := 23) dX4_advance_10 (nmI (hok _ _)) (nmW _) rfl (fun hc1 => ?_) (fun hc1 => ?_)
  · refine Rk.sp (G_aload_n (pc := 13) 0 rfl rfl dX4_advance_13) ?_
    refine Rk.sp (G_dup (pc := 14) dX4_advance_14 (fun _ h => by cases h)) ?_
    refine Rk.gI (pc := 15) flX4_50 cl4 rfl lb141 dX4_advance_15 ?_
    refine Rk.sp (G_iconst (pc := 18) dX4_advance_18) ?_
    refine Rk.sp (G_iadd (pc := 19) dX4_advance_19) ?_
    refine Rk.pI (pc := 20) hok (nmW _) flX4_50 cl4 rfl rfl lb141 dX4_advance_20 (fun σ2 hσ2 => ?_)
    exact Rk.end_ (fun h => G_return (pc := 23) rfl dX4_advance_23 (q_V h hσ2))
  · exact Rk.end_ (fun h => G_return (pc := 23) rfl dX4_advance_23 (q_V h hok))
theorem k_Re_refuse {κ : Kx} {μ : Sg} (a1 : Int) (σ : Sg) (ha1 : inR a1) (hok : okS σ) : CtZ κ mX4_refuse 0 [vr 141, vi a1] false μ σ (Re_refuse a1 σ) := by
  intro r τ h
  refine con_of (by decide) (Nat.le_of_ble_eq_true rfl) 0 ?_
  refine (?_ : Rk κ mX4_refuse _ 0 [some (vr 141), some (vi a1)] [] (ms false μ σ) (Re_refuse a1 σ) (fun a => a = (r, τ))) _ h rfl
  unfold Re_refuse
  refine Rk.sp (G_aload_n (pc := 0) 0 rfl rfl dX4_refuse_0) ?_
  refine Rk.sp (G_iload_n (pc := 1) 1 rfl rfl dX4_refuse_1) ?_
  refine Rk.pI (pc := 2) hok (nmI ha1) flX4_44 cl4 rfl rfl lb141 dX4_refuse_2 (fun σ1 hσ1 => ?_)
  refine Rk.sp (G_aload_n (pc := 5) 0 rfl rfl dX4_refuse_5) ?_
  refine Rk.sp (G_aload_n (pc := 6) 0 rfl rfl dX4_refuse_6) ?_
  refine Rk.gR (pc := 7) 148 flX4_34 cl4 rfl lb141 dX4_refuse_7 ?_
  refine Rk.sp (G_aload_n (pc := 10) 0 rfl rfl dX4_refuse_10) ?_
  refine Rk.gI (pc := 11) flX4_50 cl4 rfl lb141 dX4_refuse_11 ?_
  refine Rk.al (pc := 14) lb148 dX4_refuse_14 (fun hi2 => ?_)
  refine Rk.pI (pc := 15) hσ1 (nmI (hσ1 _ _)) flX4_20 cl4 rfl rfl lb141 dX4_refuse_15 (fun σ3 hσ3 => ?_)
  refine Rk.sp (G_iconst (pc := 18) dX4_refuse_18) ?_
  exact Rk.end_ (fun h => G_zreturn (pc := 19) rfl (nz inZ0) dX4_refuse_19 (q_Z h inZ0 hσ3))
theorem k_Re_isSign {κ : Kx} {μ : Sg} (a1 : Int) (σ : Sg) (ha1 : inR a1) (hok : okS σ) : CtRZ κ mX4_isSign 0 [vr 141, vi a1] false μ σ (Re_isSign a1 σ) := by
  intro r h
  refine con_of (by decide) (Nat.le_of_ble_eq_true rfl) 0 ?_
  refine (?_ : Rk κ mX4_isSign _ 0 [some (vr 141), some (vi a1)] [] (ms false μ σ) (Re_isSign a1 σ) (fun a => a = r)) _ h rfl
  unfold Re_isSign
  refine Rk.sp (G_aload_n (pc := 0) 0 rfl rfl dX4_isSign_0) ?_
  refine Rk.gR (pc := 1) 146 flX4_28 cl4 rfl lb141 dX4_isSign_1 ?_
  refine Rk.sp (G_aload_n (pc := 4) 0 rfl rfl dX4_isSign_4) ?_
  refine Rk.gI (pc := 5) flX4_50 cl4 rfl lb141 dX4_isSign_5 ?_
  refine Rk.al (pc := 8) lb146 dX4_isSign_8 (fun hi1 => ?_)
  refine Rk.sp (G_iconst (pc := 9) dX4_isSign_9) ?_
  refine Rk.icmp_ne (pc := 10) (tgt := 30) dX4_isSign_10 (nmI (hok _ _)) (nmI (inRk 3 rfl)) rfl (fun hc2 => ?_) (fun hc2 => ?_)
  · refine Rk.sp (G_aload_n (pc := 13) 0 rfl rfl dX4_isSign_13) ?_
    refine Rk.gR (pc := 14) 147 flX4_31 cl4 rfl lb141 dX4_isSign_14 ?_
    refine Rk.sp (G_aload_n (pc := 17) 0 rfl rfl dX4_isSign_17) ?_
    refine Rk.gI (pc := 18) flX4_50 cl4 rfl lb141 dX4_isSign_18 ?_
    refine Rk.al (pc := 21) lb147 dX4_isSign_21 (fun hi3 => ?_)
    refine Rk.sp (G_iload_n (pc := 22) 1 rfl rfl dX4_isSign_22) ?_
    refine Rk.icmp_ne (pc := 23) (tgt := 30) dX4_isSign_23 (nmI (hok _ _)) (nmI ha1) rfl (fun hc4 => ?_) (fun hc4 => ?_)
    · refine Rk.sp (G_iconst (pc := 26) dX4_isSign_26) ?_
      refine Rk.sp (G_goto (pc := 27) (tgt := 31) dX4_isSign_27 rfl) ?_
      exact Rk.end_ (fun h => G_zreturn (pc := 31) rfl (nz inZ1) dX4_isSign_31 (q_RZ h inZ1))
    · refine Rk.sp (G_iconst (pc := 30) dX4_isSign_30) ?_
      exact Rk.end_ (fun h => G_zreturn (pc := 31) rfl (nz inZ0) dX4_isSign_31 (q_RZ h inZ0))
  · refine Rk.sp (G_iconst (pc := 30) dX4_isSign_30) ?_
    exact Rk.end_ (fun h => G_zreturn (pc := 31) rfl (nz inZ0) dX4_isSign_31 (q_RZ h inZ0))
theorem k_Re_takeSign {κ : Kx} {μ : Sg} (a1 : Int) (σ : Sg) (ha1 : inR a1) (hok : okS σ) : CtZ κ mX4_takeSign 1 [vr 141, vi a1] false μ σ (Re_takeSign a1 σ) := by
  intro r τ h
  refine con_of (by decide) (Nat.le_of_ble_eq_true rfl) 0 ?_
  refine (?_ : Rk κ mX4_takeSign _ 0 [some (vr 141), some (vi a1)] [] (ms false μ σ) (Re_takeSign a1 σ) (fun a => a = (r, τ))) _ h rfl
  unfold Re_takeSign
  refine Rk.sp (G_aload_n (pc := 0) 0 rfl rfl dX4_takeSign_0) ?_
  refine Rk.sp (G_iload_n (pc := 1) 1 rfl rfl dX4_takeSign_1) ?_
  refine Rk.cRZ (pc := 2) (Cl.v [vi a1] [] dX4_takeSign_2 ckX4_156 lb141 rfl rfl rfl (Nat.le_of_ble_eq_true rfl) (Nat.le_of_ble_eq_true rfl)) (k_Re_isSign a1 σ ha1 hok) (fun r1 hr1 => ?_)
  refine Rk.if_ne (pc := 5) (tgt := 14) dX4_takeSign_5 (nmI (inZ.R hr1)) rfl (fun hc2 => ?_) (fun hc2 => ?_)
  · refine Rk.sp (G_aload_n (pc := 8) 0 rfl rfl dX4_takeSign_8) ?_
    refine Rk.sp (G_iconst (pc := 9) dX4_takeSign_9) ?_
    refine Rk.cZ (pc := 10) (Cl.v [vi 1] [] dX4_takeSign_10 ckX4_100 lb141 rfl rfl rfl (Nat.le_of_ble_eq_true rfl) (Nat.le_of_ble_eq_true rfl)) (k_Re_refuse 1 σ (inRk 1 rfl) hok) (fun r3 σ4 hr3 hσ4 => ?_)
    exact Rk.end_ (fun h => G_zreturn (pc := 13) rfl (nz hr3) dX4_takeSign_13 (q_Z h hr3 hσ4))
  · refine Rk.sp (G_aload_n (pc := 14) 0 rfl rfl dX4_takeSign_14) ?_
    refine Rk.cV (pc := 15) (Cl.v [] [] dX4_takeSign_15 ckX4_125 lb141 rfl rfl rfl (Nat.le_of_ble_eq_true rfl) (Nat.le_of_ble_eq_true rfl)) (k_Re_advance σ hok) (fun σ5 hσ5 => ?_)
    refine Rk.sp (G_iconst (pc := 18) dX4_takeSign_18) ?_
    exact Rk.end_ (fun h => G_zreturn (pc := 19) rfl (nz inZ1) dX4_takeSign_19 (q_Z h inZ1 hσ5))
theorem k_Ju_step {κ : Kx} {b : Bool} {μ σ : Sg} (a1 : Int) (a2 : Int) (ha1 : inR a1) (ha2 : inR a2) : CtRI κ mX2_step 0 [vi a1, vi a2] b μ σ (Ju_step a1 a2) := by
  intro r h
  refine con_of (by decide) (Nat.le_of_ble_eq_true rfl) 0 ?_
  refine (?_ : Rk κ mX2_step _ 0 [some (vi a1), some (vi a2)] [] (ms b μ σ) (Ju_step a1 a2) (fun a => a = r)) _ h rfl
  unfold Ju_step
  refine Rk.sp (G_iload_n (pc := 0) 1 rfl rfl dX2_step_0) ?_
  refine Rk.sp (G_bipush (pc := 1) dX2_step_1 rfl) ?_
  refine Rk.sp (G_imul (pc := 3) dX2_step_3) ?_
  refine Rk.sp (G_iload_n (pc := 4) 0 rfl rfl dX2_step_4) ?_
  refine Rk.sp (G_iadd (pc := 5) dX2_step_5) ?_
  refine Rk.sp (Go.n0 (nmW _)) ?_
  exact Rk.end_ (fun h => G_ireturn (pc := 6) rfl dX2_step_6 (q_RI h (wrR _)))
theorem k_Re_takeOperand {κ : Kx} {μ : Sg} (σ : Sg) (hok : okS σ) : CtZ κ mX4_takeOperand 1 [vr 141] false μ σ (Re_takeOperand σ) := by
  intro r τ h
  refine con_of (by decide) (Nat.le_of_ble_eq_true rfl) 0 ?_
  refine (?_ : Rk κ mX4_takeOperand _ 0 [some (vr 141)] [] (ms false μ σ) (Re_takeOperand σ) (fun a => a = (r, τ))) _ h rfl
  unfold Re_takeOperand
  refine Rk.sp (G_aload_n (pc := 0) 0 rfl rfl dX4_takeOperand_0) ?_
  refine Rk.gR (pc := 1) 146 flX4_28 cl4 rfl lb141 dX4_takeOperand_1 ?_
  refine Rk.sp (G_aload_n (pc := 4) 0 rfl rfl dX4_takeOperand_4) ?_
  refine Rk.gI (pc := 5) flX4_50 cl4 rfl lb141 dX4_takeOperand_5 ?_
  refine Rk.al (pc := 8) lb146 dX4_takeOperand_8 (fun hi1 => ?_)
  refine Rk.sp (G_iconst (pc := 9) dX4_takeOperand_9) ?_
  refine Rk.icmp_ne (pc := 10) (tgt := 36) dX4_takeOperand_10 (nmI (hok _ _)) (nmI (inRk 2 rfl)) rfl (fun hc2 => ?_) (fun hc2 => ?_)
  · refine Rk.sp (G_aload_n (pc := 13) 0 rfl rfl dX4_takeOperand_13) ?_
    refine Rk.gR (pc := 14) 142 flX4_16 cl4 rfl lb141 dX4_takeOperand_14 ?_
    refine Rk.sp (G_iconst (pc := 17) dX4_takeOperand_17) ?_
    refine Rk.sp (G_aload_n (pc := 18) 0 rfl rfl dX4_takeOperand_18) ?_
    refine Rk.gR (pc := 19) 147 flX4_31 cl4 rfl lb141 dX4_takeOperand_19 ?_
    refine Rk.sp (G_aload_n (pc := 22) 0 rfl rfl dX4_takeOperand_22) ?_
    refine Rk.gI (pc := 23) flX4_50 cl4 rfl lb141 dX4_takeOperand_23 ?_
    refine Rk.al (pc := 26) lb147 dX4_takeOperand_26 (fun hi3 => ?_)
    refine Rk.cRI (pc := 27) (Cl.s [vi 0, vi (σ 147 ((σ 141 9)).toNat)] [vr 142] dX4_takeOperand_27 ckX4_168 rfl rfl (Nat.le_of_ble_eq_true rfl) (Nat.le_of_ble_eq_true rfl)) (k_Ju_step 0 (σ 147 ((σ 141 9)).toNat) (inRk 0 rfl) (hok _ _)) (fun r4 hr4 => ?_)
    refine Rk.cV (pc := 30) (Cl.v [vi r4] [] dX4_takeOperand_30 ckX4_153 lb142 rfl rfl rfl (Nat.le_of_ble_eq_true rfl) (Nat.le_of_ble_eq_true rfl)) (k_Sh_emit 142 r4 σ lb142 hr4 hok) (fun σ5 hσ5 => ?_)
    refine Rk.sp (G_goto (pc := 33) (tgt := 95) dX4_takeOperand_33 rfl) ?_
    refine Rk.sp (G_aload_n (pc := 95) 0 rfl rfl dX4_takeOperand_95) ?_
    refine Rk.cV (pc := 96) (Cl.v [] [] dX4_takeOperand_96 ckX4_125 lb141 rfl rfl rfl (Nat.le_of_ble_eq_true rfl) (Nat.le_of_ble_eq_true rfl)) (k_Re_advance σ5 hσ5) (fun σ6 hσ6 => ?_)
    refine Rk.sp (G_iconst (pc := 99) dX4_takeOperand_99) ?_
    exact Rk.end_ (fun h => G_zreturn (pc := 100) rfl (nz inZ1) dX4_takeOperand_100 (q_Z h inZ1 hσ6))
  · refine Rk.sp (G_aload_n (pc := 36) 0 rfl rfl dX4_takeOperand_36) ?_
    refine Rk.gR (pc := 37) 146 flX4_28 cl4 rfl lb141 dX4_takeOperand_37 ?_
    refine Rk.sp (G_aload_n (pc := 40) 0 rfl rfl dX4_takeOperand_40) ?_
    refine Rk.gI (pc := 41) flX4_50 cl4 rfl lb141 dX4_takeOperand_41 ?_
    refine Rk.al (pc := 44) lb146 dX4_takeOperand_44 (fun hi7 => ?_)
    refine Rk.sp (G_iconst (pc := 45) dX4_takeOperand_45) ?_
    refine Rk.sel (A := 89) (B := 63) (st' := []) ?_ ?_ ?_
    · refine Rk.icmp_ne (pc := 46) (tgt := 89) dX4_takeOperand_46 (nmI (hok _ _)) (nmI (inRk 1 rfl)) rfl (fun hc8 => ?_) (fun hc8 => ?_)
      · refine Rk.sp (G_aload_n (pc := 49) 0 rfl rfl dX4_takeOperand_49) ?_
        refine Rk.gR (pc := 50) 147 flX4_31 cl4 rfl lb141 dX4_takeOperand_50 ?_
        refine Rk.sp (G_aload_n (pc := 53) 0 rfl rfl dX4_takeOperand_53) ?_
        refine Rk.gI (pc := 54) flX4_50 cl4 rfl lb141 dX4_takeOperand_54 ?_
        refine Rk.al (pc := 57) lb147 dX4_takeOperand_57 (fun hi9 => ?_)
        refine Rk.sp (G_bipush (pc := 58) dX4_takeOperand_58 rfl) ?_
        refine Rk.icmp_lt (pc := 60) (tgt := 89) dX4_takeOperand_60 (nmI (hok _ _)) (nmI (inRk 9 rfl)) rfl (fun hc10 => ?_) (fun hc10 => ?_)
        · exact Rk.end_ (fun h => h inZ1)
        · exact Rk.end_ (fun h => h inZ0)
      · exact Rk.end_ (fun h => h inZ1)
    · refine Rk.sp (G_aload_n (pc := 63) 0 rfl rfl dX4_takeOperand_63) ?_
      refine Rk.gR (pc := 64) 142 flX4_16 cl4 rfl lb141 dX4_takeOperand_64 ?_
      refine Rk.sp (G_iconst (pc := 67) dX4_takeOperand_67) ?_
      refine Rk.sp (G_aload_n (pc := 68) 0 rfl rfl dX4_takeOperand_68) ?_
      refine Rk.gR (pc := 69) 147 flX4_31 cl4 rfl lb141 dX4_takeOperand_69 ?_
      refine Rk.sp (G_aload_n (pc := 72) 0 rfl rfl dX4_takeOperand_72) ?_
      refine Rk.gI (pc := 73) flX4_50 cl4 rfl lb141 dX4_takeOperand_73 ?_
      refine Rk.al (pc := 76) lb147 dX4_takeOperand_76 (fun hi13 => ?_)
      refine Rk.sp (G_bipush (pc := 77) dX4_takeOperand_77 rfl) ?_
      refine Rk.sp (G_isub (pc := 79) dX4_takeOperand_79) ?_
      refine Rk.sp (Go.n0 (nmW _)) ?_
      refine Rk.cRI (pc := 80) (Cl.s [vi 1, vi (wr ((σ 147 ((σ 141 9)).toNat) - 9))] [vr 142] dX4_takeOperand_80 ckX4_168 rfl rfl (Nat.le_of_ble_eq_true rfl) (Nat.le_of_ble_eq_true rfl)) (k_Ju_step 1 (wr ((σ 147 ((σ 141 9)).toNat) - 9)) (inRk 1 rfl) (wrR _)) (fun r14 hr14 => ?_)
      refine Rk.cV (pc := 83) (Cl.v [vi r14] [] dX4_takeOperand_83 ckX4_153 lb142 rfl rfl rfl (Nat.le_of_ble_eq_true rfl) (Nat.le_of_ble_eq_true rfl)) (k_Sh_emit 142 r14 σ lb142 hr14 hok) (fun σ15 hσ15 => ?_)
      refine Rk.sp (G_goto (pc := 86) (tgt := 95) dX4_takeOperand_86 rfl) ?_
      refine Rk.sp (G_aload_n (pc := 95) 0 rfl rfl dX4_takeOperand_95) ?_
      refine Rk.cV (pc := 96) (Cl.v [] [] dX4_takeOperand_96 ckX4_125 lb141 rfl rfl rfl (Nat.le_of_ble_eq_true rfl) (Nat.le_of_ble_eq_true rfl)) (k_Re_advance σ15 hσ15) (fun σ16 hσ16 => ?_)
      refine Rk.sp (G_iconst (pc := 99) dX4_takeOperand_99) ?_
      exact Rk.end_ (fun h => G_zreturn (pc := 100) rfl (nz inZ1) dX4_takeOperand_100 (q_Z h inZ1 hσ16))
    · refine Rk.sp (G_aload_n (pc := 89) 0 rfl rfl dX4_takeOperand_89) ?_
      refine Rk.sp (G_iconst (pc := 90) dX4_takeOperand_90) ?_
      refine Rk.cZ (pc := 91) (Cl.v [vi 1] [] dX4_takeOperand_91 ckX4_100 lb141 rfl rfl rfl (Nat.le_of_ble_eq_true rfl) (Nat.le_of_ble_eq_true rfl)) (k_Re_refuse 1 σ (inRk 1 rfl) hok) (fun r11 σ12 hr11 hσ12 => ?_)
      exact Rk.end_ (fun h => G_zreturn (pc := 94) rfl (nz hr11) dX4_takeOperand_94 (q_Z h hr11 hσ12))
theorem k_Re_takeParts {κ : Kx} {μ : Sg} (σ : Sg) (hok : okS σ) : CtZ κ mX4_takeParts 1 [vr 141] false μ σ (Re_takeParts σ) := by
  intro r τ h
  refine con_of (by decide) (Nat.le_of_ble_eq_true rfl) 1 ?_
  refine (?_ : Rk κ mX4_takeParts _ 0 [some (vr 141), none] [] (ms false μ σ) (Re_takeParts σ) (fun a => a = (r, τ))) _ h rfl
  unfold Re_takeParts
  refine Rk.sp (G_iconst (pc := 0) dX4_takeParts_0) ?_
  refine Rk.isa_n (pc := 1) 1 (L' := [some (vr 141), some (vi 0)]) rfl (Nat.le_of_ble_eq_true rfl) rfl dX4_takeParts_1 rfl ?_
  refine Rk.loop (pc := 2) (B := (fun p => Re_takeParts_2_b p.1 p.2)) (fun p => inR p.1 ∧ okS p.2) (fun p => [some (vr 141), some (vi p.1)]) (fun p => (ms false μ p.2)) (fun p hp => ?_) (0, σ) ⟨(inRk 0 rfl), hok⟩
  obtain ⟨v1_1, σ2⟩ := p
  obtain ⟨hv1_1, hσ2⟩ := hp
  try dsimp only
  unfold Re_takeParts_2_b
  refine Rk.sp (G_iload_n (pc := 2) 1 rfl rfl dX4_takeParts_2) ?_
  refine Rk.sp (G_sipush (pc := 3) dX4_takeParts_3 rfl) ?_
  refine Rk.icmp_gt (pc := 6) (tgt := 89) dX4_takeParts_6 (nmI hv1_1) (nmI (inRk 400 rfl)) rfl (fun hc3 => ?_) (fun hc3 => ?_)
  · refine Rk.sp (G_iconst (pc := 89) dX4_takeParts_89) ?_
    exact Rk.end_ (fun h => G_zreturn (pc := 90) rfl (nz inZ1) dX4_takeParts_90 (q_Z h inZ1 hσ2))
  · refine Rk.sp (G_aload_n (pc := 9) 0 rfl rfl dX4_takeParts_9) ?_
    refine Rk.sp (G_bipush (pc := 10) dX4_takeParts_10 rfl) ?_
    refine Rk.cRZ (pc := 12) (Cl.v [vi 47] [] dX4_takeParts_12 ckX4_156 lb141 rfl rfl rfl (Nat.le_of_ble_eq_true rfl) (Nat.le_of_ble_eq_true rfl)) (k_Re_isSign 47 σ2 (inRk 47 rfl) hσ2) (fun r4 hr4 => ?_)
    refine Rk.if_eq (pc := 15) (tgt := 89) dX4_takeParts_15 (nmI (inZ.R hr4)) rfl (fun hc5 => ?_) (fun hc5 => ?_)
    · refine Rk.sp (G_iconst (pc := 89) dX4_takeParts_89) ?_
      exact Rk.end_ (fun h => G_zreturn (pc := 90) rfl (nz inZ1) dX4_takeParts_90 (q_Z h inZ1 hσ2))
    · refine Rk.sp (G_aload_n (pc := 18) 0 rfl rfl dX4_takeParts_18) ?_
      refine Rk.cV (pc := 19) (Cl.v [] [] dX4_takeParts_19 ckX4_125 lb141 rfl rfl rfl (Nat.le_of_ble_eq_true rfl) (Nat.le_of_ble_eq_true rfl)) (k_Re_advance σ2 hσ2) (fun σ6 hσ6 => ?_)
      refine Rk.sp (G_aload_n (pc := 22) 0 rfl rfl dX4_takeParts_22) ?_
      refine Rk.gR (pc := 23) 146 flX4_28 cl4 rfl lb141 dX4_takeParts_23 ?_
      refine Rk.sp (G_aload_n (pc := 26) 0 rfl rfl dX4_takeParts_26) ?_
      refine Rk.gI (pc := 27) flX4_50 cl4 rfl lb141 dX4_takeParts_27 ?_
      refine Rk.al (pc := 30) lb146 dX4_takeParts_30 (fun hi7 => ?_)
      refine Rk.sp (G_iconst (pc := 31) dX4_takeParts_31) ?_
      refine Rk.icmp_eq (pc := 32) (tgt := 41) dX4_takeParts_32 (nmI (hσ6 _ _)) (nmI (inRk 2 rfl)) rfl (fun hc8 => ?_) (fun hc8 => ?_)
      · refine Rk.sp (G_aload_n (pc := 41) 0 rfl rfl dX4_takeParts_41) ?_
        refine Rk.gR (pc := 42) 147 flX4_31 cl4 rfl lb141 dX4_takeParts_42 ?_
        refine Rk.sp (G_aload_n (pc := 45) 0 rfl rfl dX4_takeParts_45) ?_
        refine Rk.gI (pc := 46) flX4_50 cl4 rfl lb141 dX4_takeParts_46 ?_
        refine Rk.al (pc := 49) lb147 dX4_takeParts_49 (fun hi9 => ?_)
        refine Rk.if_ne (pc := 50) (tgt := 59) dX4_takeParts_50 (nmI (hσ6 _ _)) rfl (fun hc10 => ?_) (fun hc10 => ?_)
        · refine Rk.sp (G_aload_n (pc := 53) 0 rfl rfl dX4_takeParts_53) ?_
          refine Rk.sp (G_iconst (pc := 54) dX4_takeParts_54) ?_
          refine Rk.cZ (pc := 55) (Cl.v [vi 2] [] dX4_takeParts_55 ckX4_100 lb141 rfl rfl rfl (Nat.le_of_ble_eq_true rfl) (Nat.le_of_ble_eq_true rfl)) (k_Re_refuse 2 σ6 (inRk 2 rfl) hσ6) (fun r11 σ12 hr11 hσ12 => ?_)
          exact Rk.end_ (fun h => G_zreturn (pc := 58) rfl (nz hr11) dX4_takeParts_58 (q_Z h hr11 hσ12))
        · refine Rk.sp (G_aload_n (pc := 59) 0 rfl rfl dX4_takeParts_59) ?_
          refine Rk.gR (pc := 60) 142 flX4_16 cl4 rfl lb141 dX4_takeParts_60 ?_
          refine Rk.sp (G_iconst (pc := 63) dX4_takeParts_63) ?_
          refine Rk.sp (G_aload_n (pc := 64) 0 rfl rfl dX4_takeParts_64) ?_
          refine Rk.gR (pc := 65) 147 flX4_31 cl4 rfl lb141 dX4_takeParts_65 ?_
          refine Rk.sp (G_aload_n (pc := 68) 0 rfl rfl dX4_takeParts_68) ?_
          refine Rk.gI (pc := 69) flX4_50 cl4 rfl lb141 dX4_takeParts_69 ?_
          refine Rk.al (pc := 72) lb147 dX4_takeParts_72 (fun hi13 => ?_)
          refine Rk.cRI (pc := 73) (Cl.s [vi 2, vi (σ6 147 ((σ6 141 9)).toNat)] [vr 142] dX4_takeParts_73 ckX4_168 rfl rfl (Nat.le_of_ble_eq_true rfl) (Nat.le_of_ble_eq_true rfl)) (k_Ju_step 2 (σ6 147 ((σ6 141 9)).toNat) (inRk 2 rfl) (hσ6 _ _)) (fun r14 hr14 => ?_)
          refine Rk.cV (pc := 76) (Cl.v [vi r14] [] dX4_takeParts_76 ckX4_153 lb142 rfl rfl rfl (Nat.le_of_ble_eq_true rfl) (Nat.le_of_ble_eq_true rfl)) (k_Sh_emit 142 r14 σ6 lb142 hr14 hσ6) (fun σ15 hσ15 => ?_)
          refine Rk.sp (G_aload_n (pc := 79) 0 rfl rfl dX4_takeParts_79) ?_
          refine Rk.cV (pc := 80) (Cl.v [] [] dX4_takeParts_80 ckX4_125 lb141 rfl rfl rfl (Nat.le_of_ble_eq_true rfl) (Nat.le_of_ble_eq_true rfl)) (k_Re_advance σ15 hσ15) (fun σ16 hσ16 => ?_)
          refine Rk.inc (pc := 83) 1 (fun v1_17 => [some (vr 141), some (vi v1_17)]) rfl (Nat.le_of_ble_eq_true rfl) rfl dX4_takeParts_83 (fun _ => rfl) (fun v1_17 hv1_17 => ?_)
          refine Rk.sp (G_goto (pc := 86) (tgt := 2) dX4_takeParts_86 rfl) ?_
          exact Rk.end_ (fun h => h ⟨hv1_17, hσ16⟩)
      · refine Rk.sp (G_aload_n (pc := 35) 0 rfl rfl dX4_takeParts_35) ?_
        refine Rk.sp (G_iconst (pc := 36) dX4_takeParts_36) ?_
        refine Rk.cZ (pc := 37) (Cl.v [vi 1] [] dX4_takeParts_37 ckX4_100 lb141 rfl rfl rfl (Nat.le_of_ble_eq_true rfl) (Nat.le_of_ble_eq_true rfl)) (k_Re_refuse 1 σ6 (inRk 1 rfl) hσ6) (fun r18 σ19 hr18 hσ19 => ?_)
        exact Rk.end_ (fun h => G_zreturn (pc := 40) rfl (nz hr18) dX4_takeParts_40 (q_Z h hr18 hσ19))
theorem k_Re_parseSum {κ : Kx} {μ : Sg} (σ : Sg) (hok : okS σ) : CtZ κ mX4_parseSum 2 [vr 141] false μ σ (Re_parseSum σ) := by
  intro r τ h
  refine con_of (by decide) (Nat.le_of_ble_eq_true rfl) 3 ?_
  refine (?_ : Rk κ mX4_parseSum _ 0 [some (vr 141), none, none, none] [] (ms false μ σ) (Re_parseSum σ) (fun a => a = (r, τ))) _ h rfl
  unfold Re_parseSum
  refine Rk.sp (G_iconst (pc := 0) dX4_parseSum_0) ?_
  refine Rk.isa_n (pc := 1) 1 (L' := [some (vr 141), some (vi (-1)), none, none]) rfl (Nat.le_of_ble_eq_true rfl) rfl dX4_parseSum_1 rfl ?_
  refine Rk.sp (G_iconst (pc := 2) dX4_parseSum_2) ?_
  refine Rk.isa_n (pc := 3) 2 (L' := [some (vr 141), some (vi (-1)), some (vi 0), none]) rfl (Nat.le_of_ble_eq_true rfl) rfl dX4_parseSum_3 rfl ?_
  refine Rk.sp (G_iconst (pc := 4) dX4_parseSum_4) ?_
  refine Rk.isa_n (pc := 5) 3 (L' := [some (vr 141), some (vi (-1)), some (vi 0), some (vi 0)]) rfl (Nat.le_of_ble_eq_true rfl) rfl dX4_parseSum_5 rfl ?_
  refine Rk.loop (pc := 6) (B := (fun p => Re_parseSum_6_b p.1 p.2.1 p.2.2.1 p.2.2.2)) (fun p => inR p.1 ∧ inR p.2.1 ∧ inR p.2.2.1 ∧ okS p.2.2.2) (fun p => [some (vr 141), some (vi p.1), some (vi p.2.1), some (vi p.2.2.1)]) (fun p => (ms false μ p.2.2.2)) (fun p hp => ?_) ((-1), 0, 0, σ) ⟨(inRk (-1) rfl), (inRk 0 rfl), (inRk 0 rfl), hok⟩
  obtain ⟨v1_1, v2_2, v3_3, σ4⟩ := p
  obtain ⟨hv1_1, hv2_2, hv3_3, hσ4⟩ := hp
  try dsimp only
  unfold Re_parseSum_6_b
  refine Rk.sp (G_iload_n (pc := 6) 3 rfl rfl dX4_parseSum_6) ?_
  refine Rk.sp (G_sipush (pc := 7) dX4_parseSum_7 rfl) ?_
  refine Rk.icmp_gt (pc := 10) (tgt := 117) dX4_parseSum_10 (nmI hv3_3) (nmI (inRk 400 rfl)) rfl (fun hc5 => ?_) (fun hc5 => ?_)
  · refine Rk.sp (G_aload_n (pc := 117) 0 rfl rfl dX4_parseSum_117) ?_
    refine Rk.sp (G_iconst (pc := 118) dX4_parseSum_118) ?_
    refine Rk.cZ (pc := 119) (Cl.v [vi 1] [] dX4_parseSum_119 ckX4_100 lb141 rfl rfl rfl (Nat.le_of_ble_eq_true rfl) (Nat.le_of_ble_eq_true rfl)) (k_Re_refuse 1 σ4 (inRk 1 rfl) hσ4) (fun r6 σ7 hr6 hσ7 => ?_)
    exact Rk.end_ (fun h => G_zreturn (pc := 122) rfl (nz hr6) dX4_parseSum_122 (q_Z h hr6 hσ7))
  · refine Rk.sp (G_aload_n (pc := 13) 0 rfl rfl dX4_parseSum_13) ?_
    refine Rk.cZ (pc := 14) (Cl.v [] [] dX4_parseSum_14 ckX4_162 lb141 rfl rfl rfl (Nat.le_of_ble_eq_true rfl) (Nat.le_of_ble_eq_true rfl)) (k_Re_takeOperand σ4 hσ4) (fun r8 σ9 hr8 hσ9 => ?_)
    refine Rk.if_ne (pc := 17) (tgt := 22) dX4_parseSum_17 (nmI (inZ.R hr8)) rfl (fun hc10 => ?_) (fun hc10 => ?_)
    · refine Rk.sp (G_iconst (pc := 20) dX4_parseSum_20) ?_
      exact Rk.end_ (fun h => G_zreturn (pc := 21) rfl (nz inZ0) dX4_parseSum_21 (q_Z h inZ0 hσ9))
    · refine Rk.sp (G_iload_n (pc := 22) 2 rfl rfl dX4_parseSum_22) ?_
      refine Rk.join (P := fun p => okS p) (pcj := 35) (fun p => [some (vr 141), some (vi v1_1), none, some (vi v3_3)]) (fun p => []) (fun p => (ms false μ p)) ?_ (fun p hp => ?_)
      · refine Rk.if_eq (pc := 23) (tgt := 35) dX4_parseSum_23 (nmI hv2_2) rfl (fun hc11 => ?_) (fun hc11 => ?_)
        · refine Rk.fg [true, true, false, true] (L' := [some (vr 141), some (vi v1_1), none, some (vi v3_3)]) rfl ?_
          exact Rk.end_ (fun h => h hσ9)
        · refine Rk.sp (G_aload_n (pc := 26) 0 rfl rfl dX4_parseSum_26) ?_
          refine Rk.gR (pc := 27) 142 flX4_16 cl4 rfl lb141 dX4_parseSum_27 ?_
          refine Rk.sp (G_bipush (pc := 30) dX4_parseSum_30 rfl) ?_
          refine Rk.cV (pc := 32) (Cl.v [vi 6] [] dX4_parseSum_32 ckX4_153 lb142 rfl rfl rfl (Nat.le_of_ble_eq_true rfl) (Nat.le_of_ble_eq_true rfl)) (k_Sh_emit 142 6 σ9 lb142 (inRk 6 rfl) hσ9) (fun σ13 hσ13 => ?_)
          refine Rk.fg [true, true, false, true] (L' := [some (vr 141), some (vi v1_1), none, some (vi v3_3)]) rfl ?_
          exact Rk.end_ (fun h => h hσ13)
      · revert hp; revert p; intro σ12 hσ12
        try dsimp only
        refine Rk.sp (G_aload_n (pc := 35) 0 rfl rfl dX4_parseSum_35) ?_
        refine Rk.cZ (pc := 36) (Cl.v [] [] dX4_parseSum_36 ckX4_165 lb141 rfl rfl rfl (Nat.le_of_ble_eq_true rfl) (Nat.le_of_ble_eq_true rfl)) (k_Re_takeParts σ12 hσ12) (fun r14 σ15 hr14 hσ15 => ?_)
        refine Rk.if_ne (pc := 39) (tgt := 44) dX4_parseSum_39 (nmI (inZ.R hr14)) rfl (fun hc16 => ?_) (fun hc16 => ?_)
        · refine Rk.sp (G_iconst (pc := 42) dX4_parseSum_42) ?_
          exact Rk.end_ (fun h => G_zreturn (pc := 43) rfl (nz inZ0) dX4_parseSum_43 (q_Z h inZ0 hσ15))
        · refine Rk.sp (G_aload_n (pc := 44) 0 rfl rfl dX4_parseSum_44) ?_
          refine Rk.sp (G_bipush (pc := 45) dX4_parseSum_45 rfl) ?_
          refine Rk.cRZ (pc := 47) (Cl.v [vi 42] [] dX4_parseSum_47 ckX4_156 lb141 rfl rfl rfl (Nat.le_of_ble_eq_true rfl) (Nat.le_of_ble_eq_true rfl)) (k_Re_isSign 42 σ15 (inRk 42 rfl) hσ15) (fun r17 hr17 => ?_)
          refine Rk.isa_n (pc := 50) 2 (L' := [some (vr 141), some (vi v1_1), some (vi r17), some (vi v3_3)]) rfl (Nat.le_of_ble_eq_true rfl) rfl dX4_parseSum_50 rfl ?_
          refine Rk.sp (G_iload_n (pc := 51) 2 rfl rfl dX4_parseSum_51) ?_
          refine Rk.join (P := fun p => inR p.1 ∧ okS p.2) (pcj := 96) (fun p => [some (vr 141), some (vi p.1), some (vi r17), some (vi v3_3)]) (fun p => []) (fun p => (ms false μ p.2)) ?_ (fun p hp => ?_)
          · refine Rk.if_ne (pc := 52) (tgt := 96) dX4_parseSum_52 (nmI (inZ.R hr17)) rfl (fun hc18 => ?_) (fun hc18 => ?_)
            · refine Rk.sp (G_iload_n (pc := 55) 1 rfl rfl dX4_parseSum_55) ?_
              refine Rk.sp (G_iconst (pc := 56) dX4_parseSum_56) ?_
              refine Rk.join (P := fun p => okS p) (pcj := 68) (fun p => [some (vr 141), none, some (vi r17), some (vi v3_3)]) (fun p => []) (fun p => (ms false μ p)) ?_ (fun p hp => ?_)
              · refine Rk.icmp_eq (pc := 57) (tgt := 68) dX4_parseSum_57 (nmI hv1_1) (nmI (inRk (-1) rfl)) rfl (fun hc21 => ?_) (fun hc21 => ?_)
                · refine Rk.fg [true, false, true, true] (L' := [some (vr 141), none, some (vi r17), some (vi v3_3)]) rfl ?_
                  exact Rk.end_ (fun h => h hσ15)
                · refine Rk.sp (G_aload_n (pc := 60) 0 rfl rfl dX4_parseSum_60) ?_
                  refine Rk.gR (pc := 61) 142 flX4_16 cl4 rfl lb141 dX4_parseSum_61 ?_
                  refine Rk.sp (G_iload_n (pc := 64) 1 rfl rfl dX4_parseSum_64) ?_
                  refine Rk.cV (pc := 65) (Cl.v [vi v1_1] [] dX4_parseSum_65 ckX4_153 lb142 rfl rfl rfl (Nat.le_of_ble_eq_true rfl) (Nat.le_of_ble_eq_true rfl)) (k_Sh_emit 142 v1_1 σ15 lb142 hv1_1 hσ15) (fun σ23 hσ23 => ?_)
                  refine Rk.fg [true, false, true, true] (L' := [some (vr 141), none, some (vi r17), some (vi v3_3)]) rfl ?_
                  exact Rk.end_ (fun h => h hσ23)
              · revert hp; revert p; intro σ22 hσ22
                try dsimp only
                refine Rk.sp (G_aload_n (pc := 68) 0 rfl rfl dX4_parseSum_68) ?_
                refine Rk.sp (G_bipush (pc := 69) dX4_parseSum_69 rfl) ?_
                refine Rk.cRZ (pc := 71) (Cl.v [vi 43] [] dX4_parseSum_71 ckX4_156 lb141 rfl rfl rfl (Nat.le_of_ble_eq_true rfl) (Nat.le_of_ble_eq_true rfl)) (k_Re_isSign 43 σ22 (inRk 43 rfl) hσ22) (fun r24 hr24 => ?_)
                refine Rk.if_eq (pc := 74) (tgt := 81) dX4_parseSum_74 (nmI (inZ.R hr24)) rfl (fun hc25 => ?_) (fun hc25 => ?_)
                · refine Rk.sp (G_aload_n (pc := 81) 0 rfl rfl dX4_parseSum_81) ?_
                  refine Rk.sp (G_bipush (pc := 82) dX4_parseSum_82 rfl) ?_
                  refine Rk.cRZ (pc := 84) (Cl.v [vi 45] [] dX4_parseSum_84 ckX4_156 lb141 rfl rfl rfl (Nat.le_of_ble_eq_true rfl) (Nat.le_of_ble_eq_true rfl)) (k_Re_isSign 45 σ22 (inRk 45 rfl) hσ22) (fun r26 hr26 => ?_)
                  refine Rk.if_eq (pc := 87) (tgt := 94) dX4_parseSum_87 (nmI (inZ.R hr26)) rfl (fun hc27 => ?_) (fun hc27 => ?_)
                  · refine Rk.sp (G_iconst (pc := 94) dX4_parseSum_94) ?_
                    refine Rk.isa_n (pc := 95) 1 (L' := [some (vr 141), some (vi (-1)), some (vi r17), some (vi v3_3)]) rfl (Nat.le_of_ble_eq_true rfl) rfl dX4_parseSum_95 rfl ?_
                    exact Rk.end_ (fun h => h ⟨(inRk (-1) rfl), hσ22⟩)
                  · refine Rk.sp (G_iconst (pc := 90) dX4_parseSum_90) ?_
                    refine Rk.sp (G_goto (pc := 91) (tgt := 95) dX4_parseSum_91 rfl) ?_
                    refine Rk.isa_n (pc := 95) 1 (L' := [some (vr 141), some (vi 5), some (vi r17), some (vi v3_3)]) rfl (Nat.le_of_ble_eq_true rfl) rfl dX4_parseSum_95 rfl ?_
                    exact Rk.end_ (fun h => h ⟨(inRk 5 rfl), hσ22⟩)
                · refine Rk.sp (G_iconst (pc := 77) dX4_parseSum_77) ?_
                  refine Rk.sp (G_goto (pc := 78) (tgt := 95) dX4_parseSum_78 rfl) ?_
                  refine Rk.isa_n (pc := 95) 1 (L' := [some (vr 141), some (vi 4), some (vi r17), some (vi v3_3)]) rfl (Nat.le_of_ble_eq_true rfl) rfl dX4_parseSum_95 rfl ?_
                  exact Rk.end_ (fun h => h ⟨(inRk 4 rfl), hσ22⟩)
            · exact Rk.end_ (fun h => h ⟨hv1_1, hσ15⟩)
          · obtain ⟨v1_19, σ20⟩ := p
            obtain ⟨hv1_19, hσ20⟩ := hp
            try dsimp only
            refine Rk.sp (G_iload_n (pc := 96) 2 rfl rfl dX4_parseSum_96) ?_
            refine Rk.sel (A := 107) (B := 105) (st' := []) ?_ ?_ ?_
            · refine Rk.if_ne (pc := 97) (tgt := 107) dX4_parseSum_97 (nmI (inZ.R hr17)) rfl (fun hc28 => ?_) (fun hc28 => ?_)
              · refine Rk.sp (G_iload_n (pc := 100) 1 rfl rfl dX4_parseSum_100) ?_
                refine Rk.sp (G_iconst (pc := 101) dX4_parseSum_101) ?_
                refine Rk.icmp_ne (pc := 102) (tgt := 107) dX4_parseSum_102 (nmI hv1_19) (nmI (inRk (-1) rfl)) rfl (fun hc29 => ?_) (fun hc29 => ?_)
                · exact Rk.end_ (fun h => h inZ0)
                · exact Rk.end_ (fun h => h inZ1)
              · exact Rk.end_ (fun h => h inZ1)
            · refine Rk.sp (G_iconst (pc := 105) dX4_parseSum_105) ?_
              exact Rk.end_ (fun h => G_zreturn (pc := 106) rfl (nz inZ1) dX4_parseSum_106 (q_Z h inZ1 hσ20))
            · refine Rk.sp (G_aload_n (pc := 107) 0 rfl rfl dX4_parseSum_107) ?_
              refine Rk.cV (pc := 108) (Cl.v [] [] dX4_parseSum_108 ckX4_125 lb141 rfl rfl rfl (Nat.le_of_ble_eq_true rfl) (Nat.le_of_ble_eq_true rfl)) (k_Re_advance σ20 hσ20) (fun σ30 hσ30 => ?_)
              refine Rk.inc (pc := 111) 3 (fun v3_31 => [some (vr 141), some (vi v1_19), some (vi r17), some (vi v3_31)]) rfl (Nat.le_of_ble_eq_true rfl) rfl dX4_parseSum_111 (fun _ => rfl) (fun v3_31 hv3_31 => ?_)
              refine Rk.sp (G_goto (pc := 114) (tgt := 6) dX4_parseSum_114 rfl) ?_
              exact Rk.end_ (fun h => h ⟨hv1_19, (inZ.R hr17), hv3_31, hσ30⟩)
theorem k_Re_comparisonHere {κ : Kx} {μ : Sg} (σ : Sg) (hok : okS σ) : CtRI κ mX4_comparisonHere 1 [vr 141] false μ σ (Re_comparisonHere σ) := by
  intro r h
  refine con_of (by decide) (Nat.le_of_ble_eq_true rfl) 0 ?_
  refine (?_ : Rk κ mX4_comparisonHere _ 0 [some (vr 141)] [] (ms false μ σ) (Re_comparisonHere σ) (fun a => a = r)) _ h rfl
  unfold Re_comparisonHere
  refine Rk.sp (G_aload_n (pc := 0) 0 rfl rfl dX4_comparisonHere_0) ?_
  refine Rk.sp (G_bipush (pc := 1) dX4_comparisonHere_1 rfl) ?_
  refine Rk.cRZ (pc := 3) (Cl.v [vi 60] [] dX4_comparisonHere_3 ckX4_156 lb141 rfl rfl rfl (Nat.le_of_ble_eq_true rfl) (Nat.le_of_ble_eq_true rfl)) (k_Re_isSign 60 σ (inRk 60 rfl) hok) (fun r1 hr1 => ?_)
  refine Rk.if_eq (pc := 6) (tgt := 12) dX4_comparisonHere_6 (nmI (inZ.R hr1)) rfl (fun hc2 => ?_) (fun hc2 => ?_)
  · refine Rk.sp (G_aload_n (pc := 12) 0 rfl rfl dX4_comparisonHere_12) ?_
    refine Rk.sp (G_bipush (pc := 13) dX4_comparisonHere_13 rfl) ?_
    refine Rk.cRZ (pc := 15) (Cl.v [vi 61] [] dX4_comparisonHere_15 ckX4_156 lb141 rfl rfl rfl (Nat.le_of_ble_eq_true rfl) (Nat.le_of_ble_eq_true rfl)) (k_Re_isSign 61 σ (inRk 61 rfl) hok) (fun r3 hr3 => ?_)
    refine Rk.if_eq (pc := 18) (tgt := 24) dX4_comparisonHere_18 (nmI (inZ.R hr3)) rfl (fun hc4 => ?_) (fun hc4 => ?_)
    · refine Rk.sp (G_aload_n (pc := 24) 0 rfl rfl dX4_comparisonHere_24) ?_
      refine Rk.sp (G_bipush (pc := 25) dX4_comparisonHere_25 rfl) ?_
      refine Rk.cRZ (pc := 27) (Cl.v [vi 62] [] dX4_comparisonHere_27 ckX4_156 lb141 rfl rfl rfl (Nat.le_of_ble_eq_true rfl) (Nat.le_of_ble_eq_true rfl)) (k_Re_isSign 62 σ (inRk 62 rfl) hok) (fun r5 hr5 => ?_)
      refine Rk.if_eq (pc := 30) (tgt := 38) dX4_comparisonHere_30 (nmI (inZ.R hr5)) rfl (fun hc6 => ?_) (fun hc6 => ?_)
      · refine Rk.sp (G_iconst (pc := 38) dX4_comparisonHere_38) ?_
        exact Rk.end_ (fun h => G_ireturn (pc := 39) rfl dX4_comparisonHere_39 (q_RI h (inRk (-1) rfl)))
      · refine Rk.sp (G_bipush (pc := 33) dX4_comparisonHere_33 rfl) ?_
        refine Rk.sp (G_goto (pc := 35) (tgt := 39) dX4_comparisonHere_35 rfl) ?_
        exact Rk.end_ (fun h => G_ireturn (pc := 39) rfl dX4_comparisonHere_39 (q_RI h (inRk 9 rfl)))
    · refine Rk.sp (G_bipush (pc := 21) dX4_comparisonHere_21 rfl) ?_
      exact Rk.end_ (fun h => G_ireturn (pc := 23) rfl dX4_comparisonHere_23 (q_RI h (inRk 8 rfl)))
  · refine Rk.sp (G_bipush (pc := 9) dX4_comparisonHere_9 rfl) ?_
    exact Rk.end_ (fun h => G_ireturn (pc := 11) rfl dX4_comparisonHere_11 (q_RI h (inRk 7 rfl)))
theorem k_Re_parseCondition {κ : Kx} {μ : Sg} (rc : Int → Sg → Option (Int × Sg)) (e : Nat) (hrc : ∀ a σ, inR a → okS σ → CtZ κ mX4_parseSingle e [vr 141, vi a] false μ σ (rc a σ)) (he : 1 ≤ e) (a1 : Int) (σ : Sg) (ha1 : inR a1) (hok : okS σ) : CtZ κ mX4_parseCondition (e + 1) [vr 141, vi a1] false μ σ (Re_parseCondition rc a1 σ) := by
  intro r τ h
  refine con_of (by decide) (Nat.le_of_ble_eq_true rfl) 3 ?_
  refine (?_ : Rk κ mX4_parseCondition _ 0 [some (vr 141), some (vi a1), none, none, none] [] (ms false μ σ) (Re_parseCondition rc a1 σ) (fun a => a = (r, τ))) _ h rfl
  unfold Re_parseCondition
  refine Rk.sp (G_iconst (pc := 0) dX4_parseCondition_0) ?_
  refine Rk.isa_n (pc := 1) 2 (L' := [some (vr 141), some (vi a1), some (vi 0), none, none]) rfl (Nat.le_of_ble_eq_true rfl) rfl dX4_parseCondition_1 rfl ?_
  refine Rk.sp (G_iconst (pc := 2) dX4_parseCondition_2) ?_
  refine Rk.isa_n (pc := 3) 3 (L' := [some (vr 141), some (vi a1), some (vi 0), some (vi 0), none]) rfl (Nat.le_of_ble_eq_true rfl) rfl dX4_parseCondition_3 rfl ?_
  refine Rk.sp (G_iconst (pc := 4) dX4_parseCondition_4) ?_
  refine Rk.isa_w (pc := 5) 4 (L' := [some (vr 141), some (vi a1), some (vi 0), some (vi 0), some (vi 0)]) (Nat.le_of_ble_eq_true rfl) rfl dX4_parseCondition_5 rfl ?_
  refine Rk.loop (pc := 7) (B := (fun p => Re_parseCondition_7_b rc a1 p.1 p.2.1 p.2.2.1 p.2.2.2)) (fun p => inR p.1 ∧ inR p.2.1 ∧ inR p.2.2.1 ∧ okS p.2.2.2) (fun p => [some (vr 141), some (vi a1), some (vi p.1), some (vi p.2.1), some (vi p.2.2.1)]) (fun p => (ms false μ p.2.2.2)) (fun p hp => ?_) (0, 0, 0, σ) ⟨(inRk 0 rfl), (inRk 0 rfl), (inRk 0 rfl), hok⟩
  obtain ⟨v2_1, v3_2, v4_3, σ4⟩ := p
  obtain ⟨hv2_1, hv3_2, hv4_3, hσ4⟩ := hp
  try dsimp only
  unfold Re_parseCondition_7_b
  refine Rk.sp (G_iload_w (pc := 7) 4 rfl dX4_parseCondition_7) ?_
  refine Rk.sp (G_sipush (pc := 9) dX4_parseCondition_9 rfl) ?_
  refine Rk.icmp_gt (pc := 12) (tgt := 89) dX4_parseCondition_12 (nmI hv4_3) (nmI (inRk 400 rfl)) rfl (fun hc5 => ?_) (fun hc5 => ?_)
  · refine Rk.sp (G_aload_n (pc := 89) 0 rfl rfl dX4_parseCondition_89) ?_
    refine Rk.sp (G_iconst (pc := 90) dX4_parseCondition_90) ?_
    refine Rk.cZ (pc := 91) (Cl.v [vi 1] [] dX4_parseCondition_91 ckX4_100 lb141 rfl rfl rfl (Nat.le_of_ble_eq_true rfl) (by omega)) (k_Re_refuse 1 σ4 (inRk 1 rfl) hσ4) (fun r6 σ7 hr6 hσ7 => ?_)
    exact Rk.end_ (fun h => G_zreturn (pc := 94) rfl (nz hr6) dX4_parseCondition_94 (q_Z h hr6 hσ7))
  · refine Rk.sp (G_aload_n (pc := 15) 0 rfl rfl dX4_parseCondition_15) ?_
    refine Rk.sp (G_iload_n (pc := 16) 1 rfl rfl dX4_parseCondition_16) ?_
    refine Rk.cZ (pc := 17) (Cl.v [vi a1] [] dX4_parseCondition_17 ckX4_150 lb141 rfl rfl rfl (Nat.le_of_ble_eq_true rfl) (by omega)) (hrc a1 σ4 ha1 hσ4) (fun r8 σ9 hr8 hσ9 => ?_)
    refine Rk.if_ne (pc := 20) (tgt := 25) dX4_parseCondition_20 (nmI (inZ.R hr8)) rfl (fun hc10 => ?_) (fun hc10 => ?_)
    · refine Rk.sp (G_iconst (pc := 23) dX4_parseCondition_23) ?_
      exact Rk.end_ (fun h => G_zreturn (pc := 24) rfl (nz inZ0) dX4_parseCondition_24 (q_Z h inZ0 hσ9))
    · refine Rk.sp (G_iload_n (pc := 25) 2 rfl rfl dX4_parseCondition_25) ?_
      refine Rk.join (P := fun p => okS p) (pcj := 38) (fun p => [some (vr 141), some (vi a1), none, some (vi v3_2), some (vi v4_3)]) (fun p => []) (fun p => (ms false μ p)) ?_ (fun p hp => ?_)
      · refine Rk.if_eq (pc := 26) (tgt := 38) dX4_parseCondition_26 (nmI hv2_1) rfl (fun hc11 => ?_) (fun hc11 => ?_)
        · refine Rk.fg [true, true, false, true, true] (L' := [some (vr 141), some (vi a1), none, some (vi v3_2), some (vi v4_3)]) rfl ?_
          exact Rk.end_ (fun h => h hσ9)
        · refine Rk.sp (G_aload_n (pc := 29) 0 rfl rfl dX4_parseCondition_29) ?_
          refine Rk.gR (pc := 30) 142 flX4_16 cl4 rfl lb141 dX4_parseCondition_30 ?_
          refine Rk.sp (G_bipush (pc := 33) dX4_parseCondition_33 rfl) ?_
          refine Rk.cV (pc := 35) (Cl.v [vi 10] [] dX4_parseCondition_35 ckX4_153 lb142 rfl rfl rfl (Nat.le_of_ble_eq_true rfl) (by omega)) (k_Sh_emit 142 10 σ9 lb142 (inRk 10 rfl) hσ9) (fun σ13 hσ13 => ?_)
          refine Rk.fg [true, true, false, true, true] (L' := [some (vr 141), some (vi a1), none, some (vi v3_2), some (vi v4_3)]) rfl ?_
          exact Rk.end_ (fun h => h hσ13)
      · revert hp; revert p; intro σ12 hσ12
        try dsimp only
        refine Rk.sp (G_aload_n (pc := 38) 0 rfl rfl dX4_parseCondition_38) ?_
        refine Rk.sp (G_bipush (pc := 39) dX4_parseCondition_39 rfl) ?_
        refine Rk.cRZ (pc := 41) (Cl.v [vi 7] [] dX4_parseCondition_41 ckX4_134 lb141 rfl rfl rfl (Nat.le_of_ble_eq_true rfl) (by omega)) (k_Re_isWord 7 σ12 (inRk 7 rfl) hσ12) (fun r14 hr14 => ?_)
        refine Rk.isa_n (pc := 44) 2 (L' := [some (vr 141), some (vi a1), some (vi r14), some (vi v3_2), some (vi v4_3)]) rfl (Nat.le_of_ble_eq_true rfl) rfl dX4_parseCondition_44 rfl ?_
        refine Rk.sp (G_iload_n (pc := 45) 2 rfl rfl dX4_parseCondition_45) ?_
        refine Rk.join (P := fun p => inR p.1 ∧ okS p.2) (pcj := 69) (fun p => [some (vr 141), some (vi a1), some (vi r14), some (vi p.1), some (vi v4_3)]) (fun p => []) (fun p => (ms false μ p.2)) ?_ (fun p hp => ?_)
        · refine Rk.if_ne (pc := 46) (tgt := 69) dX4_parseCondition_46 (nmI (inZ.R hr14)) rfl (fun hc15 => ?_) (fun hc15 => ?_)
          · refine Rk.sp (G_iload_n (pc := 49) 3 rfl rfl dX4_parseCondition_49) ?_
            refine Rk.join (P := fun p => okS p) (pcj := 62) (fun p => [some (vr 141), some (vi a1), some (vi r14), none, some (vi v4_3)]) (fun p => []) (fun p => (ms false μ p)) ?_ (fun p hp => ?_)
            · refine Rk.if_eq (pc := 50) (tgt := 62) dX4_parseCondition_50 (nmI hv3_2) rfl (fun hc18 => ?_) (fun hc18 => ?_)
              · refine Rk.fg [true, true, true, false, true] (L' := [some (vr 141), some (vi a1), some (vi r14), none, some (vi v4_3)]) rfl ?_
                exact Rk.end_ (fun h => h hσ12)
              · refine Rk.sp (G_aload_n (pc := 53) 0 rfl rfl dX4_parseCondition_53) ?_
                refine Rk.gR (pc := 54) 142 flX4_16 cl4 rfl lb141 dX4_parseCondition_54 ?_
                refine Rk.sp (G_bipush (pc := 57) dX4_parseCondition_57 rfl) ?_
                refine Rk.cV (pc := 59) (Cl.v [vi 11] [] dX4_parseCondition_59 ckX4_153 lb142 rfl rfl rfl (Nat.le_of_ble_eq_true rfl) (by omega)) (k_Sh_emit 142 11 σ12 lb142 (inRk 11 rfl) hσ12) (fun σ20 hσ20 => ?_)
                refine Rk.fg [true, true, true, false, true] (L' := [some (vr 141), some (vi a1), some (vi r14), none, some (vi v4_3)]) rfl ?_
                exact Rk.end_ (fun h => h hσ20)
            · revert hp; revert p; intro σ19 hσ19
              try dsimp only
              refine Rk.sp (G_aload_n (pc := 62) 0 rfl rfl dX4_parseCondition_62) ?_
              refine Rk.sp (G_bipush (pc := 63) dX4_parseCondition_63 rfl) ?_
              refine Rk.cRZ (pc := 65) (Cl.v [vi 6] [] dX4_parseCondition_65 ckX4_134 lb141 rfl rfl rfl (Nat.le_of_ble_eq_true rfl) (by omega)) (k_Re_isWord 6 σ19 (inRk 6 rfl) hσ19) (fun r21 hr21 => ?_)
              refine Rk.isa_n (pc := 68) 3 (L' := [some (vr 141), some (vi a1), some (vi r14), some (vi r21), some (vi v4_3)]) rfl (Nat.le_of_ble_eq_true rfl) rfl dX4_parseCondition_68 rfl ?_
              exact Rk.end_ (fun h => h ⟨(inZ.R hr21), hσ19⟩)
          · exact Rk.end_ (fun h => h ⟨hv3_2, hσ12⟩)
        · obtain ⟨v3_16, σ17⟩ := p
          obtain ⟨hv3_16, hσ17⟩ := hp
          try dsimp only
          refine Rk.sp (G_iload_n (pc := 69) 2 rfl rfl dX4_parseCondition_69) ?_
          refine Rk.sel (A := 79) (B := 77) (st' := []) ?_ ?_ ?_
          · refine Rk.if_ne (pc := 70) (tgt := 79) dX4_parseCondition_70 (nmI (inZ.R hr14)) rfl (fun hc22 => ?_) (fun hc22 => ?_)
            · refine Rk.sp (G_iload_n (pc := 73) 3 rfl rfl dX4_parseCondition_73) ?_
              refine Rk.if_ne (pc := 74) (tgt := 79) dX4_parseCondition_74 (nmI hv3_16) rfl (fun hc23 => ?_) (fun hc23 => ?_)
              · exact Rk.end_ (fun h => h inZ0)
              · exact Rk.end_ (fun h => h inZ1)
            · exact Rk.end_ (fun h => h inZ1)
          · refine Rk.sp (G_iconst (pc := 77) dX4_parseCondition_77) ?_
            exact Rk.end_ (fun h => G_zreturn (pc := 78) rfl (nz inZ1) dX4_parseCondition_78 (q_Z h inZ1 hσ17))
          · refine Rk.sp (G_aload_n (pc := 79) 0 rfl rfl dX4_parseCondition_79) ?_
            refine Rk.cV (pc := 80) (Cl.v [] [] dX4_parseCondition_80 ckX4_125 lb141 rfl rfl rfl (Nat.le_of_ble_eq_true rfl) (by omega)) (k_Re_advance σ17 hσ17) (fun σ24 hσ24 => ?_)
            refine Rk.inc (pc := 83) 4 (fun v4_25 => [some (vr 141), some (vi a1), some (vi r14), some (vi v3_16), some (vi v4_25)]) rfl (Nat.le_of_ble_eq_true rfl) rfl dX4_parseCondition_83 (fun _ => rfl) (fun v4_25 hv4_25 => ?_)
            refine Rk.sp (G_goto (pc := 86) (tgt := 7) dX4_parseCondition_86 rfl) ?_
            exact Rk.end_ (fun h => h ⟨(inZ.R hr14), hv3_16, hv4_25, hσ24⟩)
