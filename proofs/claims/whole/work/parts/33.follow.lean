theorem k_Ji_compare {κ : Kx} {b : Bool} {μ σ : Sg} (a1 : Int) (a2 : Int) (ha1 : inR a1) (ha2 : inR a2) : CtRI κ mJ6_compare_7cf53 0 [vi a1, vi a2] b μ σ (Ji_compare a1 a2) := by
  intro r h
  refine con_of (by decide) (Nat.le_of_ble_eq_true rfl) 0 ?_
  refine (?_ : Rk κ mJ6_compare_7cf53 _ 0 [some (vi a1), some (vi a2)] [] (ms b μ σ) (Ji_compare a1 a2) (fun a => a = r)) _ h rfl
  unfold Ji_compare
  refine Rk.sp (G_iload_n (pc := 0) 0 rfl rfl dJ6_compare_7cf53_0) ?_
  refine Rk.sp (G_iload_n (pc := 1) 1 rfl rfl dJ6_compare_7cf53_1) ?_
  refine Rk.icmp_ge (pc := 2) (tgt := 9) dJ6_compare_7cf53_2 (nmI ha1) (nmI ha2) rfl (fun hc1 => ?_) (fun hc1 => ?_)
  · refine Rk.sp (G_iconst (pc := 5) dJ6_compare_7cf53_5) ?_
    refine Rk.sp (G_goto (pc := 6) (tgt := 19) dJ6_compare_7cf53_6 rfl) ?_
    exact Rk.end_ (fun h => G_ireturn (pc := 19) rfl dJ6_compare_7cf53_19 (q_RI h (inRk (-1) rfl)))
  · refine Rk.sp (G_iload_n (pc := 9) 0 rfl rfl dJ6_compare_7cf53_9) ?_
    refine Rk.sp (G_iload_n (pc := 10) 1 rfl rfl dJ6_compare_7cf53_10) ?_
    refine Rk.icmp_ne (pc := 11) (tgt := 18) dJ6_compare_7cf53_11 (nmI ha1) (nmI ha2) rfl (fun hc2 => ?_) (fun hc2 => ?_)
    · refine Rk.sp (G_iconst (pc := 14) dJ6_compare_7cf53_14) ?_
      refine Rk.sp (G_goto (pc := 15) (tgt := 19) dJ6_compare_7cf53_15 rfl) ?_
      exact Rk.end_ (fun h => G_ireturn (pc := 19) rfl dJ6_compare_7cf53_19 (q_RI h (inRk 0 rfl)))
    · refine Rk.sp (G_iconst (pc := 18) dJ6_compare_7cf53_18) ?_
      exact Rk.end_ (fun h => G_ireturn (pc := 19) rfl dJ6_compare_7cf53_19 (q_RI h (inRk 1 rfl)))
theorem k_Gl_risesLessFalls {κ : Kx} {μ : Sg} (a1 : Nat) (a2 : Int) (σ : Sg) (ha1 : LB false a1 (1, 6)) (ha2 : inR a2) (hok : okS σ) : CtRI κ mX1_risesLessFalls 1 [vr 166, vr a1, vi a2] false μ σ (Gl_risesLessFalls a1 a2 σ) := by
  intro r h
  refine con_of (by decide) (Nat.le_of_ble_eq_true rfl) 3 ?_
  refine (?_ : Rk κ mX1_risesLessFalls _ 0 [some (vr 166), some (vr a1), some (vi a2), none, none, none] [] (ms false μ σ) (Gl_risesLessFalls a1 a2 σ) (fun a => a = r)) _ h rfl
  unfold Gl_risesLessFalls
  refine Rk.sp (G_iconst (pc := 0) dX1_risesLessFalls_0) ?_
  refine Rk.isa_n (pc := 1) 3 (L' := [some (vr 166), some (vr a1), some (vi a2), some (vi 0), none, none]) rfl (Nat.le_of_ble_eq_true rfl) rfl dX1_risesLessFalls_1 rfl ?_
  refine Rk.sp (G_iconst (pc := 2) dX1_risesLessFalls_2) ?_
  refine Rk.isa_w (pc := 3) 4 (L' := [some (vr 166), some (vr a1), some (vi a2), some (vi 0), some (vi (-1)), none]) (Nat.le_of_ble_eq_true rfl) rfl dX1_risesLessFalls_3 rfl ?_
  refine Rk.sp (G_iconst (pc := 5) dX1_risesLessFalls_5) ?_
  refine Rk.isa_w (pc := 6) 5 (L' := [some (vr 166), some (vr a1), some (vi a2), some (vi 0), some (vi (-1)), some (vi 0)]) (Nat.le_of_ble_eq_true rfl) rfl dX1_risesLessFalls_6 rfl ?_
  refine Rk.fg [false, true, true, true, true, true] (L' := [none, some (vr a1), some (vi a2), some (vi 0), some (vi (-1)), some (vi 0)]) rfl ?_
  refine Rk.loop (pc := 8) (B := (fun p => Gl_risesLessFalls_8_b σ a1 a2 p.1 p.2.1 p.2.2)) (fun p => inR p.1 ∧ inR p.2.1 ∧ inR p.2.2) (fun p => [none, some (vr a1), some (vi a2), some (vi p.1), some (vi p.2.1), some (vi p.2.2)]) (fun p => (ms false μ σ)) (fun p hp => ?_) (0, (-1), 0) ⟨(inRk 0 rfl), (inRk (-1) rfl), (inRk 0 rfl)⟩
  obtain ⟨v3_1, v4_2, v5_3⟩ := p
  obtain ⟨hv3_1, hv4_2, hv5_3⟩ := hp
  try dsimp only
  unfold Gl_risesLessFalls_8_b
  refine Rk.sp (G_iload_w (pc := 8) 5 rfl dX1_risesLessFalls_8) ?_
  refine Rk.sp (G_aload_n (pc := 10) 1 rfl rfl dX1_risesLessFalls_10) ?_
  refine Rk.gI (pc := 11) flX1_26 cl6 rfl ha1 dX1_risesLessFalls_11 ?_
  refine Rk.icmp_ge (pc := 14) (tgt := 78) dX1_risesLessFalls_14 (nmI hv5_3) (nmI (hok _ _)) rfl (fun hc4 => ?_) (fun hc4 => ?_)
  · refine Rk.sp (G_aload_n (pc := 17) 1 rfl rfl dX1_risesLessFalls_17) ?_
    refine Rk.gR (pc := 18) (a1 + 4) flX1_40 cl6 rfl ha1 dX1_risesLessFalls_18 ?_
    refine Rk.sp (G_iload_w (pc := 21) 5 rfl dX1_risesLessFalls_21) ?_
    refine Rk.al (pc := 23) (LBt ha1 4 (by decide)) dX1_risesLessFalls_23 (fun hi5 => ?_)
    refine Rk.sp (G_iload_n (pc := 24) 2 rfl rfl dX1_risesLessFalls_24) ?_
    refine Rk.icmp_ne (pc := 25) (tgt := 72) dX1_risesLessFalls_25 (nmI (hok _ _)) (nmI ha2) rfl (fun hc6 => ?_) (fun hc6 => ?_)
    · refine Rk.sp (G_aload_n (pc := 28) 1 rfl rfl dX1_risesLessFalls_28) ?_
      refine Rk.gR (pc := 29) (a1 + 11) flX1_57 cl6 rfl ha1 dX1_risesLessFalls_29 ?_
      refine Rk.sp (G_iload_w (pc := 32) 5 rfl dX1_risesLessFalls_32) ?_
      refine Rk.al (pc := 34) (LBt ha1 11 (by decide)) dX1_risesLessFalls_34 (fun hi7 => ?_)
      refine Rk.if_ne (pc := 35) (tgt := 72) dX1_risesLessFalls_35 (nmI (hok _ _)) rfl (fun hc8 => ?_) (fun hc8 => ?_)
      · refine Rk.sp (G_iload_n (pc := 38) 3 rfl rfl dX1_risesLessFalls_38) ?_
        refine Rk.sp (G_iload_w (pc := 39) 4 rfl dX1_risesLessFalls_39) ?_
        refine Rk.sp (G_iconst (pc := 41) dX1_risesLessFalls_41) ?_
        refine Rk.icmp_ne (pc := 42) (tgt := 49) dX1_risesLessFalls_42 (nmI hv4_2) (nmI (inRk (-1) rfl)) rfl (fun hc9 => ?_) (fun hc9 => ?_)
        · refine Rk.sp (G_iconst (pc := 45) dX1_risesLessFalls_45) ?_
          refine Rk.sp (G_goto (pc := 46) (tgt := 66) dX1_risesLessFalls_46 rfl) ?_
          refine Rk.sp (G_iadd (pc := 66) dX1_risesLessFalls_66) ?_
          refine Rk.ist_n (pc := 67) 3 (fun v3_10 => [none, some (vr a1), some (vi a2), some (vi v3_10), some (vi v4_2), some (vi v5_3)]) rfl (Nat.le_of_ble_eq_true rfl) rfl dX1_risesLessFalls_67 (nmW _) (fun _ => rfl) (fun v3_10 hv3_10 => ?_)
          refine Rk.sp (G_iload_w (pc := 68) 5 rfl dX1_risesLessFalls_68) ?_
          refine Rk.isa_w (pc := 70) 4 (L' := [none, some (vr a1), some (vi a2), some (vi v3_10), some (vi v5_3), some (vi v5_3)]) (Nat.le_of_ble_eq_true rfl) rfl dX1_risesLessFalls_70 rfl ?_
          refine Rk.inc (pc := 72) 5 (fun v5_11 => [none, some (vr a1), some (vi a2), some (vi v3_10), some (vi v5_3), some (vi v5_11)]) rfl (Nat.le_of_ble_eq_true rfl) rfl dX1_risesLessFalls_72 (fun _ => rfl) (fun v5_11 hv5_11 => ?_)
          refine Rk.sp (G_goto (pc := 75) (tgt := 8) dX1_risesLessFalls_75 rfl) ?_
          exact Rk.end_ (fun h => h ⟨hv3_10, hv5_3, hv5_11⟩)
        · refine Rk.sp (G_aload_n (pc := 49) 1 rfl rfl dX1_risesLessFalls_49) ?_
          refine Rk.gR (pc := 50) (a1 + 8) flX1_33 cl6 rfl ha1 dX1_risesLessFalls_50 ?_
          refine Rk.sp (G_iload_w (pc := 53) 5 rfl dX1_risesLessFalls_53) ?_
          refine Rk.al (pc := 55) (LBt ha1 8 (by decide)) dX1_risesLessFalls_55 (fun hi12 => ?_)
          refine Rk.sp (G_aload_n (pc := 56) 1 rfl rfl dX1_risesLessFalls_56) ?_
          refine Rk.gR (pc := 57) (a1 + 8) flX1_33 cl6 rfl ha1 dX1_risesLessFalls_57 ?_
          refine Rk.sp (G_iload_w (pc := 60) 4 rfl dX1_risesLessFalls_60) ?_
          refine Rk.al (pc := 62) (LBt ha1 8 (by decide)) dX1_risesLessFalls_62 (fun hi13 => ?_)
          refine Rk.cRI (pc := 63) (Cl.s [vi (σ (a1 + 8) (v5_3).toNat), vi (σ (a1 + 8) (v4_2).toNat)] [vi v3_1] dX1_risesLessFalls_63 ckX1_60 rfl rfl (Nat.le_of_ble_eq_true rfl) (Nat.le_of_ble_eq_true rfl)) (k_Ji_compare (σ (a1 + 8) (v5_3).toNat) (σ (a1 + 8) (v4_2).toNat) (hok _ _) (hok _ _)) (fun r14 hr14 => ?_)
          refine Rk.sp (G_iadd (pc := 66) dX1_risesLessFalls_66) ?_
          refine Rk.ist_n (pc := 67) 3 (fun v3_15 => [none, some (vr a1), some (vi a2), some (vi v3_15), some (vi v4_2), some (vi v5_3)]) rfl (Nat.le_of_ble_eq_true rfl) rfl dX1_risesLessFalls_67 (nmW _) (fun _ => rfl) (fun v3_15 hv3_15 => ?_)
          refine Rk.sp (G_iload_w (pc := 68) 5 rfl dX1_risesLessFalls_68) ?_
          refine Rk.isa_w (pc := 70) 4 (L' := [none, some (vr a1), some (vi a2), some (vi v3_15), some (vi v5_3), some (vi v5_3)]) (Nat.le_of_ble_eq_true rfl) rfl dX1_risesLessFalls_70 rfl ?_
          refine Rk.inc (pc := 72) 5 (fun v5_16 => [none, some (vr a1), some (vi a2), some (vi v3_15), some (vi v5_3), some (vi v5_16)]) rfl (Nat.le_of_ble_eq_true rfl) rfl dX1_risesLessFalls_72 (fun _ => rfl) (fun v5_16 hv5_16 => ?_)
          refine Rk.sp (G_goto (pc := 75) (tgt := 8) dX1_risesLessFalls_75 rfl) ?_
          exact Rk.end_ (fun h => h ⟨hv3_15, hv5_3, hv5_16⟩)
      · refine Rk.inc (pc := 72) 5 (fun v5_17 => [none, some (vr a1), some (vi a2), some (vi v3_1), some (vi v4_2), some (vi v5_17)]) rfl (Nat.le_of_ble_eq_true rfl) rfl dX1_risesLessFalls_72 (fun _ => rfl) (fun v5_17 hv5_17 => ?_)
        refine Rk.sp (G_goto (pc := 75) (tgt := 8) dX1_risesLessFalls_75 rfl) ?_
        exact Rk.end_ (fun h => h ⟨hv3_1, hv4_2, hv5_17⟩)
    · refine Rk.inc (pc := 72) 5 (fun v5_18 => [none, some (vr a1), some (vi a2), some (vi v3_1), some (vi v4_2), some (vi v5_18)]) rfl (Nat.le_of_ble_eq_true rfl) rfl dX1_risesLessFalls_72 (fun _ => rfl) (fun v5_18 hv5_18 => ?_)
      refine Rk.sp (G_goto (pc := 75) (tgt := 8) dX1_risesLessFalls_75 rfl) ?_
      exact Rk.end_ (fun h => h ⟨hv3_1, hv4_2, hv5_18⟩)
  · refine Rk.sp (G_iload_n (pc := 78) 3 rfl rfl dX1_risesLessFalls_78) ?_
    exact Rk.end_ (fun h => G_ireturn (pc := 79) rfl dX1_risesLessFalls_79 (q_RI h hv3_1))
theorem k_Td_drift {κ : Kx} {μ : Sg} (a1 : Int) (a2 : Int) (σ : Sg) (ha1 : inR a1) (ha2 : inR a2) (hok : okS σ) : CtI κ mX8_drift 2 [vr 0, vi a1, vi a2] false μ σ (Td_drift a1 a2 σ) := by
  intro r τ h
  refine con_of (by decide) (Nat.le_of_ble_eq_true rfl) 0 ?_
  refine (?_ : Rk κ mX8_drift _ 0 [some (vr 0), some (vi a1), some (vi a2)] [] (ms false μ σ) (Td_drift a1 a2 σ) (fun a => a = (r, τ))) _ h rfl
  unfold Td_drift
  refine Rk.sp (G_iload_n (pc := 0) 1 rfl rfl dX8_drift_0) ?_
  refine Rk.cRZ (pc := 1) (Cl.s [vi a1] [] dX8_drift_1 ckX8_85 rfl rfl (Nat.le_of_ble_eq_true rfl) (Nat.le_of_ble_eq_true rfl)) (k_Td_isOne a1 ha1) (fun r1 hr1 => ?_)
  refine Rk.if_eq (pc := 4) (tgt := 16) dX8_drift_4 (nmI (inZ.R hr1)) rfl (fun hc2 => ?_) (fun hc2 => ?_)
  · refine Rk.sp (G_bipush (pc := 16) dX8_drift_16 rfl) ?_
    exact Rk.end_ (fun h => G_ireturn (pc := 18) rfl dX8_drift_18 (q_I h (inRk (-100) rfl) hok))
  · refine Rk.sp (G_iload_n (pc := 7) 2 rfl rfl dX8_drift_7) ?_
    refine Rk.sp (G_iconst (pc := 8) dX8_drift_8) ?_
    refine Rk.sp (G_iconst (pc := 9) dX8_drift_9) ?_
    refine Rk.cRZ (pc := 10) (Cl.s [vi a2, vi 0, vi 1] [] dX8_drift_10 ckX8_81 rfl rfl (Nat.le_of_ble_eq_true rfl) (Nat.le_of_ble_eq_true rfl)) (k_Td_within a2 0 1 ha2 (inRk 0 rfl) (inRk 1 rfl)) (fun r3 hr3 => ?_)
    refine Rk.if_ne (pc := 13) (tgt := 19) dX8_drift_13 (nmI (inZ.R hr3)) rfl (fun hc4 => ?_) (fun hc4 => ?_)
    · refine Rk.sp (G_bipush (pc := 16) dX8_drift_16 rfl) ?_
      exact Rk.end_ (fun h => G_ireturn (pc := 18) rfl dX8_drift_18 (q_I h (inRk (-100) rfl) hok))
    · refine Rk.sp (G_iload_n (pc := 19) 2 rfl rfl dX8_drift_19) ?_
      refine Rk.if_ne (pc := 20) (tgt := 41) dX8_drift_20 (nmI ha2) rfl (fun hc5 => ?_) (fun hc5 => ?_)
      · refine Rk.sp (G_aload_n (pc := 23) 0 rfl rfl dX8_drift_23) ?_
        refine Rk.gR (pc := 24) 166 flX8_59 cl8 rfl lb0 dX8_drift_24 ?_
        refine Rk.sp (G_aload_n (pc := 27) 0 rfl rfl dX8_drift_27) ?_
        refine Rk.gR (pc := 28) 1 flX8_12 cl8 rfl lb0 dX8_drift_28 ?_
        refine Rk.gR (pc := 31) 2 flX8_71 cl7 rfl lb1 dX8_drift_31 ?_
        refine Rk.sp (G_iload_n (pc := 34) 1 rfl rfl dX8_drift_34) ?_
        refine Rk.cI (pc := 35) (Cl.v [vr 2, vi a1] [] dX8_drift_35 ckX8_273 lb166 rfl rfl rfl (Nat.le_of_ble_eq_true rfl) (Nat.le_of_ble_eq_true rfl)) (k_Gl_longestFall 2 a1 σ lb2 ha1 hok) (fun r6 σ7 hr6 hσ7 => ?_)
        refine Rk.sp (G_goto (pc := 38) (tgt := 56) dX8_drift_38 rfl) ?_
        exact Rk.end_ (fun h => G_ireturn (pc := 56) rfl dX8_drift_56 (q_I h hr6 hσ7))
      · refine Rk.sp (G_aload_n (pc := 41) 0 rfl rfl dX8_drift_41) ?_
        refine Rk.gR (pc := 42) 166 flX8_59 cl8 rfl lb0 dX8_drift_42 ?_
        refine Rk.sp (G_aload_n (pc := 45) 0 rfl rfl dX8_drift_45) ?_
        refine Rk.gR (pc := 46) 1 flX8_12 cl8 rfl lb0 dX8_drift_46 ?_
        refine Rk.gR (pc := 49) 2 flX8_71 cl7 rfl lb1 dX8_drift_49 ?_
        refine Rk.sp (G_iload_n (pc := 52) 1 rfl rfl dX8_drift_52) ?_
        refine Rk.cRI (pc := 53) (Cl.v [vr 2, vi a1] [] dX8_drift_53 ckX8_276 lb166 rfl rfl rfl (Nat.le_of_ble_eq_true rfl) (Nat.le_of_ble_eq_true rfl)) (k_Gl_risesLessFalls 2 a1 σ lb2 ha1 hok) (fun r8 hr8 => ?_)
        exact Rk.end_ (fun h => G_ireturn (pc := 56) rfl dX8_drift_56 (q_I h hr8 hok))
theorem k_Co_keepPace {κ : Kx} {μ : Sg} (a1 : Int) (a2 : Int) (σ : Sg) (ha1 : inR a1) (ha2 : inR a2) (hok : okS σ) : CtV κ mX0_keepPace 0 [vr 152, vi a1, vi a2] false μ σ (Co_keepPace a1 a2 σ) := by
  intro τ h
  refine con_of (by decide) (Nat.le_of_ble_eq_true rfl) 0 ?_
  refine (?_ : Rk κ mX0_keepPace _ 0 [some (vr 152), some (vi a1), some (vi a2)] [] (ms false μ σ) (Co_keepPace a1 a2 σ) (fun a => a = τ)) _ h rfl
  unfold Co_keepPace
  refine Rk.sp (G_aload_n (pc := 0) 0 rfl rfl dX0_keepPace_0) ?_
  refine Rk.sp (G_iload_n (pc := 1) 1 rfl rfl dX0_keepPace_1) ?_
  refine Rk.pI (pc := 2) hok (nmI ha1) flX0_26 cl0 rfl rfl lb152 dX0_keepPace_2 (fun σ1 hσ1 => ?_)
  refine Rk.sp (G_aload_n (pc := 5) 0 rfl rfl dX0_keepPace_5) ?_
  refine Rk.sp (G_iload_n (pc := 6) 2 rfl rfl dX0_keepPace_6) ?_
  refine Rk.pI (pc := 7) hσ1 (nmI ha2) flX0_34 cl0 rfl rfl lb152 dX0_keepPace_7 (fun σ2 hσ2 => ?_)
  exact Rk.end_ (fun h => G_return (pc := 10) rfl dX0_keepPace_10 (q_V h hσ2))
theorem k_Ta_crossTogether {κ : Kx} {μ : Sg} (t0 : Nat) (σ : Sg) (ht0 : LB false t0 (1, 6)) (hok : okS σ) : CtRI κ mX6_crossTogether 0 [vr t0] false μ σ (Ta_crossTogether t0 σ) := by
  intro r h
  refine con_of (by decide) (Nat.le_of_ble_eq_true rfl) 0 ?_
  refine (?_ : Rk κ mX6_crossTogether _ 0 [some (vr t0)] [] (ms false μ σ) (Ta_crossTogether t0 σ) (fun a => a = r)) _ h rfl
  unfold Ta_crossTogether
  refine Rk.sp (G_aload_n (pc := 0) 0 rfl rfl dX6_crossTogether_0) ?_
  refine Rk.gR (pc := 1) (t0 + 1) flX6_9 cl6 rfl ht0 dX6_crossTogether_1 ?_
  refine Rk.sp (G_iconst (pc := 4) dX6_crossTogether_4) ?_
  refine Rk.alc (pc := 5) 0 rfl (Nat.le_of_ble_eq_true rfl) (LBt2 ht0 1 (by decide)) dX6_crossTogether_5 ?_
  refine Rk.sp (G_aload_n (pc := 6) 0 rfl rfl dX6_crossTogether_6) ?_
  refine Rk.gR (pc := 7) (t0 + 1) flX6_9 cl6 rfl ht0 dX6_crossTogether_7 ?_
  refine Rk.sp (G_iconst (pc := 10) dX6_crossTogether_10) ?_
  refine Rk.alc (pc := 11) 1 rfl (Nat.le_of_ble_eq_true rfl) (LBt2 ht0 1 (by decide)) dX6_crossTogether_11 ?_
  refine Rk.sp (G_iadd (pc := 12) dX6_crossTogether_12) ?_
  refine Rk.sp (Go.n0 (nmW _)) ?_
  exact Rk.end_ (fun h => G_ireturn (pc := 13) rfl dX6_crossTogether_13 (q_RI h (wrR _)))
theorem k_Td_ease {κ : Kx} {μ : Sg} (a1 : Int) (a2 : Int) (a3 : Int) (σ : Sg) (ha1 : inR a1) (ha2 : inR a2) (ha3 : inR a3) (hok : okS σ) : CtI κ mX8_ease 7 [vr 0, vi a1, vi a2, vi a3] false μ σ (Td_ease a1 a2 a3 σ) := by
  intro r τ h
  refine con_of (by decide) (Nat.le_of_ble_eq_true rfl) 3 ?_
  refine (?_ : Rk κ mX8_ease _ 0 [some (vr 0), some (vi a1), some (vi a2), some (vi a3), none, none, none] [] (ms false μ σ) (Td_ease a1 a2 a3 σ) (fun a => a = (r, τ))) _ h rfl
  unfold Td_ease
  refine Rk.sp (G_iload_n (pc := 0) 1 rfl rfl dX8_ease_0) ?_
  refine Rk.cRZ (pc := 1) (Cl.s [vi a1] [] dX8_ease_1 ckX8_85 rfl rfl (Nat.le_of_ble_eq_true rfl) (Nat.le_of_ble_eq_true rfl)) (k_Td_isOne a1 ha1) (fun r1 hr1 => ?_)
  refine Rk.if_eq (pc := 4) (tgt := 27) dX8_ease_4 (nmI (inZ.R hr1)) rfl (fun hc2 => ?_) (fun hc2 => ?_)
  · refine Rk.sp (G_iconst (pc := 27) dX8_ease_27) ?_
    exact Rk.end_ (fun h => G_ireturn (pc := 28) rfl dX8_ease_28 (q_I h (inRk (-1) rfl) hok))
  · refine Rk.sp (G_iload_n (pc := 7) 2 rfl rfl dX8_ease_7) ?_
    refine Rk.sp (G_iconst (pc := 8) dX8_ease_8) ?_
    refine Rk.sp (G_sipush (pc := 9) dX8_ease_9 rfl) ?_
    refine Rk.cRZ (pc := 12) (Cl.s [vi a2, vi 1, vi 300] [] dX8_ease_12 ckX8_81 rfl rfl (Nat.le_of_ble_eq_true rfl) (Nat.le_of_ble_eq_true rfl)) (k_Td_within a2 1 300 ha2 (inRk 1 rfl) (inRk 300 rfl)) (fun r3 hr3 => ?_)
    refine Rk.if_eq (pc := 15) (tgt := 27) dX8_ease_15 (nmI (inZ.R hr3)) rfl (fun hc4 => ?_) (fun hc4 => ?_)
    · refine Rk.sp (G_iconst (pc := 27) dX8_ease_27) ?_
      exact Rk.end_ (fun h => G_ireturn (pc := 28) rfl dX8_ease_28 (q_I h (inRk (-1) rfl) hok))
    · refine Rk.sp (G_iload_n (pc := 18) 3 rfl rfl dX8_ease_18) ?_
      refine Rk.sp (G_iconst (pc := 19) dX8_ease_19) ?_
      refine Rk.sp (G_iconst (pc := 20) dX8_ease_20) ?_
      refine Rk.cRZ (pc := 21) (Cl.s [vi a3, vi 0, vi 1] [] dX8_ease_21 ckX8_81 rfl rfl (Nat.le_of_ble_eq_true rfl) (Nat.le_of_ble_eq_true rfl)) (k_Td_within a3 0 1 ha3 (inRk 0 rfl) (inRk 1 rfl)) (fun r5 hr5 => ?_)
      refine Rk.if_ne (pc := 24) (tgt := 29) dX8_ease_24 (nmI (inZ.R hr5)) rfl (fun hc6 => ?_) (fun hc6 => ?_)
      · refine Rk.sp (G_iconst (pc := 27) dX8_ease_27) ?_
        exact Rk.end_ (fun h => G_ireturn (pc := 28) rfl dX8_ease_28 (q_I h (inRk (-1) rfl) hok))
      · refine Rk.sp (G_sipush (pc := 29) dX8_ease_29 rfl) ?_
        refine Rk.isa_w (pc := 32) 4 (L' := [some (vr 0), some (vi a1), some (vi a2), some (vi a3), some (vi 1000), none, none]) (Nat.le_of_ble_eq_true rfl) rfl dX8_ease_32 rfl ?_
        refine Rk.sp (G_iconst (pc := 34) dX8_ease_34) ?_
        refine Rk.isa_w (pc := 35) 5 (L' := [some (vr 0), some (vi a1), some (vi a2), some (vi a3), some (vi 1000), some (vi (-1)), none]) (Nat.le_of_ble_eq_true rfl) rfl dX8_ease_35 rfl ?_
        refine Rk.sp (G_iconst (pc := 37) dX8_ease_37) ?_
        refine Rk.isa_w (pc := 38) 6 (L' := [some (vr 0), some (vi a1), some (vi a2), some (vi a3), some (vi 1000), some (vi (-1)), some (vi 1)]) (Nat.le_of_ble_eq_true rfl) rfl dX8_ease_38 rfl ?_
        refine Rk.loop (pc := 40) (B := (fun p => Td_ease_40_b a3 a1 a2 p.1 p.2.1 p.2.2.1 p.2.2.2)) (fun p => inR p.1 ∧ inR p.2.1 ∧ inR p.2.2.1 ∧ okS p.2.2.2) (fun p => [some (vr 0), some (vi a1), some (vi a2), some (vi a3), some (vi p.1), some (vi p.2.1), some (vi p.2.2.1)]) (fun p => (ms false μ p.2.2.2)) (fun p hp => ?_) (1000, (-1), 1, σ) ⟨(inRk 1000 rfl), (inRk (-1) rfl), (inRk 1 rfl), hok⟩
        obtain ⟨v4_7, v5_8, v6_9, σ10⟩ := p
        obtain ⟨hv4_7, hv5_8, hv6_9, hσ10⟩ := hp
        try dsimp only
        unfold Td_ease_40_b
        refine Rk.sp (G_iload_w (pc := 40) 6 rfl dX8_ease_40) ?_
        refine Rk.sp (G_sipush (pc := 42) dX8_ease_42 rfl) ?_
        refine Rk.icmp_gt (pc := 45) (tgt := 104) dX8_ease_45 (nmI hv6_9) (nmI (inRk 256 rfl)) rfl (fun hc11 => ?_) (fun hc11 => ?_)
        · refine Rk.sp (G_iload_n (pc := 104) 3 rfl rfl dX8_ease_104) ?_
          refine Rk.if_ne (pc := 105) (tgt := 113) dX8_ease_105 (nmI ha3) rfl (fun hc12 => ?_) (fun hc12 => ?_)
          · refine Rk.sp (G_iload_w (pc := 108) 5 rfl dX8_ease_108) ?_
            refine Rk.sp (G_goto (pc := 110) (tgt := 115) dX8_ease_110 rfl) ?_
            exact Rk.end_ (fun h => G_ireturn (pc := 115) rfl dX8_ease_115 (q_I h hv5_8 hσ10))
          · refine Rk.sp (G_iload_w (pc := 113) 4 rfl dX8_ease_113) ?_
            exact Rk.end_ (fun h => G_ireturn (pc := 115) rfl dX8_ease_115 (q_I h hv4_7 hσ10))
        · refine Rk.sp (G_aload_n (pc := 48) 0 rfl rfl dX8_ease_48) ?_
          refine Rk.cV (pc := 49) (Cl.v [] [] dX8_ease_49 ckX8_242 lb0 rfl rfl rfl (Nat.le_of_ble_eq_true rfl) (Nat.le_of_ble_eq_true rfl)) (k_Td_imagine σ10 hσ10) (fun σ13 hσ13 => ?_)
          refine Rk.sp (G_aload_n (pc := 52) 0 rfl rfl dX8_ease_52) ?_
          refine Rk.gR (pc := 53) 152 flX8_45 cl8 rfl lb0 dX8_ease_53 ?_
          refine Rk.sp (G_iload_n (pc := 56) 1 rfl rfl dX8_ease_56) ?_
          refine Rk.sp (G_iload_w (pc := 57) 6 rfl dX8_ease_57) ?_
          refine Rk.cV (pc := 59) (Cl.v [vi a1, vi v6_9] [] dX8_ease_59 ckX8_333 lb152 rfl rfl rfl (Nat.le_of_ble_eq_true rfl) (Nat.le_of_ble_eq_true rfl)) (k_Co_keepPace a1 v6_9 σ13 ha1 hv6_9 hσ13) (fun σ14 hσ14 => ?_)
          refine Rk.sp (G_aload_n (pc := 62) 0 rfl rfl dX8_ease_62) ?_
          refine Rk.gR (pc := 63) 152 flX8_45 cl8 rfl lb0 dX8_ease_63 ?_
          refine Rk.sp (G_iload_n (pc := 66) 2 rfl rfl dX8_ease_66) ?_
          refine Rk.cV (pc := 67) (Cl.v [vi a2] [] dX8_ease_67 ckX8_147 lb152 rfl rfl rfl (Nat.le_of_ble_eq_true rfl) (Nat.le_of_ble_eq_true rfl)) (k_Co_go a2 σ14 ha2 hσ14) (fun σ15 hσ15 => ?_)
          refine Rk.sp (G_aload_n (pc := 70) 0 rfl rfl dX8_ease_70) ?_
          refine Rk.gR (pc := 71) 153 flX8_52 cl8 rfl lb0 dX8_ease_71 ?_
          refine Rk.cRI (pc := 74) (Cl.v [] [] dX8_ease_74 ckX8_133 lb153 rfl rfl rfl (Nat.le_of_ble_eq_true rfl) (Nat.le_of_ble_eq_true rfl)) (k_Ta_crossTogether 153 σ15 lb153 hσ15) (fun r16 hr16 => ?_)
          refine Rk.sp (G_iload_w (pc := 77) 4 rfl dX8_ease_77) ?_
          refine Rk.icmp_ge (pc := 79) (tgt := 95) dX8_ease_79 (nmI hr16) (nmI hv4_7) rfl (fun hc17 => ?_) (fun hc17 => ?_)
          · refine Rk.sp (G_aload_n (pc := 82) 0 rfl rfl dX8_ease_82) ?_
            refine Rk.gR (pc := 83) 153 flX8_52 cl8 rfl lb0 dX8_ease_83 ?_
            refine Rk.cRI (pc := 86) (Cl.v [] [] dX8_ease_86 ckX8_133 lb153 rfl rfl rfl (Nat.le_of_ble_eq_true rfl) (Nat.le_of_ble_eq_true rfl)) (k_Ta_crossTogether 153 σ15 lb153 hσ15) (fun r18 hr18 => ?_)
            refine Rk.isa_w (pc := 89) 4 (L' := [some (vr 0), some (vi a1), some (vi a2), some (vi a3), some (vi r18), some (vi v5_8), some (vi v6_9)]) (Nat.le_of_ble_eq_true rfl) rfl dX8_ease_89 rfl ?_
            refine Rk.sp (G_iload_w (pc := 91) 6 rfl dX8_ease_91) ?_
            refine Rk.isa_w (pc := 93) 5 (L' := [some (vr 0), some (vi a1), some (vi a2), some (vi a3), some (vi r18), some (vi v6_9), some (vi v6_9)]) (Nat.le_of_ble_eq_true rfl) rfl dX8_ease_93 rfl ?_
            refine Rk.sp (G_iload_w (pc := 95) 6 rfl dX8_ease_95) ?_
            refine Rk.sp (G_iconst (pc := 97) dX8_ease_97) ?_
            refine Rk.sp (G_imul (pc := 98) dX8_ease_98) ?_
            refine Rk.ist_w (pc := 99) 6 (fun v6_19 => [some (vr 0), some (vi a1), some (vi a2), some (vi a3), some (vi r18), some (vi v6_9), some (vi v6_19)]) (Nat.le_of_ble_eq_true rfl) rfl dX8_ease_99 (nmW _) (fun _ => rfl) (fun v6_19 hv6_19 => ?_)
            refine Rk.sp (G_goto (pc := 101) (tgt := 40) dX8_ease_101 rfl) ?_
            exact Rk.end_ (fun h => h ⟨hr18, hv6_9, hv6_19, hσ15⟩)
          · refine Rk.sp (G_iload_w (pc := 95) 6 rfl dX8_ease_95) ?_
            refine Rk.sp (G_iconst (pc := 97) dX8_ease_97) ?_
            refine Rk.sp (G_imul (pc := 98) dX8_ease_98) ?_
            refine Rk.ist_w (pc := 99) 6 (fun v6_20 => [some (vr 0), some (vi a1), some (vi a2), some (vi a3), some (vi v4_7), some (vi v5_8), some (vi v6_20)]) (Nat.le_of_ble_eq_true rfl) rfl dX8_ease_99 (nmW _) (fun _ => rfl) (fun v6_20 hv6_20 => ?_)
            refine Rk.sp (G_goto (pc := 101) (tgt := 40) dX8_ease_101 rfl) ?_
            exact Rk.end_ (fun h => h ⟨hv4_7, hv5_8, hv6_20, hσ15⟩)
theorem k_Td_end {κ : Kx} {μ : Sg} (a1 : Int) (σ : Sg) (ha1 : inR a1) (hok : okS σ) : CtZ κ mX8_end 1 [vr 0, vi a1] false μ σ (Td_end a1 σ) := by
  intro r τ h
  refine con_of (by decide) (Nat.le_of_ble_eq_true rfl) 0 ?_
  refine (?_ : Rk κ mX8_end _ 0 [some (vr 0), some (vi a1)] [] (ms false μ σ) (Td_end a1 σ) (fun a => a = (r, τ))) _ h rfl
  unfold Td_end
  refine Rk.sp (G_iload_n (pc := 0) 1 rfl rfl dX8_end_0) ?_
  refine Rk.sp (G_iconst (pc := 1) dX8_end_1) ?_
  refine Rk.sp (G_aload_n (pc := 2) 0 rfl rfl dX8_end_2) ?_
  refine Rk.gR (pc := 3) 141 flX8_29 cl8 rfl lb0 dX8_end_3 ?_
  refine Rk.gI (pc := 6) flX8_159 cl4 rfl lb141 dX8_end_6 ?_
  refine Rk.cRZ (pc := 9) (Cl.s [vi a1, vi 0, vi (σ 141 1)] [] dX8_end_9 ckX8_81 rfl rfl (Nat.le_of_ble_eq_true rfl) (Nat.le_of_ble_eq_true rfl)) (k_Td_within a1 0 (σ 141 1) ha1 (inRk 0 rfl) (hok _ _)) (fun r1 hr1 => ?_)
  refine Rk.if_ne (pc := 12) (tgt := 17) dX8_end_12 (nmI (inZ.R hr1)) rfl (fun hc2 => ?_) (fun hc2 => ?_)
  · refine Rk.sp (G_iconst (pc := 15) dX8_end_15) ?_
    exact Rk.end_ (fun h => G_zreturn (pc := 16) rfl (nz inZ0) dX8_end_16 (q_Z h inZ0 hok))
  · refine Rk.sp (G_aload_n (pc := 17) 0 rfl rfl dX8_end_17) ?_
    refine Rk.gR (pc := 18) 141 flX8_29 cl8 rfl lb0 dX8_end_18 ?_
    refine Rk.sp (G_iload_n (pc := 21) 1 rfl rfl dX8_end_21) ?_
    refine Rk.pI (pc := 22) hok (nmI ha1) flX8_159 cl4 rfl rfl lb141 dX8_end_22 (fun σ3 hσ3 => ?_)
    refine Rk.sp (G_iconst (pc := 25) dX8_end_25) ?_
    exact Rk.end_ (fun h => G_zreturn (pc := 26) rfl (nz inZ1) dX8_end_26 (q_Z h inZ1 hσ3))
theorem k_Td_fault {κ : Kx} {μ : Sg} (a1 : Int) (σ : Sg) (ha1 : inR a1) (hok : okS σ) : CtRI κ mX8_fault 0 [vr 0, vi a1] false μ σ (Td_fault a1 σ) := by
  intro r h
  refine con_of (by decide) (Nat.le_of_ble_eq_true rfl) 0 ?_
  refine (?_ : Rk κ mX8_fault _ 0 [some (vr 0), some (vi a1)] [] (ms false μ σ) (Td_fault a1 σ) (fun a => a = r)) _ h rfl
  unfold Td_fault
  refine Rk.sp (G_iload_n (pc := 0) 1 rfl rfl dX8_fault_0) ?_
  refine Rk.if_ne (pc := 1) (tgt := 12) dX8_fault_1 (nmI ha1) rfl (fun hc1 => ?_) (fun hc1 => ?_)
  · refine Rk.sp (G_aload_n (pc := 4) 0 rfl rfl dX8_fault_4) ?_
    refine Rk.gR (pc := 5) 141 flX8_29 cl8 rfl lb0 dX8_fault_5 ?_
    refine Rk.gI (pc := 8) flX8_185 cl4 rfl lb141 dX8_fault_8 ?_
    exact Rk.end_ (fun h => G_ireturn (pc := 11) rfl dX8_fault_11 (q_RI h (hok _ _)))
  · refine Rk.sp (G_iload_n (pc := 12) 1 rfl rfl dX8_fault_12) ?_
    refine Rk.sp (G_iconst (pc := 13) dX8_fault_13) ?_
    refine Rk.icmp_ne (pc := 14) (tgt := 27) dX8_fault_14 (nmI ha1) (nmI (inRk 1 rfl)) rfl (fun hc2 => ?_) (fun hc2 => ?_)
    · refine Rk.sp (G_aload_n (pc := 17) 0 rfl rfl dX8_fault_17) ?_
      refine Rk.gR (pc := 18) 141 flX8_29 cl8 rfl lb0 dX8_fault_18 ?_
      refine Rk.gI (pc := 21) flX8_188 cl4 rfl lb141 dX8_fault_21 ?_
      refine Rk.sp (G_goto (pc := 24) (tgt := 28) dX8_fault_24 rfl) ?_
      exact Rk.end_ (fun h => G_ireturn (pc := 28) rfl dX8_fault_28 (q_RI h (hok _ _)))
    · refine Rk.sp (G_iconst (pc := 27) dX8_fault_27) ?_
      exact Rk.end_ (fun h => G_ireturn (pc := 28) rfl dX8_fault_28 (q_RI h (inRk (-1) rfl)))
theorem k_Re_hasRoom {κ : Kx} {μ : Sg} (a1 : Int) (σ : Sg) (ha1 : inR a1) (hok : okS σ) : CtRZ κ mX4_hasRoom 0 [vr 141, vi a1] false μ σ (Re_hasRoom a1 σ) := by
  intro r h
  refine con_of (by decide) (Nat.le_of_ble_eq_true rfl) 0 ?_
  refine (?_ : Rk κ mX4_hasRoom _ 0 [some (vr 141), some (vi a1)] [] (ms false μ σ) (Re_hasRoom a1 σ) (fun a => a = r)) _ h rfl
  unfold Re_hasRoom
  refine Rk.sp (G_aload_n (pc := 0) 0 rfl rfl dX4_hasRoom_0) ?_
  refine Rk.gI (pc := 1) flX4_37 cl4 rfl lb141 dX4_hasRoom_1 ?_
  refine Rk.sp (G_iload_n (pc := 4) 1 rfl rfl dX4_hasRoom_4) ?_
  refine Rk.sp (G_iadd (pc := 5) dX4_hasRoom_5) ?_
  refine Rk.sp (G_sipush (pc := 6) dX4_hasRoom_6 rfl) ?_
  refine Rk.icmp_gt (pc := 9) (tgt := 16) dX4_hasRoom_9 (nmW _) (nmI (inRk 400 rfl)) rfl (fun hc1 => ?_) (fun hc1 => ?_)
  · refine Rk.sp (G_iconst (pc := 16) dX4_hasRoom_16) ?_
    exact Rk.end_ (fun h => G_zreturn (pc := 17) rfl (nz inZ0) dX4_hasRoom_17 (q_RZ h inZ0))
  · refine Rk.sp (G_iconst (pc := 12) dX4_hasRoom_12) ?_
    refine Rk.sp (G_goto (pc := 13) (tgt := 17) dX4_hasRoom_13 rfl) ?_
    exact Rk.end_ (fun h => G_zreturn (pc := 17) rfl (nz inZ1) dX4_hasRoom_17 (q_RZ h inZ1))
theorem k_Re_append {κ : Kx} {μ : Sg} (a1 : Int) (σ : Sg) (ha1 : inR a1) (hok : okS σ) : CtV κ mX4_append 0 [vr 141, vi a1] false μ σ (Re_append a1 σ) := by
  intro τ h
  refine con_of (by decide) (Nat.le_of_ble_eq_true rfl) 1 ?_
  refine (?_ : Rk κ mX4_append _ 0 [some (vr 141), some (vi a1), none] [] (ms false μ σ) (Re_append a1 σ) (fun a => a = τ)) _ h rfl
  unfold Re_append
  refine Rk.sp (G_bipush (pc := 0) dX4_append_0 rfl) ?_
  refine Rk.isa_n (pc := 2) 2 (L' := [some (vr 141), some (vi a1), some (vi 24)]) rfl (Nat.le_of_ble_eq_true rfl) rfl dX4_append_2 rfl ?_
  refine Rk.loop (pc := 3) (B := (fun p => Re_append_3_b a1 p.1 p.2)) (fun p => inR p.1 ∧ okS p.2) (fun p => [some (vr 141), some (vi a1), some (vi p.1)]) (fun p => (ms false μ p.2)) (fun p hp => ?_) (24, σ) ⟨(inRk 24 rfl), hok⟩
  obtain ⟨v2_1, σ2⟩ := p
  obtain ⟨hv2_1, hσ2⟩ := hp
  try dsimp only
  unfold Re_append_3_b
  refine Rk.sp (G_iload_n (pc := 3) 2 rfl rfl dX4_append_3) ?_
  refine Rk.if_lt (pc := 4) (tgt := 49) dX4_append_4 (nmI hv2_1) rfl (fun hc3 => ?_) (fun hc3 => ?_)
  · exact Rk.end_ (fun h => G_return (pc := 49) rfl dX4_append_49 (q_V h hσ2))
  · refine Rk.sp (G_aload_n (pc := 7) 0 rfl rfl dX4_append_7) ?_
    refine Rk.gI (pc := 8) flX4_37 cl4 rfl lb141 dX4_append_8 ?_
    refine Rk.sp (G_sipush (pc := 11) dX4_append_11 rfl) ?_
    refine Rk.icmp_ge (pc := 14) (tgt := 49) dX4_append_14 (nmI (hσ2 _ _)) (nmI (inRk 400 rfl)) rfl (fun hc4 => ?_) (fun hc4 => ?_)
    · refine Rk.sp (G_aload_n (pc := 17) 0 rfl rfl dX4_append_17) ?_
      refine Rk.gR (pc := 18) 145 flX4_24 cl4 rfl lb141 dX4_append_18 ?_
      refine Rk.sp (G_aload_n (pc := 21) 0 rfl rfl dX4_append_21) ?_
      refine Rk.gI (pc := 22) flX4_37 cl4 rfl lb141 dX4_append_22 ?_
      refine Rk.sp (G_iload_n (pc := 25) 1 rfl rfl dX4_append_25) ?_
      refine Rk.sp (G_iload_n (pc := 26) 2 rfl rfl dX4_append_26) ?_
      refine Rk.sp (G_ishr (pc := 27) dX4_append_27) ?_
      refine Rk.sp (G_sipush (pc := 28) dX4_append_28 rfl) ?_
      refine Rk.sp (G_iand (pc := 31) dX4_append_31) ?_
      refine Rk.as (pc := 32) hσ2 (nmI (bAnd_R _ _)) lb145 dX4_append_32 (fun hi6 σ5 hσ5 => ?_)
      refine Rk.sp (G_aload_n (pc := 33) 0 rfl rfl dX4_append_33) ?_
      refine Rk.sp (G_dup (pc := 34) dX4_append_34 (fun _ h => by cases h)) ?_
      refine Rk.gI (pc := 35) flX4_37 cl4 rfl lb141 dX4_append_35 ?_
      refine Rk.sp (G_iconst (pc := 38) dX4_append_38) ?_
      refine Rk.sp (G_iadd (pc := 39) dX4_append_39) ?_
      refine Rk.pI (pc := 40) hσ5 (nmW _) flX4_37 cl4 rfl rfl lb141 dX4_append_40 (fun σ7 hσ7 => ?_)
      refine Rk.inc (pc := 43) 2 (fun v2_8 => [some (vr 141), some (vi a1), some (vi v2_8)]) rfl (Nat.le_of_ble_eq_true rfl) rfl dX4_append_43 (fun _ => rfl) (fun v2_8 hv2_8 => ?_)
      refine Rk.sp (G_goto (pc := 46) (tgt := 3) dX4_append_46 rfl) ?_
      exact Rk.end_ (fun h => h ⟨hv2_8, hσ7⟩)
    · exact Rk.end_ (fun h => G_return (pc := 49) rfl dX4_append_49 (q_V h hσ2))
theorem k_Td_feed {κ : Kx} {μ : Sg} (a1 : Int) (a2 : Int) (a3 : Int) (a4 : Int) (a5 : Int) (σ : Sg) (ha1 : inR a1) (ha2 : inR a2) (ha3 : inR a3) (ha4 : inR a4) (ha5 : inR a5) (hok : okS σ) : CtI κ mX8_feed 1 [vr 0, vi a1, vi a2, vi a3, vi a4, vi a5] false μ σ (Td_feed a1 a2 a3 a4 a5 σ) := by
  intro r τ h
  refine con_of (by decide) (Nat.le_of_ble_eq_true rfl) 0 ?_
  refine (?_ : Rk κ mX8_feed _ 0 [some (vr 0), some (vi a1), some (vi a2), some (vi a3), some (vi a4), some (vi a5)] [] (ms false μ σ) (Td_feed a1 a2 a3 a4 a5 σ) (fun a => a = (r, τ))) _ h rfl
  unfold Td_feed
  refine Rk.sp (G_aload_n (pc := 0) 0 rfl rfl dX8_feed_0) ?_
  refine Rk.gR (pc := 1) 141 flX8_29 cl8 rfl lb0 dX8_feed_1 ?_
  refine Rk.sp (G_bipush (pc := 4) dX8_feed_4 rfl) ?_
  refine Rk.cRZ (pc := 6) (Cl.v [vi 20] [] dX8_feed_6 ckX8_153 lb141 rfl rfl rfl (Nat.le_of_ble_eq_true rfl) (Nat.le_of_ble_eq_true rfl)) (k_Re_hasRoom 20 σ (inRk 20 rfl) hok) (fun r1 hr1 => ?_)
  refine Rk.if_ne (pc := 9) (tgt := 14) dX8_feed_9 (nmI (inZ.R hr1)) rfl (fun hc2 => ?_) (fun hc2 => ?_)
  · refine Rk.sp (G_iconst (pc := 12) dX8_feed_12) ?_
    exact Rk.end_ (fun h => G_ireturn (pc := 13) rfl dX8_feed_13 (q_I h (inRk (-1) rfl) hok))
  · refine Rk.sp (G_aload_n (pc := 14) 0 rfl rfl dX8_feed_14) ?_
    refine Rk.gR (pc := 15) 141 flX8_29 cl8 rfl lb0 dX8_feed_15 ?_
    refine Rk.sp (G_iload_n (pc := 18) 1 rfl rfl dX8_feed_18) ?_
    refine Rk.cV (pc := 19) (Cl.v [vi a1] [] dX8_feed_19 ckX8_156 lb141 rfl rfl rfl (Nat.le_of_ble_eq_true rfl) (Nat.le_of_ble_eq_true rfl)) (k_Re_append a1 σ ha1 hok) (fun σ3 hσ3 => ?_)
    refine Rk.sp (G_aload_n (pc := 22) 0 rfl rfl dX8_feed_22) ?_
    refine Rk.gR (pc := 23) 141 flX8_29 cl8 rfl lb0 dX8_feed_23 ?_
    refine Rk.sp (G_iload_n (pc := 26) 2 rfl rfl dX8_feed_26) ?_
    refine Rk.cV (pc := 27) (Cl.v [vi a2] [] dX8_feed_27 ckX8_156 lb141 rfl rfl rfl (Nat.le_of_ble_eq_true rfl) (Nat.le_of_ble_eq_true rfl)) (k_Re_append a2 σ3 ha2 hσ3) (fun σ4 hσ4 => ?_)
    refine Rk.sp (G_aload_n (pc := 30) 0 rfl rfl dX8_feed_30) ?_
    refine Rk.gR (pc := 31) 141 flX8_29 cl8 rfl lb0 dX8_feed_31 ?_
    refine Rk.sp (G_iload_n (pc := 34) 3 rfl rfl dX8_feed_34) ?_
    refine Rk.cV (pc := 35) (Cl.v [vi a3] [] dX8_feed_35 ckX8_156 lb141 rfl rfl rfl (Nat.le_of_ble_eq_true rfl) (Nat.le_of_ble_eq_true rfl)) (k_Re_append a3 σ4 ha3 hσ4) (fun σ5 hσ5 => ?_)
    refine Rk.sp (G_aload_n (pc := 38) 0 rfl rfl dX8_feed_38) ?_
    refine Rk.gR (pc := 39) 141 flX8_29 cl8 rfl lb0 dX8_feed_39 ?_
    refine Rk.sp (G_iload_w (pc := 42) 4 rfl dX8_feed_42) ?_
    refine Rk.cV (pc := 44) (Cl.v [vi a4] [] dX8_feed_44 ckX8_156 lb141 rfl rfl rfl (Nat.le_of_ble_eq_true rfl) (Nat.le_of_ble_eq_true rfl)) (k_Re_append a4 σ5 ha4 hσ5) (fun σ6 hσ6 => ?_)
    refine Rk.sp (G_aload_n (pc := 47) 0 rfl rfl dX8_feed_47) ?_
    refine Rk.gR (pc := 48) 141 flX8_29 cl8 rfl lb0 dX8_feed_48 ?_
    refine Rk.sp (G_iload_w (pc := 51) 5 rfl dX8_feed_51) ?_
    refine Rk.cV (pc := 53) (Cl.v [vi a5] [] dX8_feed_53 ckX8_156 lb141 rfl rfl rfl (Nat.le_of_ble_eq_true rfl) (Nat.le_of_ble_eq_true rfl)) (k_Re_append a5 σ6 ha5 hσ6) (fun σ7 hσ7 => ?_)
    refine Rk.sp (G_aload_n (pc := 56) 0 rfl rfl dX8_feed_56) ?_
    refine Rk.gR (pc := 57) 141 flX8_29 cl8 rfl lb0 dX8_feed_57 ?_
    refine Rk.gI (pc := 60) flX8_159 cl4 rfl lb141 dX8_feed_60 ?_
    exact Rk.end_ (fun h => G_ireturn (pc := 63) rfl dX8_feed_63 (q_I h (hσ7 _ _) hσ7))
theorem k_Wo_busFits {κ : Kx} {μ : Sg} (t0 : Nat) (a1 : Int) (a2 : Int) (σ : Sg) (ht0 : LB false t0 (1, 7)) (ha1 : inR a1) (ha2 : inR a2) (hok : okS σ) : CtRZ κ mX7_busFits 0 [vr t0, vi a1, vi a2] false μ σ (Wo_busFits t0 a1 a2 σ) := by
  intro r h
  refine con_of (by decide) (Nat.le_of_ble_eq_true rfl) 2 ?_
  refine (?_ : Rk κ mX7_busFits _ 0 [some (vr t0), some (vi a1), some (vi a2), none, none] [] (ms false μ σ) (Wo_busFits t0 a1 a2 σ) (fun a => a = r)) _ h rfl
  unfold Wo_busFits
  refine Rk.sp (G_iconst (pc := 0) dX7_busFits_0) ?_
  refine Rk.isa_n (pc := 1) 3 (L' := [some (vr t0), some (vi a1), some (vi a2), some (vi 0), none]) rfl (Nat.le_of_ble_eq_true rfl) rfl dX7_busFits_1 rfl ?_
  refine Rk.loop (pc := 2) (B := (fun p => Wo_busFits_2_b σ t0 a1 a2 p)) (fun p => inR p) (fun p => [some (vr t0), some (vi a1), some (vi a2), some (vi p), none]) (fun p => (ms false μ σ)) (fun p hp => ?_) 0 (inRk 0 rfl)
  revert hp; revert p; intro v3_1 hv3_1
  try dsimp only
  unfold Wo_busFits_2_b
  refine Rk.sp (G_iload_n (pc := 2) 3 rfl rfl dX7_busFits_2) ?_
  refine Rk.sp (G_aload_n (pc := 3) 0 rfl rfl dX7_busFits_3) ?_
  refine Rk.gI (pc := 4) flX7_54 cl7 rfl ht0 dX7_busFits_4 ?_
  refine Rk.icmp_ge (pc := 7) (tgt := 45) dX7_busFits_7 (nmI hv3_1) (nmI (hok _ _)) rfl (fun hc2 => ?_) (fun hc2 => ?_)
  · refine Rk.sp (G_iload_n (pc := 10) 1 rfl rfl dX7_busFits_10) ?_
    refine Rk.if_le (pc := 11) (tgt := 45) dX7_busFits_11 (nmI ha1) rfl (fun hc3 => ?_) (fun hc3 => ?_)
    · refine Rk.sp (G_aload_n (pc := 14) 0 rfl rfl dX7_busFits_14) ?_
      refine Rk.gR (pc := 15) (t0 + 28) flX7_31 cl7 rfl ht0 dX7_busFits_15 ?_
      refine Rk.sp (G_iload_n (pc := 18) 3 rfl rfl dX7_busFits_18) ?_
      refine Rk.al (pc := 19) (LBw ht0).2.2.2.1 dX7_busFits_19 (fun hi4 => ?_)
      refine Rk.sp (G_iload_n (pc := 20) 2 rfl rfl dX7_busFits_20) ?_
      refine Rk.sp (G_isub (pc := 21) dX7_busFits_21) ?_
      refine Rk.ist_w (pc := 22) 4 (fun v4_5 => [some (vr t0), some (vi a1), some (vi a2), some (vi v3_1), some (vi v4_5)]) (Nat.le_of_ble_eq_true rfl) rfl dX7_busFits_22 (nmW _) (fun _ => rfl) (fun v4_5 hv4_5 => ?_)
      refine Rk.sp (G_iload_w (pc := 24) 4 rfl dX7_busFits_24) ?_
      refine Rk.if_lt (pc := 26) (tgt := 37) dX7_busFits_26 (nmI hv4_5) rfl (fun hc6 => ?_) (fun hc6 => ?_)
      · refine Rk.sp (G_iconst (pc := 37) dX7_busFits_37) ?_
        exact Rk.end_ (fun h => G_zreturn (pc := 38) rfl (nz inZ0) dX7_busFits_38 (q_RZ h inZ0))
      · refine Rk.sp (G_iload_w (pc := 29) 4 rfl dX7_busFits_29) ?_
        refine Rk.sp (G_iload_n (pc := 31) 1 rfl rfl dX7_busFits_31) ?_
        refine Rk.qnz (fun hz7 => ?_)
        refine Rk.sp (G_irem (pc := 32) dX7_busFits_32 (nmI hv4_5) (nmI ha1) hz7) ?_
        refine Rk.sp (G_iconst (pc := 33) dX7_busFits_33) ?_
        refine Rk.icmp_le (pc := 34) (tgt := 39) dX7_busFits_34 (nmI (tmodR hv4_5)) (nmI (inRk 1 rfl)) rfl (fun hc8 => ?_) (fun hc8 => ?_)
        · refine Rk.sp (G_iconst (pc := 37) dX7_busFits_37) ?_
          exact Rk.end_ (fun h => G_zreturn (pc := 38) rfl (nz inZ0) dX7_busFits_38 (q_RZ h inZ0))
        · refine Rk.inc (pc := 39) 3 (fun v3_9 => [some (vr t0), some (vi a1), some (vi a2), some (vi v3_9), some (vi v4_5)]) rfl (Nat.le_of_ble_eq_true rfl) rfl dX7_busFits_39 (fun _ => rfl) (fun v3_9 hv3_9 => ?_)
          refine Rk.sp (G_goto (pc := 42) (tgt := 2) dX7_busFits_42 rfl) ?_
          refine Rk.fg [true, true, true, true, false] (L' := [some (vr t0), some (vi a1), some (vi a2), some (vi v3_9), none]) rfl ?_
          exact Rk.end_ (fun h => h hv3_9)
    · refine Rk.sp (G_iconst (pc := 45) dX7_busFits_45) ?_
      exact Rk.end_ (fun h => G_zreturn (pc := 46) rfl (nz inZ1) dX7_busFits_46 (q_RZ h inZ1))
  · refine Rk.sp (G_iconst (pc := 45) dX7_busFits_45) ?_
    exact Rk.end_ (fun h => G_zreturn (pc := 46) rfl (nz inZ1) dX7_busFits_46 (q_RZ h inZ1))
theorem k_Td_fits {κ : Kx} {μ : Sg} (a1 : Int) (σ : Sg) (ha1 : inR a1) (hok : okS σ) : CtRI κ mX8_fits 1 [vr 0, vi a1] false μ σ (Td_fits a1 σ) := by
  intro r h
  refine con_of (by decide) (Nat.le_of_ble_eq_true rfl) 5 ?_
  refine (?_ : Rk κ mX8_fits _ 0 [some (vr 0), some (vi a1), none, none, none, none, none] [] (ms false μ σ) (Td_fits a1 σ) (fun a => a = r)) _ h rfl
  unfold Td_fits
  refine Rk.sp (G_iload_n (pc := 0) 1 rfl rfl dX8_fits_0) ?_
  refine Rk.sp (G_iconst (pc := 1) dX8_fits_1) ?_
  refine Rk.sp (G_iconst (pc := 2) dX8_fits_2) ?_
  refine Rk.cRZ (pc := 3) (Cl.s [vi a1, vi 0, vi 2] [] dX8_fits_3 ckX8_81 rfl rfl (Nat.le_of_ble_eq_true rfl) (Nat.le_of_ble_eq_true rfl)) (k_Td_within a1 0 2 ha1 (inRk 0 rfl) (inRk 2 rfl)) (fun r1 hr1 => ?_)
  refine Rk.if_ne (pc := 6) (tgt := 11) dX8_fits_6 (nmI (inZ.R hr1)) rfl (fun hc2 => ?_) (fun hc2 => ?_)
  · refine Rk.sp (G_iconst (pc := 9) dX8_fits_9) ?_
    exact Rk.end_ (fun h => G_ireturn (pc := 10) rfl dX8_fits_10 (q_RI h (inRk (-1) rfl)))
  · refine Rk.sp (G_iconst (pc := 11) dX8_fits_11) ?_
    refine Rk.isa_n (pc := 12) 2 (L' := [some (vr 0), some (vi a1), some (vi 0), none, none, none, none]) rfl (Nat.le_of_ble_eq_true rfl) rfl dX8_fits_12 rfl ?_
    refine Rk.sp (G_iconst (pc := 13) dX8_fits_13) ?_
    refine Rk.isa_n (pc := 14) 3 (L' := [some (vr 0), some (vi a1), some (vi 0), some (vi (-1)), none, none, none]) rfl (Nat.le_of_ble_eq_true rfl) rfl dX8_fits_14 rfl ?_
    refine Rk.sp (G_iconst (pc := 15) dX8_fits_15) ?_
    refine Rk.isa_w (pc := 16) 4 (L' := [some (vr 0), some (vi a1), some (vi 0), some (vi (-1)), some (vi (-1)), none, none]) (Nat.le_of_ble_eq_true rfl) rfl dX8_fits_16 rfl ?_
    refine Rk.sp (G_bipush (pc := 18) dX8_fits_18 rfl) ?_
    refine Rk.isa_w (pc := 20) 5 (L' := [some (vr 0), some (vi a1), some (vi 0), some (vi (-1)), some (vi (-1)), some (vi 60), none]) (Nat.le_of_ble_eq_true rfl) rfl dX8_fits_20 rfl ?_
    refine Rk.loop (pc := 22) (B := (fun p => Td_fits_22_b a1 σ p.1 p.2.1 p.2.2.1 p.2.2.2)) (fun p => inR p.1 ∧ inR p.2.1 ∧ inR p.2.2.1 ∧ inR p.2.2.2) (fun p => [some (vr 0), some (vi a1), some (vi p.1), some (vi p.2.1), some (vi p.2.2.1), some (vi p.2.2.2), none]) (fun p => (ms false μ σ)) (fun p hp => ?_) (0, (-1), (-1), 60) ⟨(inRk 0 rfl), (inRk (-1) rfl), (inRk (-1) rfl), (inRk 60 rfl)⟩
    obtain ⟨v2_3, v3_4, v4_5, v5_6⟩ := p
    obtain ⟨hv2_3, hv3_4, hv4_5, hv5_6⟩ := hp
    try dsimp only
    unfold Td_fits_22_b
    refine Rk.sp (G_iload_w (pc := 22) 5 rfl dX8_fits_22) ?_
    refine Rk.sp (G_bipush (pc := 24) dX8_fits_24 rfl) ?_
    refine Rk.icmp_lt (pc := 26) (tgt := 80) dX8_fits_26 (nmI hv5_6) (nmI (inRk 10 rfl)) rfl (fun hc7 => ?_) (fun hc7 => ?_)
    · refine Rk.sp (G_iload_n (pc := 80) 1 rfl rfl dX8_fits_80) ?_
      refine Rk.if_ne (pc := 81) (tgt := 86) dX8_fits_81 (nmI ha1) rfl (fun hc8 => ?_) (fun hc8 => ?_)
      · refine Rk.sp (G_iload_n (pc := 84) 2 rfl rfl dX8_fits_84) ?_
        exact Rk.end_ (fun h => G_ireturn (pc := 85) rfl dX8_fits_85 (q_RI h hv2_3))
      · refine Rk.sp (G_iload_n (pc := 86) 1 rfl rfl dX8_fits_86) ?_
        refine Rk.sp (G_iconst (pc := 87) dX8_fits_87) ?_
        refine Rk.icmp_ne (pc := 88) (tgt := 95) dX8_fits_88 (nmI ha1) (nmI (inRk 1 rfl)) rfl (fun hc9 => ?_) (fun hc9 => ?_)
        · refine Rk.sp (G_iload_n (pc := 91) 3 rfl rfl dX8_fits_91) ?_
          refine Rk.sp (G_goto (pc := 92) (tgt := 97) dX8_fits_92 rfl) ?_
          exact Rk.end_ (fun h => G_ireturn (pc := 97) rfl dX8_fits_97 (q_RI h hv3_4))
        · refine Rk.sp (G_iload_w (pc := 95) 4 rfl dX8_fits_95) ?_
          exact Rk.end_ (fun h => G_ireturn (pc := 97) rfl dX8_fits_97 (q_RI h hv4_5))
    · refine Rk.sp (G_iconst (pc := 29) dX8_fits_29) ?_
      refine Rk.isa_w (pc := 30) 6 (L' := [some (vr 0), some (vi a1), some (vi v2_3), some (vi v3_4), some (vi v4_5), some (vi v5_6), some (vi 0)]) (Nat.le_of_ble_eq_true rfl) rfl dX8_fits_30 rfl ?_
      refine Rk.loop (pc := 32) (B := (fun p => Td_fits_32_b v5_6 σ p.1 p.2.1 p.2.2.1 p.2.2.2)) (fun p => inR p.1 ∧ inR p.2.1 ∧ inR p.2.2.1 ∧ inR p.2.2.2) (fun p => [some (vr 0), some (vi a1), some (vi p.1), some (vi p.2.1), some (vi p.2.2.1), some (vi v5_6), some (vi p.2.2.2)]) (fun p => (ms false μ σ)) (fun p hp => ?_) (v2_3, v3_4, v4_5, 0) ⟨hv2_3, hv3_4, hv4_5, (inRk 0 rfl)⟩
      obtain ⟨v2_10, v3_11, v4_12, v6_13⟩ := p
      obtain ⟨hv2_10, hv3_11, hv4_12, hv6_13⟩ := hp
      try dsimp only
      unfold Td_fits_32_b
      refine Rk.sp (G_iload_w (pc := 32) 6 rfl dX8_fits_32) ?_
      refine Rk.sp (G_iload_w (pc := 34) 5 rfl dX8_fits_34) ?_
      refine Rk.icmp_ge (pc := 36) (tgt := 74) dX8_fits_36 (nmI hv6_13) (nmI hv5_6) rfl (fun hc14 => ?_) (fun hc14 => ?_)
      · refine Rk.sp (G_aload_n (pc := 39) 0 rfl rfl dX8_fits_39) ?_
        refine Rk.gR (pc := 40) 1 flX8_12 cl8 rfl lb0 dX8_fits_40 ?_
        refine Rk.sp (G_iload_w (pc := 43) 5 rfl dX8_fits_43) ?_
        refine Rk.sp (G_iload_w (pc := 45) 6 rfl dX8_fits_45) ?_
        refine Rk.cRZ (pc := 47) (Cl.v [vi v5_6, vi v6_13] [] dX8_fits_47 ckX8_294 lb1 rfl rfl rfl (Nat.le_of_ble_eq_true rfl) (Nat.le_of_ble_eq_true rfl)) (k_Wo_busFits 1 v5_6 v6_13 σ lb1 hv5_6 hv6_13 hok) (fun r15 hr15 => ?_)
        refine Rk.if_eq (pc := 50) (tgt := 68) dX8_fits_50 (nmI (inZ.R hr15)) rfl (fun hc16 => ?_) (fun hc16 => ?_)
        · refine Rk.inc (pc := 68) 6 (fun v6_17 => [some (vr 0), some (vi a1), some (vi v2_10), some (vi v3_11), some (vi v4_12), some (vi v5_6), some (vi v6_17)]) rfl (Nat.le_of_ble_eq_true rfl) rfl dX8_fits_68 (fun _ => rfl) (fun v6_17 hv6_17 => ?_)
          refine Rk.sp (G_goto (pc := 71) (tgt := 32) dX8_fits_71 rfl) ?_
          exact Rk.end_ (fun h => h ⟨hv2_10, hv3_11, hv4_12, hv6_17⟩)
        · refine Rk.inc (pc := 53) 2 (fun v2_18 => [some (vr 0), some (vi a1), some (vi v2_18), some (vi v3_11), some (vi v4_12), some (vi v5_6), some (vi v6_13)]) rfl (Nat.le_of_ble_eq_true rfl) rfl dX8_fits_53 (fun _ => rfl) (fun v2_18 hv2_18 => ?_)
          refine Rk.sp (G_iload_n (pc := 56) 3 rfl rfl dX8_fits_56) ?_
          refine Rk.sp (G_iconst (pc := 57) dX8_fits_57) ?_
          refine Rk.icmp_ne (pc := 58) (tgt := 68) dX8_fits_58 (nmI hv3_11) (nmI (inRk (-1) rfl)) rfl (fun hc19 => ?_) (fun hc19 => ?_)
          · refine Rk.sp (G_iload_w (pc := 61) 5 rfl dX8_fits_61) ?_
            refine Rk.isa_n (pc := 63) 3 (L' := [some (vr 0), some (vi a1), some (vi v2_18), some (vi v5_6), some (vi v4_12), some (vi v5_6), some (vi v6_13)]) rfl (Nat.le_of_ble_eq_true rfl) rfl dX8_fits_63 rfl ?_
            refine Rk.sp (G_iload_w (pc := 64) 6 rfl dX8_fits_64) ?_
            refine Rk.isa_w (pc := 66) 4 (L' := [some (vr 0), some (vi a1), some (vi v2_18), some (vi v5_6), some (vi v6_13), some (vi v5_6), some (vi v6_13)]) (Nat.le_of_ble_eq_true rfl) rfl dX8_fits_66 rfl ?_
            refine Rk.inc (pc := 68) 6 (fun v6_20 => [some (vr 0), some (vi a1), some (vi v2_18), some (vi v5_6), some (vi v6_13), some (vi v5_6), some (vi v6_20)]) rfl (Nat.le_of_ble_eq_true rfl) rfl dX8_fits_68 (fun _ => rfl) (fun v6_20 hv6_20 => ?_)
            refine Rk.sp (G_goto (pc := 71) (tgt := 32) dX8_fits_71 rfl) ?_
            exact Rk.end_ (fun h => h ⟨hv2_18, hv5_6, hv6_13, hv6_20⟩)
          · refine Rk.inc (pc := 68) 6 (fun v6_21 => [some (vr 0), some (vi a1), some (vi v2_18), some (vi v3_11), some (vi v4_12), some (vi v5_6), some (vi v6_21)]) rfl (Nat.le_of_ble_eq_true rfl) rfl dX8_fits_68 (fun _ => rfl) (fun v6_21 hv6_21 => ?_)
            refine Rk.sp (G_goto (pc := 71) (tgt := 32) dX8_fits_71 rfl) ?_
            exact Rk.end_ (fun h => h ⟨hv2_18, hv3_11, hv4_12, hv6_21⟩)
      · refine Rk.inc (pc := 74) 5 (fun v5_22 => [some (vr 0), some (vi a1), some (vi v2_10), some (vi v3_11), some (vi v4_12), some (vi v5_22), some (vi v6_13)]) rfl (Nat.le_of_ble_eq_true rfl) rfl dX8_fits_74 (fun _ => rfl) (fun v5_22 hv5_22 => ?_)
        refine Rk.sp (G_goto (pc := 77) (tgt := 22) dX8_fits_77 rfl) ?_
        refine Rk.fg [true, true, true, true, true, true, false] (L' := [some (vr 0), some (vi a1), some (vi v2_10), some (vi v3_11), some (vi v4_12), some (vi v5_22), none]) rfl ?_
        exact Rk.end_ (fun h => h ⟨hv2_10, hv3_11, hv4_12, hv5_22⟩)
theorem k_Gl_heapWorth {κ : Kx} {b : Bool} {μ σ : Sg} (a1 : Int) (a2 : Int) (ha1 : inR a1) (ha2 : inR a2) : CtRI κ mX1_heapWorth 0 [vi a1, vi a2] b μ σ (Gl_heapWorth a1 a2) := by
  intro r h
  refine con_of (by decide) (Nat.le_of_ble_eq_true rfl) 0 ?_
  refine (?_ : Rk κ mX1_heapWorth _ 0 [some (vi a1), some (vi a2)] [] (ms b μ σ) (Gl_heapWorth a1 a2) (fun a => a = r)) _ h rfl
  unfold Gl_heapWorth
  refine Rk.sp (G_iload_n (pc := 0) 1 rfl rfl dX1_heapWorth_0) ?_
  refine Rk.if_lt (pc := 1) (tgt := 12) dX1_heapWorth_1 (nmI ha2) rfl (fun hc1 => ?_) (fun hc1 => ?_)
  · refine Rk.sp (G_iconst (pc := 12) dX1_heapWorth_12) ?_
    exact Rk.end_ (fun h => G_ireturn (pc := 13) rfl dX1_heapWorth_13 (q_RI h (inRk 0 rfl)))
  · refine Rk.sp (G_iload_n (pc := 4) 0 rfl rfl dX1_heapWorth_4) ?_
    refine Rk.sp (G_iload_n (pc := 5) 1 rfl rfl dX1_heapWorth_5) ?_
    refine Rk.sp (G_iconst (pc := 6) dX1_heapWorth_6) ?_
    refine Rk.sp (G_iadd (pc := 7) dX1_heapWorth_7) ?_
    refine Rk.qnz (fun hz2 => ?_)
    refine Rk.sp (G_irem (pc := 8) dX1_heapWorth_8 (nmI ha1) (nmW _) hz2) ?_
    refine Rk.sp (G_goto (pc := 9) (tgt := 13) dX1_heapWorth_9 rfl) ?_
    exact Rk.end_ (fun h => G_ireturn (pc := 13) rfl dX1_heapWorth_13 (q_RI h (tmodR ha1)))
theorem k_Gl_gameWorth {κ : Kx} {μ : Sg} (a1 : Nat) (σ : Sg) (ha1 : LB false a1 (1, 6)) (hok : okS σ) : CtRI κ mX1_gameWorth 1 [vr 166, vr a1] false μ σ (Gl_gameWorth a1 σ) := by
  intro r h
  refine con_of (by decide) (Nat.le_of_ble_eq_true rfl) 2 ?_
  refine (?_ : Rk κ mX1_gameWorth _ 0 [some (vr 166), some (vr a1), none, none] [] (ms false μ σ) (Gl_gameWorth a1 σ) (fun a => a = r)) _ h rfl
  unfold Gl_gameWorth
  refine Rk.sp (G_iconst (pc := 0) dX1_gameWorth_0) ?_
  refine Rk.isa_n (pc := 1) 2 (L' := [some (vr 166), some (vr a1), some (vi 0), none]) rfl (Nat.le_of_ble_eq_true rfl) rfl dX1_gameWorth_1 rfl ?_
  refine Rk.sp (G_iconst (pc := 2) dX1_gameWorth_2) ?_
  refine Rk.isa_n (pc := 3) 3 (L' := [some (vr 166), some (vr a1), some (vi 0), some (vi 0)]) rfl (Nat.le_of_ble_eq_true rfl) rfl dX1_gameWorth_3 rfl ?_
  refine Rk.fg [false, true, true, true] (L' := [none, some (vr a1), some (vi 0), some (vi 0)]) rfl ?_
  refine Rk.loop (pc := 4) (B := (fun p => Gl_gameWorth_4_b σ a1 p.1 p.2)) (fun p => inR p.1 ∧ inR p.2) (fun p => [none, some (vr a1), some (vi p.1), some (vi p.2)]) (fun p => (ms false μ σ)) (fun p hp => ?_) (0, 0) ⟨(inRk 0 rfl), (inRk 0 rfl)⟩
  obtain ⟨v2_1, v3_2⟩ := p
  obtain ⟨hv2_1, hv3_2⟩ := hp
  try dsimp only
  unfold Gl_gameWorth_4_b
  refine Rk.sp (G_iload_n (pc := 4) 3 rfl rfl dX1_gameWorth_4) ?_
  refine Rk.sp (G_aload_n (pc := 5) 1 rfl rfl dX1_gameWorth_5) ?_
  refine Rk.gI (pc := 6) flX1_26 cl6 rfl ha1 dX1_gameWorth_6 ?_
  refine Rk.icmp_ge (pc := 9) (tgt := 44) dX1_gameWorth_9 (nmI hv3_2) (nmI (hok _ _)) rfl (fun hc3 => ?_) (fun hc3 => ?_)
  · refine Rk.sp (G_aload_n (pc := 12) 1 rfl rfl dX1_gameWorth_12) ?_
    refine Rk.sp (G_iload_n (pc := 13) 3 rfl rfl dX1_gameWorth_13) ?_
    refine Rk.cRZ (pc := 14) (Cl.v [vi v3_2] [] dX1_gameWorth_14 ckX1_65 ha1 rfl rfl rfl (Nat.le_of_ble_eq_true rfl) (Nat.le_of_ble_eq_true rfl)) (k_Ta_isOpen a1 v3_2 σ ha1 hv3_2 hok) (fun r4 hr4 => ?_)
    refine Rk.if_eq (pc := 17) (tgt := 38) dX1_gameWorth_17 (nmI (inZ.R hr4)) rfl (fun hc5 => ?_) (fun hc5 => ?_)
    · refine Rk.inc (pc := 38) 3 (fun v3_6 => [none, some (vr a1), some (vi v2_1), some (vi v3_6)]) rfl (Nat.le_of_ble_eq_true rfl) rfl dX1_gameWorth_38 (fun _ => rfl) (fun v3_6 hv3_6 => ?_)
      refine Rk.sp (G_goto (pc := 41) (tgt := 4) dX1_gameWorth_41 rfl) ?_
      exact Rk.end_ (fun h => h ⟨hv2_1, hv3_6⟩)
    · refine Rk.sp (G_iload_n (pc := 20) 2 rfl rfl dX1_gameWorth_20) ?_
      refine Rk.sp (G_aload_n (pc := 21) 1 rfl rfl dX1_gameWorth_21) ?_
      refine Rk.gR (pc := 22) (a1 + 7) flX1_30 cl6 rfl ha1 dX1_gameWorth_22 ?_
      refine Rk.sp (G_iload_n (pc := 25) 3 rfl rfl dX1_gameWorth_25) ?_
      refine Rk.al (pc := 26) (LBt ha1 7 (by decide)) dX1_gameWorth_26 (fun hi7 => ?_)
      refine Rk.sp (G_aload_n (pc := 27) 1 rfl rfl dX1_gameWorth_27) ?_
      refine Rk.gR (pc := 28) (a1 + 8) flX1_33 cl6 rfl ha1 dX1_gameWorth_28 ?_
      refine Rk.sp (G_iload_n (pc := 31) 3 rfl rfl dX1_gameWorth_31) ?_
      refine Rk.al (pc := 32) (LBt ha1 8 (by decide)) dX1_gameWorth_32 (fun hi8 => ?_)
      refine Rk.cRI (pc := 33) (Cl.s [vi (σ (a1 + 7) (v3_2).toNat), vi (σ (a1 + 8) (v3_2).toNat)] [vi v2_1] dX1_gameWorth_33 ckX1_68 rfl rfl (Nat.le_of_ble_eq_true rfl) (Nat.le_of_ble_eq_true rfl)) (k_Gl_heapWorth (σ (a1 + 7) (v3_2).toNat) (σ (a1 + 8) (v3_2).toNat) (hok _ _) (hok _ _)) (fun r9 hr9 => ?_)
      refine Rk.sp (G_ixor (pc := 36) dX1_gameWorth_36) ?_
      refine Rk.ist_n (pc := 37) 2 (fun v2_10 => [none, some (vr a1), some (vi v2_10), some (vi v3_2)]) rfl (Nat.le_of_ble_eq_true rfl) rfl dX1_gameWorth_37 (nmI (bXor_R _ _)) (fun _ => rfl) (fun v2_10 hv2_10 => ?_)
      refine Rk.inc (pc := 38) 3 (fun v3_11 => [none, some (vr a1), some (vi v2_10), some (vi v3_11)]) rfl (Nat.le_of_ble_eq_true rfl) rfl dX1_gameWorth_38 (fun _ => rfl) (fun v3_11 hv3_11 => ?_)
      refine Rk.sp (G_goto (pc := 41) (tgt := 4) dX1_gameWorth_41 rfl) ?_
      exact Rk.end_ (fun h => h ⟨hv2_10, hv3_11⟩)
  · refine Rk.sp (G_iload_n (pc := 44) 2 rfl rfl dX1_gameWorth_44) ?_
    exact Rk.end_ (fun h => G_ireturn (pc := 45) rfl dX1_gameWorth_45 (q_RI h hv2_1))
theorem k_Gl_winningTake {κ : Kx} {μ : Sg} (a1 : Nat) (a2 : Int) (a3 : Int) (σ : Sg) (ha1 : LB false a1 (1, 6)) (ha2 : inR a2) (ha3 : inR a3) (hok : okS σ) : CtRI κ mX1_winningTake 1 [vr 166, vr a1, vi a2, vi a3] false μ σ (Gl_winningTake a1 a2 a3 σ) := by
  intro r h
  refine con_of (by decide) (Nat.le_of_ble_eq_true rfl) 3 ?_
  refine (?_ : Rk κ mX1_winningTake _ 0 [some (vr 166), some (vr a1), some (vi a2), some (vi a3), none, none, none] [] (ms false μ σ) (Gl_winningTake a1 a2 a3 σ) (fun a => a = r)) _ h rfl
  unfold Gl_winningTake
  refine Rk.sp (G_iload_n (pc := 0) 3 rfl rfl dX1_winningTake_0) ?_
  refine Rk.sp (G_aload_n (pc := 1) 1 rfl rfl dX1_winningTake_1) ?_
  refine Rk.gR (pc := 2) (a1 + 7) flX1_30 cl6 rfl ha1 dX1_winningTake_2 ?_
  refine Rk.sp (G_iload_n (pc := 5) 2 rfl rfl dX1_winningTake_5) ?_
  refine Rk.al (pc := 6) (LBt ha1 7 (by decide)) dX1_winningTake_6 (fun hi1 => ?_)
  refine Rk.sp (G_aload_n (pc := 7) 1 rfl rfl dX1_winningTake_7) ?_
  refine Rk.gR (pc := 8) (a1 + 8) flX1_33 cl6 rfl ha1 dX1_winningTake_8 ?_
  refine Rk.sp (G_iload_n (pc := 11) 2 rfl rfl dX1_winningTake_11) ?_
  refine Rk.al (pc := 12) (LBt ha1 8 (by decide)) dX1_winningTake_12 (fun hi2 => ?_)
  refine Rk.cRI (pc := 13) (Cl.s [vi (σ (a1 + 7) (a2).toNat), vi (σ (a1 + 8) (a2).toNat)] [vi a3] dX1_winningTake_13 ckX1_68 rfl rfl (Nat.le_of_ble_eq_true rfl) (Nat.le_of_ble_eq_true rfl)) (k_Gl_heapWorth (σ (a1 + 7) (a2).toNat) (σ (a1 + 8) (a2).toNat) (hok _ _) (hok _ _)) (fun r3 hr3 => ?_)
  refine Rk.sp (G_ixor (pc := 16) dX1_winningTake_16) ?_
  refine Rk.ist_w (pc := 17) 4 (fun v4_4 => [some (vr 166), some (vr a1), some (vi a2), some (vi a3), some (vi v4_4), none, none]) (Nat.le_of_ble_eq_true rfl) rfl dX1_winningTake_17 (nmI (bXor_R _ _)) (fun _ => rfl) (fun v4_4 hv4_4 => ?_)
  refine Rk.sp (G_aload_n (pc := 19) 1 rfl rfl dX1_winningTake_19) ?_
  refine Rk.gR (pc := 20) (a1 + 8) flX1_33 cl6 rfl ha1 dX1_winningTake_20 ?_
  refine Rk.sp (G_iload_n (pc := 23) 2 rfl rfl dX1_winningTake_23) ?_
  refine Rk.al (pc := 24) (LBt ha1 8 (by decide)) dX1_winningTake_24 (fun hi5 => ?_)
  refine Rk.sp (G_iconst (pc := 25) dX1_winningTake_25) ?_
  refine Rk.sp (G_iadd (pc := 26) dX1_winningTake_26) ?_
  refine Rk.sp (G_aload_n (pc := 27) 1 rfl rfl dX1_winningTake_27) ?_
  refine Rk.gR (pc := 28) (a1 + 7) flX1_30 cl6 rfl ha1 dX1_winningTake_28 ?_
  refine Rk.sp (G_iload_n (pc := 31) 2 rfl rfl dX1_winningTake_31) ?_
  refine Rk.al (pc := 32) (LBt ha1 7 (by decide)) dX1_winningTake_32 (fun hi6 => ?_)
  refine Rk.sp (Go.n1 (nmW _)) ?_
  refine Rk.mmin (pc := 33) cmmX1_71 (wrR _) (hok _ _) (Nat.le_of_ble_eq_true rfl) (Nat.le_of_ble_eq_true rfl) dX1_winningTake_33 (fun r7 hr7 => ?_)
  refine Rk.isa_w (pc := 36) 5 (L' := [some (vr 166), some (vr a1), some (vi a2), some (vi a3), some (vi v4_4), some (vi r7), none]) (Nat.le_of_ble_eq_true rfl) rfl dX1_winningTake_36 rfl ?_
  refine Rk.sp (G_iconst (pc := 38) dX1_winningTake_38) ?_
  refine Rk.isa_w (pc := 39) 6 (L' := [some (vr 166), some (vr a1), some (vi a2), some (vi a3), some (vi v4_4), some (vi r7), some (vi 1)]) (Nat.le_of_ble_eq_true rfl) rfl dX1_winningTake_39 rfl ?_
  refine Rk.fg [false, true, true, false, true, true, true] (L' := [none, some (vr a1), some (vi a2), none, some (vi v4_4), some (vi r7), some (vi 1)]) rfl ?_
  refine Rk.loop (pc := 41) (B := (fun p => Gl_winningTake_41_b r7 a2 σ a1 v4_4 p)) (fun p => inR p) (fun p => [none, some (vr a1), some (vi a2), none, some (vi v4_4), some (vi r7), some (vi p)]) (fun p => (ms false μ σ)) (fun p hp => ?_) 1 (inRk 1 rfl)
  revert hp; revert p; intro v6_8 hv6_8
  try dsimp only
  unfold Gl_winningTake_41_b
  refine Rk.sp (G_iload_w (pc := 41) 6 rfl dX1_winningTake_41) ?_
  refine Rk.sp (G_iload_w (pc := 43) 5 rfl dX1_winningTake_43) ?_
  refine Rk.icmp_gt (pc := 45) (tgt := 80) dX1_winningTake_45 (nmI hv6_8) (nmI hr7) rfl (fun hc9 => ?_) (fun hc9 => ?_)
  · refine Rk.sp (G_iconst (pc := 80) dX1_winningTake_80) ?_
    exact Rk.end_ (fun h => G_ireturn (pc := 81) rfl dX1_winningTake_81 (q_RI h (inRk (-1) rfl)))
  · refine Rk.sp (G_aload_n (pc := 48) 1 rfl rfl dX1_winningTake_48) ?_
    refine Rk.gR (pc := 49) (a1 + 7) flX1_30 cl6 rfl ha1 dX1_winningTake_49 ?_
    refine Rk.sp (G_iload_n (pc := 52) 2 rfl rfl dX1_winningTake_52) ?_
    refine Rk.al (pc := 53) (LBt ha1 7 (by decide)) dX1_winningTake_53 (fun hi10 => ?_)
    refine Rk.sp (G_iload_w (pc := 54) 6 rfl dX1_winningTake_54) ?_
    refine Rk.sp (G_isub (pc := 56) dX1_winningTake_56) ?_
    refine Rk.sp (G_aload_n (pc := 57) 1 rfl rfl dX1_winningTake_57) ?_
    refine Rk.gR (pc := 58) (a1 + 8) flX1_33 cl6 rfl ha1 dX1_winningTake_58 ?_
    refine Rk.sp (G_iload_n (pc := 61) 2 rfl rfl dX1_winningTake_61) ?_
    refine Rk.al (pc := 62) (LBt ha1 8 (by decide)) dX1_winningTake_62 (fun hi11 => ?_)
    refine Rk.sp (Go.n1 (nmW _)) ?_
    refine Rk.cRI (pc := 63) (Cl.s [vi (wr ((σ (a1 + 7) (a2).toNat) - v6_8)), vi (σ (a1 + 8) (a2).toNat)] [] dX1_winningTake_63 ckX1_68 rfl rfl (Nat.le_of_ble_eq_true rfl) (Nat.le_of_ble_eq_true rfl)) (k_Gl_heapWorth (wr ((σ (a1 + 7) (a2).toNat) - v6_8)) (σ (a1 + 8) (a2).toNat) (wrR _) (hok _ _)) (fun r12 hr12 => ?_)
    refine Rk.sp (G_iload_w (pc := 66) 4 rfl dX1_winningTake_66) ?_
    refine Rk.icmp_ne (pc := 68) (tgt := 74) dX1_winningTake_68 (nmI hr12) (nmI hv4_4) rfl (fun hc13 => ?_) (fun hc13 => ?_)
    · refine Rk.sp (G_iload_w (pc := 71) 6 rfl dX1_winningTake_71) ?_
      exact Rk.end_ (fun h => G_ireturn (pc := 73) rfl dX1_winningTake_73 (q_RI h hv6_8))
    · refine Rk.inc (pc := 74) 6 (fun v6_14 => [none, some (vr a1), some (vi a2), none, some (vi v4_4), some (vi r7), some (vi v6_14)]) rfl (Nat.le_of_ble_eq_true rfl) rfl dX1_winningTake_74 (fun _ => rfl) (fun v6_14 hv6_14 => ?_)
      refine Rk.sp (G_goto (pc := 77) (tgt := 41) dX1_winningTake_77 rfl) ?_
      exact Rk.end_ (fun h => h hv6_14)
theorem k_Td_game {κ : Kx} {μ : Sg} (a1 : Int) (σ : Sg) (ha1 : inR a1) (hok : okS σ) : CtRI κ mX8_game 2 [vr 0, vi a1] false μ σ (Td_game a1 σ) := by
  intro r h
  refine con_of (by decide) (Nat.le_of_ble_eq_true rfl) 4 ?_
  refine (?_ : Rk κ mX8_game _ 0 [some (vr 0), some (vi a1), none, none, none, none] [] (ms false μ σ) (Td_game a1 σ) (fun a => a = r)) _ h rfl
  unfold Td_game
  refine Rk.sp (G_iload_n (pc := 0) 1 rfl rfl dX8_game_0) ?_
  refine Rk.sp (G_iconst (pc := 1) dX8_game_1) ?_
  refine Rk.sp (G_iconst (pc := 2) dX8_game_2) ?_
  refine Rk.cRZ (pc := 3) (Cl.s [vi a1, vi 0, vi 1] [] dX8_game_3 ckX8_81 rfl rfl (Nat.le_of_ble_eq_true rfl) (Nat.le_of_ble_eq_true rfl)) (k_Td_within a1 0 1 ha1 (inRk 0 rfl) (inRk 1 rfl)) (fun r1 hr1 => ?_)
  refine Rk.if_ne (pc := 6) (tgt := 11) dX8_game_6 (nmI (inZ.R hr1)) rfl (fun hc2 => ?_) (fun hc2 => ?_)
  · refine Rk.sp (G_iconst (pc := 9) dX8_game_9) ?_
    exact Rk.end_ (fun h => G_ireturn (pc := 10) rfl dX8_game_10 (q_RI h (inRk (-1) rfl)))
  · refine Rk.sp (G_aload_n (pc := 11) 0 rfl rfl dX8_game_11) ?_
    refine Rk.gR (pc := 12) 1 flX8_12 cl8 rfl lb0 dX8_game_12 ?_
    refine Rk.gR (pc := 15) 2 flX8_71 cl7 rfl lb1 dX8_game_15 ?_
    refine Rk.ast_n (pc := 18) 2 (L' := [some (vr 0), some (vi a1), some (vr 2), none, none, none]) rfl (Nat.le_of_ble_eq_true rfl) rfl dX8_game_18 rfl ?_
    refine Rk.sp (G_aload_n (pc := 19) 0 rfl rfl dX8_game_19) ?_
    refine Rk.gR (pc := 20) 166 flX8_59 cl8 rfl lb0 dX8_game_20 ?_
    refine Rk.sp (G_aload_n (pc := 23) 2 rfl rfl dX8_game_23) ?_
    refine Rk.cRI (pc := 24) (Cl.v [vr 2] [] dX8_game_24 ckX8_298 lb166 rfl rfl rfl (Nat.le_of_ble_eq_true rfl) (Nat.le_of_ble_eq_true rfl)) (k_Gl_gameWorth 2 σ lb2 hok) (fun r3 hr3 => ?_)
    refine Rk.isa_n (pc := 27) 3 (L' := [some (vr 0), some (vi a1), some (vr 2), some (vi r3), none, none]) rfl (Nat.le_of_ble_eq_true rfl) rfl dX8_game_27 rfl ?_
    refine Rk.sp (G_iconst (pc := 28) dX8_game_28) ?_
    refine Rk.isa_w (pc := 29) 4 (L' := [some (vr 0), some (vi a1), some (vr 2), some (vi r3), some (vi 0), none]) (Nat.le_of_ble_eq_true rfl) rfl dX8_game_29 rfl ?_
    refine Rk.loop (pc := 31) (B := (fun p => Td_game_31_b σ r3 a1 p)) (fun p => inR p) (fun p => [some (vr 0), some (vi a1), some (vr 2), some (vi r3), some (vi p), none]) (fun p => (ms false μ σ)) (fun p hp => ?_) 0 (inRk 0 rfl)
    revert hp; revert p; intro v4_4 hv4_4
    try dsimp only
    unfold Td_game_31_b
    refine Rk.sp (G_iload_w (pc := 31) 4 rfl dX8_game_31) ?_
    refine Rk.sp (G_aload_n (pc := 33) 2 rfl rfl dX8_game_33) ?_
    refine Rk.gI (pc := 34) flX8_138 cl6 rfl lb2 dX8_game_34 ?_
    refine Rk.icmp_ge (pc := 37) (tgt := 94) dX8_game_37 (nmI hv4_4) (nmI (hok _ _)) rfl (fun hc5 => ?_) (fun hc5 => ?_)
    · refine Rk.sp (G_iload_n (pc := 40) 3 rfl rfl dX8_game_40) ?_
      refine Rk.if_eq (pc := 41) (tgt := 94) dX8_game_41 (nmI hr3) rfl (fun hc6 => ?_) (fun hc6 => ?_)
      · refine Rk.sp (G_iconst (pc := 94) dX8_game_94) ?_
        exact Rk.end_ (fun h => G_ireturn (pc := 95) rfl dX8_game_95 (q_RI h (inRk (-1) rfl)))
      · refine Rk.sp (G_aload_n (pc := 44) 2 rfl rfl dX8_game_44) ?_
        refine Rk.sp (G_iload_w (pc := 45) 4 rfl dX8_game_45) ?_
        refine Rk.cRZ (pc := 47) (Cl.v [vi v4_4] [] dX8_game_47 ckX8_123 lb2 rfl rfl rfl (Nat.le_of_ble_eq_true rfl) (Nat.le_of_ble_eq_true rfl)) (k_Ta_isOpen 2 v4_4 σ lb2 hv4_4 hok) (fun r7 hr7 => ?_)
        refine Rk.join (P := fun p => inR p) (pcj := 68) (fun p => [some (vr 0), some (vi a1), some (vr 2), some (vi r3), some (vi v4_4), none]) (fun p => [vi p]) (fun p => (ms false μ σ)) ?_ (fun p hp => ?_)
        · refine Rk.if_eq (pc := 50) (tgt := 67) dX8_game_50 (nmI (inZ.R hr7)) rfl (fun hc8 => ?_) (fun hc8 => ?_)
          · refine Rk.sp (G_iconst (pc := 67) dX8_game_67) ?_
            exact Rk.end_ (fun h => h (inRk (-1) rfl))
          · refine Rk.sp (G_aload_n (pc := 53) 0 rfl rfl dX8_game_53) ?_
            refine Rk.gR (pc := 54) 166 flX8_59 cl8 rfl lb0 dX8_game_54 ?_
            refine Rk.sp (G_aload_n (pc := 57) 2 rfl rfl dX8_game_57) ?_
            refine Rk.sp (G_iload_w (pc := 58) 4 rfl dX8_game_58) ?_
            refine Rk.sp (G_iload_n (pc := 60) 3 rfl rfl dX8_game_60) ?_
            refine Rk.cRI (pc := 61) (Cl.v [vr 2, vi v4_4, vi r3] [] dX8_game_61 ckX8_302 lb166 rfl rfl rfl (Nat.le_of_ble_eq_true rfl) (Nat.le_of_ble_eq_true rfl)) (k_Gl_winningTake 2 v4_4 r3 σ lb2 hv4_4 hr3 hok) (fun r10 hr10 => ?_)
            refine Rk.sp (G_goto (pc := 64) (tgt := 68) dX8_game_64 rfl) ?_
            exact Rk.end_ (fun h => h hr10)
        · revert hp; revert p; intro t9 ht9
          try dsimp only
          refine Rk.isa_w (pc := 68) 5 (L' := [some (vr 0), some (vi a1), some (vr 2), some (vi r3), some (vi v4_4), some (vi t9)]) (Nat.le_of_ble_eq_true rfl) rfl dX8_game_68 rfl ?_
          refine Rk.sp (G_iload_w (pc := 70) 5 rfl dX8_game_70) ?_
          refine Rk.sp (G_iconst (pc := 72) dX8_game_72) ?_
          refine Rk.icmp_eq (pc := 73) (tgt := 88) dX8_game_73 (nmI ht9) (nmI (inRk (-1) rfl)) rfl (fun hc11 => ?_) (fun hc11 => ?_)
          · refine Rk.inc (pc := 88) 4 (fun v4_12 => [some (vr 0), some (vi a1), some (vr 2), some (vi r3), some (vi v4_12), some (vi t9)]) rfl (Nat.le_of_ble_eq_true rfl) rfl dX8_game_88 (fun _ => rfl) (fun v4_12 hv4_12 => ?_)
            refine Rk.sp (G_goto (pc := 91) (tgt := 31) dX8_game_91 rfl) ?_
            refine Rk.fg [true, true, true, true, true, false] (L' := [some (vr 0), some (vi a1), some (vr 2), some (vi r3), some (vi v4_12), none]) rfl ?_
            exact Rk.end_ (fun h => h hv4_12)
          · refine Rk.sp (G_iload_n (pc := 76) 1 rfl rfl dX8_game_76) ?_
            refine Rk.if_ne (pc := 77) (tgt := 85) dX8_game_77 (nmI ha1) rfl (fun hc13 => ?_) (fun hc13 => ?_)
            · refine Rk.sp (G_iload_w (pc := 80) 4 rfl dX8_game_80) ?_
              refine Rk.sp (G_goto (pc := 82) (tgt := 87) dX8_game_82 rfl) ?_
              exact Rk.end_ (fun h => G_ireturn (pc := 87) rfl dX8_game_87 (q_RI h hv4_4))
            · refine Rk.sp (G_iload_w (pc := 85) 5 rfl dX8_game_85) ?_
              exact Rk.end_ (fun h => G_ireturn (pc := 87) rfl dX8_game_87 (q_RI h ht9))
    · refine Rk.sp (G_iconst (pc := 94) dX8_game_94) ?_
      exact Rk.end_ (fun h => G_ireturn (pc := 95) rfl dX8_game_95 (q_RI h (inRk (-1) rfl)))
theorem k_Ta_whoseIsLast {κ : Kx} {μ : Sg} (t0 : Nat) (σ : Sg) (ht0 : LB false t0 (1, 6)) (hok : okS σ) : CtRI κ mX6_whoseIsLast 0 [vr t0] false μ σ (Ta_whoseIsLast t0 σ) := by
  intro r h
  refine con_of (by decide) (Nat.le_of_ble_eq_true rfl) 1 ?_
  refine (?_ : Rk κ mX6_whoseIsLast _ 0 [some (vr t0), none] [] (ms false μ σ) (Ta_whoseIsLast t0 σ) (fun a => a = r)) _ h rfl
  unfold Ta_whoseIsLast
  refine Rk.sp (G_aload_n (pc := 0) 0 rfl rfl dX6_whoseIsLast_0) ?_
  refine Rk.gI (pc := 1) flX6_55 cl6 rfl ht0 dX6_whoseIsLast_1 ?_
  refine Rk.sp (G_iconst (pc := 4) dX6_whoseIsLast_4) ?_
  refine Rk.sp (G_isub (pc := 5) dX6_whoseIsLast_5) ?_
  refine Rk.ist_n (pc := 6) 1 (fun v1_1 => [some (vr t0), some (vi v1_1)]) rfl (Nat.le_of_ble_eq_true rfl) rfl dX6_whoseIsLast_6 (nmW _) (fun _ => rfl) (fun v1_1 hv1_1 => ?_)
  refine Rk.loop (pc := 7) (B := (fun p => Ta_whoseIsLast_7_b σ t0 p)) (fun p => inR p) (fun p => [some (vr t0), some (vi p)]) (fun p => (ms false μ σ)) (fun p hp => ?_) v1_1 hv1_1
  revert hp; revert p; intro v1_2 hv1_2
  try dsimp only
  unfold Ta_whoseIsLast_7_b
  refine Rk.sp (G_iload_n (pc := 7) 1 rfl rfl dX6_whoseIsLast_7) ?_
  refine Rk.if_lt (pc := 8) (tgt := 33) dX6_whoseIsLast_8 (nmI hv1_2) rfl (fun hc3 => ?_) (fun hc3 => ?_)
  · refine Rk.sp (G_iconst (pc := 33) dX6_whoseIsLast_33) ?_
    exact Rk.end_ (fun h => G_ireturn (pc := 34) rfl dX6_whoseIsLast_34 (q_RI h (inRk (-1) rfl)))
  · refine Rk.sp (G_aload_n (pc := 11) 0 rfl rfl dX6_whoseIsLast_11) ?_
    refine Rk.gR (pc := 12) (t0 + 11) flX6_42 cl6 rfl ht0 dX6_whoseIsLast_12 ?_
    refine Rk.sp (G_iload_n (pc := 15) 1 rfl rfl dX6_whoseIsLast_15) ?_
    refine Rk.al (pc := 16) (LBt ht0 11 (by decide)) dX6_whoseIsLast_16 (fun hi4 => ?_)
    refine Rk.if_ne (pc := 17) (tgt := 27) dX6_whoseIsLast_17 (nmI (hok _ _)) rfl (fun hc5 => ?_) (fun hc5 => ?_)
    · refine Rk.sp (G_aload_n (pc := 20) 0 rfl rfl dX6_whoseIsLast_20) ?_
      refine Rk.gR (pc := 21) (t0 + 4) flX6_21 cl6 rfl ht0 dX6_whoseIsLast_21 ?_
      refine Rk.sp (G_iload_n (pc := 24) 1 rfl rfl dX6_whoseIsLast_24) ?_
      refine Rk.al (pc := 25) (LBt ht0 4 (by decide)) dX6_whoseIsLast_25 (fun hi6 => ?_)
      exact Rk.end_ (fun h => G_ireturn (pc := 26) rfl dX6_whoseIsLast_26 (q_RI h (hok _ _)))
    · refine Rk.inc (pc := 27) 1 (fun v1_7 => [some (vr t0), some (vi v1_7)]) rfl (Nat.le_of_ble_eq_true rfl) rfl dX6_whoseIsLast_27 (fun _ => rfl) (fun v1_7 hv1_7 => ?_)
      refine Rk.sp (G_goto (pc := 30) (tgt := 7) dX6_whoseIsLast_30 rfl) ?_
      exact Rk.end_ (fun h => h hv1_7)
theorem k_Td_goes {κ : Kx} {μ : Sg} (a1 : Int) (a2 : Int) (σ : Sg) (ha1 : inR a1) (ha2 : inR a2) (hok : okS σ) : CtI κ mX8_goes 7 [vr 0, vi a1, vi a2] false μ σ (Td_goes a1 a2 σ) := by
  intro r τ h
  refine con_of (by decide) (Nat.le_of_ble_eq_true rfl) 0 ?_
  refine (?_ : Rk κ mX8_goes _ 0 [some (vr 0), some (vi a1), some (vi a2)] [] (ms false μ σ) (Td_goes a1 a2 σ) (fun a => a = (r, τ))) _ h rfl
  unfold Td_goes
  refine Rk.sp (G_iload_n (pc := 0) 1 rfl rfl dX8_goes_0) ?_
  refine Rk.sp (G_iconst (pc := 1) dX8_goes_1) ?_
  refine Rk.sp (G_sipush (pc := 2) dX8_goes_2 rfl) ?_
  refine Rk.cRZ (pc := 5) (Cl.s [vi a1, vi 1, vi 999] [] dX8_goes_5 ckX8_81 rfl rfl (Nat.le_of_ble_eq_true rfl) (Nat.le_of_ble_eq_true rfl)) (k_Td_within a1 1 999 ha1 (inRk 1 rfl) (inRk 999 rfl)) (fun r1 hr1 => ?_)
  refine Rk.if_eq (pc := 8) (tgt := 20) dX8_goes_8 (nmI (inZ.R hr1)) rfl (fun hc2 => ?_) (fun hc2 => ?_)
  · refine Rk.sp (G_bipush (pc := 20) dX8_goes_20 rfl) ?_
    exact Rk.end_ (fun h => G_ireturn (pc := 22) rfl dX8_goes_22 (q_I h (inRk (-2) rfl) hok))
  · refine Rk.sp (G_iload_n (pc := 11) 2 rfl rfl dX8_goes_11) ?_
    refine Rk.sp (G_iconst (pc := 12) dX8_goes_12) ?_
    refine Rk.sp (G_iconst (pc := 13) dX8_goes_13) ?_
    refine Rk.cRZ (pc := 14) (Cl.s [vi a2, vi 0, vi 3] [] dX8_goes_14 ckX8_81 rfl rfl (Nat.le_of_ble_eq_true rfl) (Nat.le_of_ble_eq_true rfl)) (k_Td_within a2 0 3 ha2 (inRk 0 rfl) (inRk 3 rfl)) (fun r3 hr3 => ?_)
    refine Rk.if_ne (pc := 17) (tgt := 23) dX8_goes_17 (nmI (inZ.R hr3)) rfl (fun hc4 => ?_) (fun hc4 => ?_)
    · refine Rk.sp (G_bipush (pc := 20) dX8_goes_20 rfl) ?_
      exact Rk.end_ (fun h => G_ireturn (pc := 22) rfl dX8_goes_22 (q_I h (inRk (-2) rfl) hok))
    · refine Rk.sp (G_aload_n (pc := 23) 0 rfl rfl dX8_goes_23) ?_
      refine Rk.cV (pc := 24) (Cl.v [] [] dX8_goes_24 ckX8_242 lb0 rfl rfl rfl (Nat.le_of_ble_eq_true rfl) (Nat.le_of_ble_eq_true rfl)) (k_Td_imagine σ hok) (fun σ5 hσ5 => ?_)
      refine Rk.sp (G_aload_n (pc := 27) 0 rfl rfl dX8_goes_27) ?_
      refine Rk.gR (pc := 28) 152 flX8_45 cl8 rfl lb0 dX8_goes_28 ?_
      refine Rk.sp (G_iload_n (pc := 31) 1 rfl rfl dX8_goes_31) ?_
      refine Rk.cV (pc := 32) (Cl.v [vi a1] [] dX8_goes_32 ckX8_147 lb152 rfl rfl rfl (Nat.le_of_ble_eq_true rfl) (Nat.le_of_ble_eq_true rfl)) (k_Co_go a1 σ5 ha1 hσ5) (fun σ6 hσ6 => ?_)
      refine Rk.sp (G_iload_n (pc := 35) 2 rfl rfl dX8_goes_35) ?_
      refine Rk.if_ne (pc := 36) (tgt := 47) dX8_goes_36 (nmI ha2) rfl (fun hc7 => ?_) (fun hc7 => ?_)
      · refine Rk.sp (G_aload_n (pc := 39) 0 rfl rfl dX8_goes_39) ?_
        refine Rk.gR (pc := 40) 153 flX8_52 cl8 rfl lb0 dX8_goes_40 ?_
        refine Rk.gI (pc := 43) flX8_138 cl6 rfl lb153 dX8_goes_43 ?_
        exact Rk.end_ (fun h => G_ireturn (pc := 46) rfl dX8_goes_46 (q_I h (hσ6 _ _) hσ6))
      · refine Rk.sp (G_iload_n (pc := 47) 2 rfl rfl dX8_goes_47) ?_
        refine Rk.sp (G_iconst (pc := 48) dX8_goes_48) ?_
        refine Rk.icmp_ne (pc := 49) (tgt := 62) dX8_goes_49 (nmI ha2) (nmI (inRk 1 rfl)) rfl (fun hc8 => ?_) (fun hc8 => ?_)
        · refine Rk.sp (G_aload_n (pc := 52) 0 rfl rfl dX8_goes_52) ?_
          refine Rk.gR (pc := 53) 153 flX8_52 cl8 rfl lb0 dX8_goes_53 ?_
          refine Rk.cRI (pc := 56) (Cl.v [] [] dX8_goes_56 ckX8_245 lb153 rfl rfl rfl (Nat.le_of_ble_eq_true rfl) (Nat.le_of_ble_eq_true rfl)) (k_Ta_whoseIsLast 153 σ6 lb153 hσ6) (fun r9 hr9 => ?_)
          refine Rk.sp (G_goto (pc := 59) (tgt := 73) dX8_goes_59 rfl) ?_
          exact Rk.end_ (fun h => G_ireturn (pc := 73) rfl dX8_goes_73 (q_I h hr9 hσ6))
        · refine Rk.sp (G_aload_n (pc := 62) 0 rfl rfl dX8_goes_62) ?_
          refine Rk.gR (pc := 63) 153 flX8_52 cl8 rfl lb0 dX8_goes_63 ?_
          refine Rk.gR (pc := 66) 154 flX8_95 cl6 rfl lb153 dX8_goes_66 ?_
          refine Rk.sp (G_iload_n (pc := 69) 2 rfl rfl dX8_goes_69) ?_
          refine Rk.sp (G_iconst (pc := 70) dX8_goes_70) ?_
          refine Rk.sp (G_isub (pc := 71) dX8_goes_71) ?_
          refine Rk.al (pc := 72) lb154 dX8_goes_72 (fun hi10 => ?_)
          exact Rk.end_ (fun h => G_ireturn (pc := 73) rfl dX8_goes_73 (q_I h (hσ6 _ _) hσ6))
theorem k_Sh_copyFrom {κ : Kx} {μ : Sg} (t0 : Nat) (a1 : Nat) (σ : Sg) (ht0 : LB false t0 (1, 5)) (ha1 : LB false a1 (1, 5)) (hok : okS σ) : CtV κ mX5_copyFrom 1 [vr t0, vr a1] false μ σ (Sh_copyFrom t0 a1 σ) := by
  intro τ h
  refine con_of (by decide) (Nat.le_of_ble_eq_true rfl) 0 ?_
  refine (?_ : Rk κ mX5_copyFrom _ 0 [some (vr t0), some (vr a1)] [] (ms false μ σ) (Sh_copyFrom t0 a1 σ) (fun a => a = τ)) _ h rfl
  unfold Sh_copyFrom
  refine Rk.sp (G_aload_n (pc := 0) 0 rfl rfl dX5_copyFrom_0) ?_
  refine Rk.sp (G_aload_n (pc := 1) 1 rfl rfl dX5_copyFrom_1) ?_
  refine Rk.gI (pc := 2) flX5_16 cl5 rfl ha1 dX5_copyFrom_2 ?_
  refine Rk.pI (pc := 5) hok (nmI (hok _ _)) flX5_16 cl5 rfl rfl ht0 dX5_copyFrom_5 (fun σ1 hσ1 => ?_)
  refine Rk.sp (G_aload_n (pc := 8) 0 rfl rfl dX5_copyFrom_8) ?_
  refine Rk.sp (G_aload_n (pc := 9) 1 rfl rfl dX5_copyFrom_9) ?_
  refine Rk.gI (pc := 10) flX5_20 cl5 rfl ha1 dX5_copyFrom_10 ?_
  refine Rk.pI (pc := 13) hσ1 (nmI (hσ1 _ _)) flX5_20 cl5 rfl rfl ht0 dX5_copyFrom_13 (fun σ2 hσ2 => ?_)
  refine Rk.sp (G_aload_n (pc := 16) 0 rfl rfl dX5_copyFrom_16) ?_
  refine Rk.sp (G_aload_n (pc := 17) 1 rfl rfl dX5_copyFrom_17) ?_
  refine Rk.gI (pc := 18) flX5_23 cl5 rfl ha1 dX5_copyFrom_18 ?_
  refine Rk.sp (G_aload_n (pc := 21) 0 rfl rfl dX5_copyFrom_21) ?_
  refine Rk.gR (pc := 22) (t0 + 1) flX5_7 cl5 rfl ht0 dX5_copyFrom_22 ?_
  refine Rk.sp (G_arrlen (pc := 25) ((LBs ht0 1 (by decide))).1 dX5_copyFrom_25) ?_
  refine Rk.mmin (pc := 26) cmmX5_29 (hσ2 _ _) (lnR _) (Nat.le_of_ble_eq_true rfl) (Nat.le_of_ble_eq_true rfl) dX5_copyFrom_26 (fun r3 hr3 => ?_)
  refine Rk.pI (pc := 29) hσ2 (nmI hr3) flX5_23 cl5 rfl rfl ht0 dX5_copyFrom_29 (fun σ4 hσ4 => ?_)
  refine Rk.sp (G_aload_n (pc := 32) 0 rfl rfl dX5_copyFrom_32) ?_
  refine Rk.sp (G_aload_n (pc := 33) 1 rfl rfl dX5_copyFrom_33) ?_
  refine Rk.gI (pc := 34) flX5_26 cl5 rfl ha1 dX5_copyFrom_34 ?_
  refine Rk.sp (G_aload_n (pc := 37) 0 rfl rfl dX5_copyFrom_37) ?_
  refine Rk.gR (pc := 38) (t0 + 2) flX5_13 cl5 rfl ht0 dX5_copyFrom_38 ?_
  refine Rk.sp (G_arrlen (pc := 41) ((LBs ht0 2 (by decide))).1 dX5_copyFrom_41) ?_
  refine Rk.mmin (pc := 42) cmmX5_29 (hσ4 _ _) (lnR _) (Nat.le_of_ble_eq_true rfl) (Nat.le_of_ble_eq_true rfl) dX5_copyFrom_42 (fun r5 hr5 => ?_)
  refine Rk.pI (pc := 45) hσ4 (nmI hr5) flX5_26 cl5 rfl rfl ht0 dX5_copyFrom_45 (fun σ6 hσ6 => ?_)
  refine Rk.sp (G_aload_n (pc := 48) 1 rfl rfl dX5_copyFrom_48) ?_
  refine Rk.gR (pc := 49) (a1 + 1) flX5_7 cl5 rfl ha1 dX5_copyFrom_49 ?_
  refine Rk.sp (G_iconst (pc := 52) dX5_copyFrom_52) ?_
  refine Rk.sp (G_aload_n (pc := 53) 0 rfl rfl dX5_copyFrom_53) ?_
  refine Rk.gR (pc := 54) (t0 + 1) flX5_7 cl5 rfl ht0 dX5_copyFrom_54 ?_
  refine Rk.sp (G_iconst (pc := 57) dX5_copyFrom_57) ?_
  refine Rk.sp (G_aload_n (pc := 58) 0 rfl rfl dX5_copyFrom_58) ?_
  refine Rk.gI (pc := 59) flX5_23 cl5 rfl ht0 dX5_copyFrom_59 ?_
  refine Rk.cp (pc := 62) hσ6 (nmI (hσ6 _ _)) ckcX5_35 (LBs ha1 1 (by decide)) (LBs ht0 1 (by decide)) (by decide) (Nat.le_of_ble_eq_true rfl) dX5_copyFrom_62 (fun σ7 hσ7 => ?_)
  refine Rk.sp (G_aload_n (pc := 65) 1 rfl rfl dX5_copyFrom_65) ?_
  refine Rk.gR (pc := 66) (a1 + 2) flX5_13 cl5 rfl ha1 dX5_copyFrom_66 ?_
  refine Rk.sp (G_iconst (pc := 69) dX5_copyFrom_69) ?_
  refine Rk.sp (G_aload_n (pc := 70) 0 rfl rfl dX5_copyFrom_70) ?_
  refine Rk.gR (pc := 71) (t0 + 2) flX5_13 cl5 rfl ht0 dX5_copyFrom_71 ?_
  refine Rk.sp (G_iconst (pc := 74) dX5_copyFrom_74) ?_
  refine Rk.sp (G_aload_n (pc := 75) 0 rfl rfl dX5_copyFrom_75) ?_
  refine Rk.gI (pc := 76) flX5_26 cl5 rfl ht0 dX5_copyFrom_76 ?_
  refine Rk.cp (pc := 79) hσ7 (nmI (hσ7 _ _)) ckcX5_35 (LBs ha1 2 (by decide)) (LBs ht0 2 (by decide)) (by decide) (Nat.le_of_ble_eq_true rfl) dX5_copyFrom_79 (fun σ8 hσ8 => ?_)
  exact Rk.end_ (fun h => G_return (pc := 82) rfl dX5_copyFrom_82 (q_V h hσ8))
theorem k_Wo_copyFrom {κ : Kx} {μ : Sg} (t0 : Nat) (a1 : Nat) (σ : Sg) (ht0 : LB false t0 (1, 7)) (ha1 : LB false a1 (1, 7)) (hok : okS σ) : CtV κ mX7_copyFrom 2 [vr t0, vr a1] false μ σ (Wo_copyFrom t0 a1 σ) := by
  intro τ h
  refine con_of (by decide) (Nat.le_of_ble_eq_true rfl) 1 ?_
  refine (?_ : Rk κ mX7_copyFrom _ 0 [some (vr t0), some (vr a1), none] [] (ms false μ σ) (Wo_copyFrom t0 a1 σ) (fun a => a = τ)) _ h rfl
  unfold Wo_copyFrom
  refine Rk.sp (G_aload_n (pc := 0) 0 rfl rfl dX7_copyFrom_0) ?_
  refine Rk.gR (pc := 1) (t0 + 1) flX7_10 cl7 rfl ht0 dX7_copyFrom_1 ?_
  refine Rk.sp (G_aload_n (pc := 4) 1 rfl rfl dX7_copyFrom_4) ?_
  refine Rk.gR (pc := 5) (a1 + 1) flX7_10 cl7 rfl ha1 dX7_copyFrom_5 ?_
  refine Rk.cV (pc := 8) (Cl.v [vr (a1 + 1)] [] dX7_copyFrom_8 ckX7_37 (LBw ht0).1 rfl rfl rfl (Nat.le_of_ble_eq_true rfl) (Nat.le_of_ble_eq_true rfl)) (k_Ta_copyFrom (t0 + 1) (a1 + 1) σ (LBw ht0).1 (LBw ha1).1 hok) (fun σ1 hσ1 => ?_)
  refine Rk.sp (G_aload_n (pc := 11) 1 rfl rfl dX7_copyFrom_11) ?_
  refine Rk.gR (pc := 12) (a1 + 14) flX7_16 cl7 rfl ha1 dX7_copyFrom_12 ?_
  refine Rk.sp (G_iconst (pc := 15) dX7_copyFrom_15) ?_
  refine Rk.sp (G_aload_n (pc := 16) 0 rfl rfl dX7_copyFrom_16) ?_
  refine Rk.gR (pc := 17) (t0 + 14) flX7_16 cl7 rfl ht0 dX7_copyFrom_17 ?_
  refine Rk.sp (G_iconst (pc := 20) dX7_copyFrom_20) ?_
  refine Rk.sp (G_aload_n (pc := 21) 1 rfl rfl dX7_copyFrom_21) ?_
  refine Rk.gR (pc := 22) (a1 + 1) flX7_10 cl7 rfl ha1 dX7_copyFrom_22 ?_
  refine Rk.gI (pc := 25) flX7_41 cl6 rfl (LBw ha1).1 dX7_copyFrom_25 ?_
  refine Rk.sp (G_iconst (pc := 28) dX7_copyFrom_28) ?_
  refine Rk.sp (G_imul (pc := 29) dX7_copyFrom_29) ?_
  refine Rk.cp (pc := 30) hσ1 (nmW _) ckcX7_45 (LBw ha1).2.1 (LBw ht0).2.1 (by decide) (Nat.le_of_ble_eq_true rfl) dX7_copyFrom_30 (fun σ2 hσ2 => ?_)
  refine Rk.sp (G_iconst (pc := 33) dX7_copyFrom_33) ?_
  refine Rk.isa_n (pc := 34) 2 (L' := [some (vr t0), some (vr a1), some (vi 0)]) rfl (Nat.le_of_ble_eq_true rfl) rfl dX7_copyFrom_34 rfl ?_
  refine Rk.loop (pc := 35) (B := (fun p => Wo_copyFrom_35_b t0 a1 p.1 p.2)) (fun p => inR p.1 ∧ okS p.2) (fun p => [some (vr t0), some (vr a1), some (vi p.1)]) (fun p => (ms false μ p.2)) (fun p hp => ?_) (0, σ2) ⟨(inRk 0 rfl), hσ2⟩
  obtain ⟨v2_3, σ4⟩ := p
  obtain ⟨hv2_3, hσ4⟩ := hp
  try dsimp only
  unfold Wo_copyFrom_35_b
  refine Rk.sp (G_iload_n (pc := 35) 2 rfl rfl dX7_copyFrom_35) ?_
  refine Rk.sp (G_iconst (pc := 36) dX7_copyFrom_36) ?_
  refine Rk.icmp_ge (pc := 37) (tgt := 61) dX7_copyFrom_37 (nmI hv2_3) (nmI (inRk 4 rfl)) rfl (fun hc5 => ?_) (fun hc5 => ?_)
  · refine Rk.sp (G_aload_n (pc := 40) 0 rfl rfl dX7_copyFrom_40) ?_
    refine Rk.gR (pc := 41) (t0 + 15) flX7_27 cl7 rfl ht0 dX7_copyFrom_41 ?_
    refine Rk.sp (G_iload_n (pc := 44) 2 rfl rfl dX7_copyFrom_44) ?_
    refine Rk.qix (fun hi6 => ?_)
    refine Rk.sp (fun k => G_aaload2 (pc := 45) ((t0 + 15) + 1 + 3 * (v2_3).toNat) ((LBw ht0).2.2.1).1 hi6 rfl dX7_copyFrom_45 k) ?_
    refine Rk.sp (G_aload_n (pc := 46) 1 rfl rfl dX7_copyFrom_46) ?_
    refine Rk.gR (pc := 47) (a1 + 15) flX7_27 cl7 rfl ha1 dX7_copyFrom_47 ?_
    refine Rk.sp (G_iload_n (pc := 50) 2 rfl rfl dX7_copyFrom_50) ?_
    refine Rk.qix (fun hi7 => ?_)
    refine Rk.sp (fun k => G_aaload2 (pc := 51) ((a1 + 15) + 1 + 3 * (v2_3).toNat) ((LBw ha1).2.2.1).1 hi7 rfl dX7_copyFrom_51 k) ?_
    refine Rk.cV (pc := 52) (Cl.v [vr ((a1 + 15) + 1 + 3 * (v2_3).toNat)] [] dX7_copyFrom_52 ckX7_51 ((LBw ht0).2.2.2.2.2 _ (by omega)) rfl rfl rfl (Nat.le_of_ble_eq_true rfl) (Nat.le_of_ble_eq_true rfl)) (k_Sh_copyFrom ((t0 + 15) + 1 + 3 * (v2_3).toNat) ((a1 + 15) + 1 + 3 * (v2_3).toNat) σ4 ((LBw ht0).2.2.2.2.2 _ (by omega)) ((LBw ha1).2.2.2.2.2 _ (by omega)) hσ4) (fun σ8 hσ8 => ?_)
    refine Rk.inc (pc := 55) 2 (fun v2_9 => [some (vr t0), some (vr a1), some (vi v2_9)]) rfl (Nat.le_of_ble_eq_true rfl) rfl dX7_copyFrom_55 (fun _ => rfl) (fun v2_9 hv2_9 => ?_)
    refine Rk.sp (G_goto (pc := 58) (tgt := 35) dX7_copyFrom_58 rfl) ?_
    exact Rk.end_ (fun h => h ⟨hv2_9, hσ8⟩)
  · refine Rk.sp (G_aload_n (pc := 61) 0 rfl rfl dX7_copyFrom_61) ?_
    refine Rk.sp (G_aload_n (pc := 62) 1 rfl rfl dX7_copyFrom_62) ?_
    refine Rk.gI (pc := 63) flX7_54 cl7 rfl ha1 dX7_copyFrom_63 ?_
    refine Rk.pI (pc := 66) hσ4 (nmI (hσ4 _ _)) flX7_54 cl7 rfl rfl ht0 dX7_copyFrom_66 (fun σ10 hσ10 => ?_)
    refine Rk.sp (G_aload_n (pc := 69) 1 rfl rfl dX7_copyFrom_69) ?_
    refine Rk.gR (pc := 70) (a1 + 28) flX7_31 cl7 rfl ha1 dX7_copyFrom_70 ?_
    refine Rk.sp (G_iconst (pc := 73) dX7_copyFrom_73) ?_
    refine Rk.sp (G_aload_n (pc := 74) 0 rfl rfl dX7_copyFrom_74) ?_
    refine Rk.gR (pc := 75) (t0 + 28) flX7_31 cl7 rfl ht0 dX7_copyFrom_75 ?_
    refine Rk.sp (G_iconst (pc := 78) dX7_copyFrom_78) ?_
    refine Rk.sp (G_aload_n (pc := 79) 0 rfl rfl dX7_copyFrom_79) ?_
    refine Rk.gI (pc := 80) flX7_54 cl7 rfl ht0 dX7_copyFrom_80 ?_
    refine Rk.cp (pc := 83) hσ10 (nmI (hσ10 _ _)) ckcX7_45 (LBw ha1).2.2.2.1 (LBw ht0).2.2.2.1 (by decide) (Nat.le_of_ble_eq_true rfl) dX7_copyFrom_83 (fun σ11 hσ11 => ?_)
    refine Rk.sp (G_aload_n (pc := 86) 1 rfl rfl dX7_copyFrom_86) ?_
    refine Rk.gR (pc := 87) (a1 + 29) flX7_34 cl7 rfl ha1 dX7_copyFrom_87 ?_
    refine Rk.sp (G_iconst (pc := 90) dX7_copyFrom_90) ?_
    refine Rk.sp (G_aload_n (pc := 91) 0 rfl rfl dX7_copyFrom_91) ?_
    refine Rk.gR (pc := 92) (t0 + 29) flX7_34 cl7 rfl ht0 dX7_copyFrom_92 ?_
    refine Rk.sp (G_iconst (pc := 95) dX7_copyFrom_95) ?_
    refine Rk.sp (G_bipush (pc := 96) dX7_copyFrom_96 rfl) ?_
    refine Rk.cp (pc := 98) hσ11 (nmI (inRk 8 rfl)) ckcX7_45 (LBw ha1).2.2.2.2.1 (LBw ht0).2.2.2.2.1 (by decide) (Nat.le_of_ble_eq_true rfl) dX7_copyFrom_98 (fun σ12 hσ12 => ?_)
    exact Rk.end_ (fun h => G_return (pc := 101) rfl dX7_copyFrom_101 (q_V h hσ12))
theorem k_Pa_forget {κ : Kx} {μ : Sg} (σ : Sg) (hok : okS σ) : CtV κ mX3_forget 0 [vr 61] false μ σ (Pa_forget σ) := by
  intro τ h
  refine con_of (by decide) (Nat.le_of_ble_eq_true rfl) 0 ?_
  refine (?_ : Rk κ mX3_forget _ 0 [some (vr 61)] [] (ms false μ σ) (Pa_forget σ) (fun a => a = τ)) _ h rfl
  unfold Pa_forget
  refine Rk.sp (G_aload_n (pc := 0) 0 rfl rfl dX3_forget_0) ?_
  refine Rk.sp (G_iconst (pc := 1) dX3_forget_1) ?_
  refine Rk.pI (pc := 2) hok (nmI (inRk 0 rfl)) flX3_20 cl3 rfl rfl lb61 dX3_forget_2 (fun σ1 hσ1 => ?_)
  exact Rk.end_ (fun h => G_return (pc := 5) rfl dX3_forget_5 (q_V h hσ1))
theorem k_Td_image {κ : Kx} {μ : Sg} (a1 : Int) (σ : Sg) (ha1 : inR a1) (hok : okS σ) : CtZ κ mX8_image 3 [vr 0, vi a1] false μ σ (Td_image a1 σ) := by
  intro r τ h
  refine con_of (by decide) (Nat.le_of_ble_eq_true rfl) 0 ?_
  refine (?_ : Rk κ mX8_image _ 0 [some (vr 0), some (vi a1)] [] (ms false μ σ) (Td_image a1 σ) (fun a => a = (r, τ))) _ h rfl
  unfold Td_image
  refine Rk.sp (G_iload_n (pc := 0) 1 rfl rfl dX8_image_0) ?_
  refine Rk.if_eq (pc := 1) (tgt := 23) dX8_image_1 (nmI ha1) rfl (fun hc1 => ?_) (fun hc1 => ?_)
  · refine Rk.sp (G_aload_n (pc := 23) 0 rfl rfl dX8_image_23) ?_
    refine Rk.gI (pc := 24) flX8_67 cl8 rfl lb0 dX8_image_24 ?_
    refine Rk.if_eq (pc := 27) (tgt := 48) dX8_image_27 (nmI (hok _ _)) rfl (fun hc2 => ?_) (fun hc2 => ?_)
    · refine Rk.sp (G_aload_n (pc := 48) 0 rfl rfl dX8_image_48) ?_
      refine Rk.gI (pc := 49) flX8_67 cl8 rfl lb0 dX8_image_49 ?_
      refine Rk.qzb (fun hb3 => ?_)
      exact Rk.end_ (fun h => G_zreturn (pc := 52) rfl (nz hb3) dX8_image_52 (q_Z h hb3 hok))
    · refine Rk.sp (G_aload_n (pc := 30) 0 rfl rfl dX8_image_30) ?_
      refine Rk.gR (pc := 31) 1 flX8_12 cl8 rfl lb0 dX8_image_31 ?_
      refine Rk.sp (G_aload_n (pc := 34) 0 rfl rfl dX8_image_34) ?_
      refine Rk.gR (pc := 35) 31 flX8_16 cl8 rfl lb0 dX8_image_35 ?_
      refine Rk.cV (pc := 38) (Cl.v [vr 31] [] dX8_image_38 ckX8_352 lb1 rfl rfl rfl (Nat.le_of_ble_eq_true rfl) (Nat.le_of_ble_eq_true rfl)) (k_Wo_copyFrom 1 31 σ lb1 lb31 hok) (fun σ4 hσ4 => ?_)
      refine Rk.sp (G_aload_n (pc := 41) 0 rfl rfl dX8_image_41) ?_
      refine Rk.gR (pc := 42) 61 flX8_22 cl8 rfl lb0 dX8_image_42 ?_
      refine Rk.cV (pc := 45) (Cl.v [] [] dX8_image_45 ckX8_78 lb61 rfl rfl rfl (Nat.le_of_ble_eq_true rfl) (Nat.le_of_ble_eq_true rfl)) (k_Pa_forget σ4 hσ4) (fun σ5 hσ5 => ?_)
      refine Rk.sp (G_aload_n (pc := 48) 0 rfl rfl dX8_image_48) ?_
      refine Rk.gI (pc := 49) flX8_67 cl8 rfl lb0 dX8_image_49 ?_
      refine Rk.qzb (fun hb6 => ?_)
      exact Rk.end_ (fun h => G_zreturn (pc := 52) rfl (nz hb6) dX8_image_52 (q_Z h hb6 hσ5))
  · refine Rk.sp (G_aload_n (pc := 4) 0 rfl rfl dX8_image_4) ?_
    refine Rk.gR (pc := 5) 31 flX8_16 cl8 rfl lb0 dX8_image_5 ?_
    refine Rk.sp (G_aload_n (pc := 8) 0 rfl rfl dX8_image_8) ?_
    refine Rk.gR (pc := 9) 1 flX8_12 cl8 rfl lb0 dX8_image_9 ?_
    refine Rk.cV (pc := 12) (Cl.v [vr 1] [] dX8_image_12 ckX8_352 lb31 rfl rfl rfl (Nat.le_of_ble_eq_true rfl) (Nat.le_of_ble_eq_true rfl)) (k_Wo_copyFrom 31 1 σ lb31 lb1 hok) (fun σ7 hσ7 => ?_)
    refine Rk.sp (G_aload_n (pc := 15) 0 rfl rfl dX8_image_15) ?_
    refine Rk.sp (G_iconst (pc := 16) dX8_image_16) ?_
    refine Rk.pZ (pc := 17) hσ7 inZ1 flX8_67 cl8 rfl rfl lb0 dX8_image_17 (fun σ8 hσ8 => ?_)
    refine Rk.sp (G_goto (pc := 20) (tgt := 48) dX8_image_20 rfl) ?_
    refine Rk.sp (G_aload_n (pc := 48) 0 rfl rfl dX8_image_48) ?_
    refine Rk.gI (pc := 49) flX8_67 cl8 rfl lb0 dX8_image_49 ?_
    refine Rk.qzb (fun hb9 => ?_)
    exact Rk.end_ (fun h => G_zreturn (pc := 52) rfl (nz hb9) dX8_image_52 (q_Z h hb9 hσ8))
theorem k_Wo_signs {κ : Kx} {μ : Sg} (t0 : Nat) (σ : Sg) (ht0 : LB false t0 (1, 7)) (hok : okS σ) : CtRI κ mX7_signs 0 [vr t0] false μ σ (Wo_signs t0 σ) := by
  intro r h
  refine con_of (by decide) (Nat.le_of_ble_eq_true rfl) 0 ?_
  refine (?_ : Rk κ mX7_signs _ 0 [some (vr t0)] [] (ms false μ σ) (Wo_signs t0 σ) (fun a => a = r)) _ h rfl
  unfold Wo_signs
  refine Rk.sp (G_aload_n (pc := 0) 0 rfl rfl dX7_signs_0) ?_
  refine Rk.gR (pc := 1) (t0 + 15) flX7_27 cl7 rfl ht0 dX7_signs_1 ?_
  refine Rk.sp (G_iconst (pc := 4) dX7_signs_4) ?_
  refine Rk.sp (fun k => G_aaload2 (pc := 5) (t0 + 25) ((LBw ht0).2.2.1).1 ⟨by decide, by decide⟩ rfl dX7_signs_5 k) ?_
  refine Rk.gI (pc := 6) flX7_57 cl5 rfl ((LBw ht0).2.2.2.2.2 3 (by decide)) dX7_signs_6 ?_
  exact Rk.end_ (fun h => G_ireturn (pc := 9) rfl dX7_signs_9 (q_RI h (hok _ _)))
theorem k_Td_look {κ : Kx} {μ : Sg} (a1 : Int) (σ : Sg) (ha1 : inR a1) (hok : okS σ) : CtRI κ mX8_look 1 [vr 0, vi a1] false μ σ (Td_look a1 σ) := by
  intro r h
  refine con_of (by decide) (Nat.le_of_ble_eq_true rfl) 0 ?_
  refine (?_ : Rk κ mX8_look _ 0 [some (vr 0), some (vi a1)] [] (ms false μ σ) (Td_look a1 σ) (fun a => a = r)) _ h rfl
  unfold Td_look
  refine Rk.sp (G_iload_n (pc := 0) 1 rfl rfl dX8_look_0) ?_
  refine Rk.ite (fun hc1 => ?_) (fun hc1 => ?_)
  · refine Rk.tblI (pc := 1) (tgt := 60) 0 hc1 dX8_look_1 (nmI ha1) (by decide) (by decide) rfl rfl ?_
    refine Rk.sp (G_aload_n (pc := 60) 0 rfl rfl dX8_look_60) ?_
    refine Rk.gR (pc := 61) 1 flX8_12 cl8 rfl lb0 dX8_look_61 ?_
    refine Rk.gR (pc := 64) 2 flX8_71 cl7 rfl lb1 dX8_look_64 ?_
    refine Rk.gI (pc := 67) flX8_89 cl6 rfl lb2 dX8_look_67 ?_
    exact Rk.end_ (fun h => G_ireturn (pc := 70) rfl dX8_look_70 (q_RI h (hok _ _)))
  · refine Rk.ite (fun hc2 => ?_) (fun hc2 => ?_)
    · refine Rk.tblI (pc := 1) (tgt := 71) 1 hc2 dX8_look_1 (nmI ha1) (by decide) (by decide) rfl rfl ?_
      refine Rk.sp (G_aload_n (pc := 71) 0 rfl rfl dX8_look_71) ?_
      refine Rk.gR (pc := 72) 1 flX8_12 cl8 rfl lb0 dX8_look_72 ?_
      refine Rk.gR (pc := 75) 2 flX8_71 cl7 rfl lb1 dX8_look_75 ?_
      refine Rk.gI (pc := 78) flX8_138 cl6 rfl lb2 dX8_look_78 ?_
      exact Rk.end_ (fun h => G_ireturn (pc := 81) rfl dX8_look_81 (q_RI h (hok _ _)))
    · refine Rk.ite (fun hc3 => ?_) (fun hc3 => ?_)
      · refine Rk.tblI (pc := 1) (tgt := 82) 2 hc3 dX8_look_1 (nmI ha1) (by decide) (by decide) rfl rfl ?_
        refine Rk.sp (G_aload_n (pc := 82) 0 rfl rfl dX8_look_82) ?_
        refine Rk.gR (pc := 83) 1 flX8_12 cl8 rfl lb0 dX8_look_83 ?_
        refine Rk.gR (pc := 86) 2 flX8_71 cl7 rfl lb1 dX8_look_86 ?_
        refine Rk.cRI (pc := 89) (Cl.v [] [] dX8_look_89 ckX8_191 lb2 rfl rfl rfl (Nat.le_of_ble_eq_true rfl) (Nat.le_of_ble_eq_true rfl)) (k_Ta_hour 2 σ lb2 hok) (fun r4 hr4 => ?_)
        exact Rk.end_ (fun h => G_ireturn (pc := 92) rfl dX8_look_92 (q_RI h hr4))
      · refine Rk.ite (fun hc5 => ?_) (fun hc5 => ?_)
        · refine Rk.tblI (pc := 1) (tgt := 93) 3 hc5 dX8_look_1 (nmI ha1) (by decide) (by decide) rfl rfl ?_
          refine Rk.sp (G_aload_n (pc := 93) 0 rfl rfl dX8_look_93) ?_
          refine Rk.gR (pc := 94) 1 flX8_12 cl8 rfl lb0 dX8_look_94 ?_
          refine Rk.gR (pc := 97) 2 flX8_71 cl7 rfl lb1 dX8_look_97 ?_
          refine Rk.gI (pc := 100) flX8_236 cl6 rfl lb2 dX8_look_100 ?_
          exact Rk.end_ (fun h => G_ireturn (pc := 103) rfl dX8_look_103 (q_RI h (hok _ _)))
        · refine Rk.ite (fun hc6 => ?_) (fun hc6 => ?_)
          · refine Rk.tblI (pc := 1) (tgt := 104) 4 hc6 dX8_look_1 (nmI ha1) (by decide) (by decide) rfl rfl ?_
            refine Rk.sp (G_aload_n (pc := 104) 0 rfl rfl dX8_look_104) ?_
            refine Rk.gR (pc := 105) 1 flX8_12 cl8 rfl lb0 dX8_look_105 ?_
            refine Rk.gR (pc := 108) 2 flX8_71 cl7 rfl lb1 dX8_look_108 ?_
            refine Rk.gI (pc := 111) flX8_74 cl6 rfl lb2 dX8_look_111 ?_
            exact Rk.end_ (fun h => G_ireturn (pc := 114) rfl dX8_look_114 (q_RI h (hok _ _)))
          · refine Rk.ite (fun hc7 => ?_) (fun hc7 => ?_)
            · refine Rk.tblI (pc := 1) (tgt := 115) 5 hc7 dX8_look_1 (nmI ha1) (by decide) (by decide) rfl rfl ?_
              refine Rk.sp (G_aload_n (pc := 115) 0 rfl rfl dX8_look_115) ?_
              refine Rk.gR (pc := 116) 1 flX8_12 cl8 rfl lb0 dX8_look_116 ?_
              refine Rk.gR (pc := 119) 16 flX8_168 cl7 rfl lb1 dX8_look_119 ?_
              refine Rk.sp (G_iconst (pc := 122) dX8_look_122) ?_
              refine Rk.sp (fun k => G_aaload2 (pc := 123) 17 (lb16).1 ⟨by decide, by decide⟩ rfl dX8_look_123 k) ?_
              refine Rk.gI (pc := 124) flX8_182 cl5 rfl lb17 dX8_look_124 ?_
              exact Rk.end_ (fun h => G_ireturn (pc := 127) rfl dX8_look_127 (q_RI h (hok _ _)))
            · refine Rk.ite (fun hc8 => ?_) (fun hc8 => ?_)
              · refine Rk.tblI (pc := 1) (tgt := 128) 6 hc8 dX8_look_1 (nmI ha1) (by decide) (by decide) rfl rfl ?_
                refine Rk.sp (G_aload_n (pc := 128) 0 rfl rfl dX8_look_128) ?_
                refine Rk.gR (pc := 129) 1 flX8_12 cl8 rfl lb0 dX8_look_129 ?_
                refine Rk.gR (pc := 132) 16 flX8_168 cl7 rfl lb1 dX8_look_132 ?_
                refine Rk.sp (G_iconst (pc := 135) dX8_look_135) ?_
                refine Rk.sp (fun k => G_aaload2 (pc := 136) 20 (lb16).1 ⟨by decide, by decide⟩ rfl dX8_look_136 k) ?_
                refine Rk.gI (pc := 137) flX8_182 cl5 rfl lb20 dX8_look_137 ?_
                exact Rk.end_ (fun h => G_ireturn (pc := 140) rfl dX8_look_140 (q_RI h (hok _ _)))
              · refine Rk.ite (fun hc9 => ?_) (fun hc9 => ?_)
                · refine Rk.tblI (pc := 1) (tgt := 141) 7 hc9 dX8_look_1 (nmI ha1) (by decide) (by decide) rfl rfl ?_
                  refine Rk.sp (G_aload_n (pc := 141) 0 rfl rfl dX8_look_141) ?_
                  refine Rk.gR (pc := 142) 1 flX8_12 cl8 rfl lb0 dX8_look_142 ?_
                  refine Rk.gR (pc := 145) 16 flX8_168 cl7 rfl lb1 dX8_look_145 ?_
                  refine Rk.sp (G_iconst (pc := 148) dX8_look_148) ?_
                  refine Rk.sp (fun k => G_aaload2 (pc := 149) 23 (lb16).1 ⟨by decide, by decide⟩ rfl dX8_look_149 k) ?_
                  refine Rk.gI (pc := 150) flX8_182 cl5 rfl lb23 dX8_look_150 ?_
                  exact Rk.end_ (fun h => G_ireturn (pc := 153) rfl dX8_look_153 (q_RI h (hok _ _)))
                · refine Rk.ite (fun hc10 => ?_) (fun hc10 => ?_)
                  · refine Rk.tblI (pc := 1) (tgt := 154) 8 hc10 dX8_look_1 (nmI ha1) (by decide) (by decide) rfl rfl ?_
                    refine Rk.sp (G_aload_n (pc := 154) 0 rfl rfl dX8_look_154) ?_
                    refine Rk.gR (pc := 155) 1 flX8_12 cl8 rfl lb0 dX8_look_155 ?_
                    refine Rk.cRI (pc := 158) (Cl.v [] [] dX8_look_158 ckX8_258 lb1 rfl rfl rfl (Nat.le_of_ble_eq_true rfl) (Nat.le_of_ble_eq_true rfl)) (k_Wo_signs 1 σ lb1 hok) (fun r11 hr11 => ?_)
                    exact Rk.end_ (fun h => G_ireturn (pc := 161) rfl dX8_look_161 (q_RI h hr11))
                  · refine Rk.ite (fun hc12 => ?_) (fun hc12 => ?_)
                    · refine Rk.tblI (pc := 1) (tgt := 162) 9 hc12 dX8_look_1 (nmI ha1) (by decide) (by decide) rfl rfl ?_
                      refine Rk.sp (G_aload_n (pc := 162) 0 rfl rfl dX8_look_162) ?_
                      refine Rk.gR (pc := 163) 1 flX8_12 cl8 rfl lb0 dX8_look_163 ?_
                      refine Rk.gI (pc := 166) flX8_288 cl7 rfl lb1 dX8_look_166 ?_
                      exact Rk.end_ (fun h => G_ireturn (pc := 169) rfl dX8_look_169 (q_RI h (hok _ _)))
                    · refine Rk.ite (fun hc13 => ?_) (fun hc13 => ?_)
                      · refine Rk.tblI (pc := 1) (tgt := 170) 10 hc13 dX8_look_1 (nmI ha1) (by decide) (by decide) rfl rfl ?_
                        refine Rk.sp (G_aload_n (pc := 170) 0 rfl rfl dX8_look_170) ?_
                        refine Rk.gR (pc := 171) 61 flX8_22 cl8 rfl lb0 dX8_look_171 ?_
                        refine Rk.gI (pc := 174) flX8_355 cl3 rfl lb61 dX8_look_174 ?_
                        exact Rk.end_ (fun h => G_ireturn (pc := 177) rfl dX8_look_177 (q_RI h (hok _ _)))
                      · refine Rk.tblO (pc := 1) (tgt := 178) dX8_look_1 (nmI ha1) (by omega) rfl ?_
                        refine Rk.sp (G_iconst (pc := 178) dX8_look_178) ?_
                        exact Rk.end_ (fun h => G_ireturn (pc := 179) rfl dX8_look_179 (q_RI h (inRk (-1) rfl)))
theorem k_Td_message {κ : Kx} {μ : Sg} (a1 : Int) (a2 : Int) (σ : Sg) (ha1 : inR a1) (ha2 : inR a2) (hok : okS σ) : CtRI κ mX8_message 1 [vr 0, vi a1, vi a2] false μ σ (Td_message a1 a2 σ) := by
  intro r h
  refine con_of (by decide) (Nat.le_of_ble_eq_true rfl) 0 ?_
  refine (?_ : Rk κ mX8_message _ 0 [some (vr 0), some (vi a1), some (vi a2)] [] (ms false μ σ) (Td_message a1 a2 σ) (fun a => a = r)) _ h rfl
  unfold Td_message
  refine Rk.sp (G_aload_n (pc := 0) 0 rfl rfl dX8_message_0) ?_
  refine Rk.gR (pc := 1) 1 flX8_12 cl8 rfl lb0 dX8_message_1 ?_
  refine Rk.gR (pc := 4) 2 flX8_71 cl7 rfl lb1 dX8_message_4 ?_
  refine Rk.sp (G_iload_n (pc := 7) 1 rfl rfl dX8_message_7) ?_
  refine Rk.cRZ (pc := 8) (Cl.v [vi a1] [] dX8_message_8 ckX8_120 lb2 rfl rfl rfl (Nat.le_of_ble_eq_true rfl) (Nat.le_of_ble_eq_true rfl)) (k_Ta_has 2 a1 σ lb2 ha1 hok) (fun r1 hr1 => ?_)
  refine Rk.if_ne (pc := 11) (tgt := 17) dX8_message_11 (nmI (inZ.R hr1)) rfl (fun hc2 => ?_) (fun hc2 => ?_)
  · refine Rk.sp (G_bipush (pc := 14) dX8_message_14 rfl) ?_
    exact Rk.end_ (fun h => G_ireturn (pc := 16) rfl dX8_message_16 (q_RI h (inRk (-2) rfl)))
  · refine Rk.sp (G_iload_n (pc := 17) 2 rfl rfl dX8_message_17) ?_
    refine Rk.ite (fun hc3 => ?_) (fun hc3 => ?_)
    · refine Rk.tblI (pc := 18) (tgt := 68) 0 hc3 dX8_message_18 (nmI ha2) (by decide) (by decide) rfl rfl ?_
      refine Rk.sp (G_aload_n (pc := 68) 0 rfl rfl dX8_message_68) ?_
      refine Rk.gR (pc := 69) 1 flX8_12 cl8 rfl lb0 dX8_message_69 ?_
      refine Rk.gR (pc := 72) 2 flX8_71 cl7 rfl lb1 dX8_message_72 ?_
      refine Rk.gR (pc := 75) 6 flX8_197 cl6 rfl lb2 dX8_message_75 ?_
      refine Rk.sp (G_iload_n (pc := 78) 1 rfl rfl dX8_message_78) ?_
      refine Rk.al (pc := 79) lb6 dX8_message_79 (fun hi4 => ?_)
      exact Rk.end_ (fun h => G_ireturn (pc := 80) rfl dX8_message_80 (q_RI h (hok _ _)))
    · refine Rk.ite (fun hc5 => ?_) (fun hc5 => ?_)
      · refine Rk.tblI (pc := 18) (tgt := 81) 1 hc5 dX8_message_18 (nmI ha2) (by decide) (by decide) rfl rfl ?_
        refine Rk.sp (G_aload_n (pc := 81) 0 rfl rfl dX8_message_81) ?_
        refine Rk.gR (pc := 82) 1 flX8_12 cl8 rfl lb0 dX8_message_82 ?_
        refine Rk.gR (pc := 85) 2 flX8_71 cl7 rfl lb1 dX8_message_85 ?_
        refine Rk.gR (pc := 88) 7 flX8_200 cl6 rfl lb2 dX8_message_88 ?_
        refine Rk.sp (G_iload_n (pc := 91) 1 rfl rfl dX8_message_91) ?_
        refine Rk.al (pc := 92) lb7 dX8_message_92 (fun hi6 => ?_)
        exact Rk.end_ (fun h => G_ireturn (pc := 93) rfl dX8_message_93 (q_RI h (hok _ _)))
      · refine Rk.ite (fun hc7 => ?_) (fun hc7 => ?_)
        · refine Rk.tblI (pc := 18) (tgt := 94) 2 hc7 dX8_message_18 (nmI ha2) (by decide) (by decide) rfl rfl ?_
          refine Rk.sp (G_aload_n (pc := 94) 0 rfl rfl dX8_message_94) ?_
          refine Rk.gR (pc := 95) 1 flX8_12 cl8 rfl lb0 dX8_message_95 ?_
          refine Rk.gR (pc := 98) 2 flX8_71 cl7 rfl lb1 dX8_message_98 ?_
          refine Rk.gR (pc := 101) 8 flX8_203 cl6 rfl lb2 dX8_message_101 ?_
          refine Rk.sp (G_iload_n (pc := 104) 1 rfl rfl dX8_message_104) ?_
          refine Rk.al (pc := 105) lb8 dX8_message_105 (fun hi8 => ?_)
          exact Rk.end_ (fun h => G_ireturn (pc := 106) rfl dX8_message_106 (q_RI h (hok _ _)))
        · refine Rk.ite (fun hc9 => ?_) (fun hc9 => ?_)
          · refine Rk.tblI (pc := 18) (tgt := 107) 3 hc9 dX8_message_18 (nmI ha2) (by decide) (by decide) rfl rfl ?_
            refine Rk.sp (G_aload_n (pc := 107) 0 rfl rfl dX8_message_107) ?_
            refine Rk.gR (pc := 108) 1 flX8_12 cl8 rfl lb0 dX8_message_108 ?_
            refine Rk.gR (pc := 111) 2 flX8_71 cl7 rfl lb1 dX8_message_111 ?_
            refine Rk.gR (pc := 114) 9 flX8_206 cl6 rfl lb2 dX8_message_114 ?_
            refine Rk.sp (G_iload_n (pc := 117) 1 rfl rfl dX8_message_117) ?_
            refine Rk.al (pc := 118) lb9 dX8_message_118 (fun hi10 => ?_)
            exact Rk.end_ (fun h => G_ireturn (pc := 119) rfl dX8_message_119 (q_RI h (hok _ _)))
          · refine Rk.ite (fun hc11 => ?_) (fun hc11 => ?_)
            · refine Rk.tblI (pc := 18) (tgt := 120) 4 hc11 dX8_message_18 (nmI ha2) (by decide) (by decide) rfl rfl ?_
              refine Rk.sp (G_aload_n (pc := 120) 0 rfl rfl dX8_message_120) ?_
              refine Rk.gR (pc := 121) 1 flX8_12 cl8 rfl lb0 dX8_message_121 ?_
              refine Rk.gR (pc := 124) 2 flX8_71 cl7 rfl lb1 dX8_message_124 ?_
              refine Rk.gR (pc := 127) 10 flX8_209 cl6 rfl lb2 dX8_message_127 ?_
              refine Rk.sp (G_iload_n (pc := 130) 1 rfl rfl dX8_message_130) ?_
              refine Rk.al (pc := 131) lb10 dX8_message_131 (fun hi12 => ?_)
              exact Rk.end_ (fun h => G_ireturn (pc := 132) rfl dX8_message_132 (q_RI h (hok _ _)))
            · refine Rk.ite (fun hc13 => ?_) (fun hc13 => ?_)
              · refine Rk.tblI (pc := 18) (tgt := 133) 5 hc13 dX8_message_18 (nmI ha2) (by decide) (by decide) rfl rfl ?_
                refine Rk.sp (G_aload_n (pc := 133) 0 rfl rfl dX8_message_133) ?_
                refine Rk.gR (pc := 134) 1 flX8_12 cl8 rfl lb0 dX8_message_134 ?_
                refine Rk.gR (pc := 137) 2 flX8_71 cl7 rfl lb1 dX8_message_137 ?_
                refine Rk.gR (pc := 140) 11 flX8_212 cl6 rfl lb2 dX8_message_140 ?_
                refine Rk.sp (G_iload_n (pc := 143) 1 rfl rfl dX8_message_143) ?_
                refine Rk.al (pc := 144) lb11 dX8_message_144 (fun hi14 => ?_)
                exact Rk.end_ (fun h => G_ireturn (pc := 145) rfl dX8_message_145 (q_RI h (hok _ _)))
              · refine Rk.ite (fun hc15 => ?_) (fun hc15 => ?_)
                · refine Rk.tblI (pc := 18) (tgt := 146) 6 hc15 dX8_message_18 (nmI ha2) (by decide) (by decide) rfl rfl ?_
                  refine Rk.sp (G_aload_n (pc := 146) 0 rfl rfl dX8_message_146) ?_
                  refine Rk.gR (pc := 147) 1 flX8_12 cl8 rfl lb0 dX8_message_147 ?_
                  refine Rk.gR (pc := 150) 2 flX8_71 cl7 rfl lb1 dX8_message_150 ?_
                  refine Rk.gR (pc := 153) 12 flX8_215 cl6 rfl lb2 dX8_message_153 ?_
                  refine Rk.sp (G_iload_n (pc := 156) 1 rfl rfl dX8_message_156) ?_
                  refine Rk.al (pc := 157) lb12 dX8_message_157 (fun hi16 => ?_)
                  exact Rk.end_ (fun h => G_ireturn (pc := 158) rfl dX8_message_158 (q_RI h (hok _ _)))
                · refine Rk.ite (fun hc17 => ?_) (fun hc17 => ?_)
                  · refine Rk.tblI (pc := 18) (tgt := 159) 7 hc17 dX8_message_18 (nmI ha2) (by decide) (by decide) rfl rfl ?_
                    refine Rk.sp (G_aload_n (pc := 159) 0 rfl rfl dX8_message_159) ?_
                    refine Rk.gR (pc := 160) 1 flX8_12 cl8 rfl lb0 dX8_message_160 ?_
                    refine Rk.gR (pc := 163) 2 flX8_71 cl7 rfl lb1 dX8_message_163 ?_
                    refine Rk.gR (pc := 166) 13 flX8_218 cl6 rfl lb2 dX8_message_166 ?_
                    refine Rk.sp (G_iload_n (pc := 169) 1 rfl rfl dX8_message_169) ?_
                    refine Rk.al (pc := 170) lb13 dX8_message_170 (fun hi18 => ?_)
                    exact Rk.end_ (fun h => G_ireturn (pc := 171) rfl dX8_message_171 (q_RI h (hok _ _)))
                  · refine Rk.ite (fun hc19 => ?_) (fun hc19 => ?_)
                    · refine Rk.tblI (pc := 18) (tgt := 172) 8 hc19 dX8_message_18 (nmI ha2) (by decide) (by decide) rfl rfl ?_
                      refine Rk.sp (G_aload_n (pc := 172) 0 rfl rfl dX8_message_172) ?_
                      refine Rk.gR (pc := 173) 1 flX8_12 cl8 rfl lb0 dX8_message_173 ?_
                      refine Rk.gR (pc := 176) 2 flX8_71 cl7 rfl lb1 dX8_message_176 ?_
                      refine Rk.gR (pc := 179) 14 flX8_221 cl6 rfl lb2 dX8_message_179 ?_
                      refine Rk.sp (G_iload_n (pc := 182) 1 rfl rfl dX8_message_182) ?_
                      refine Rk.al (pc := 183) lb14 dX8_message_183 (fun hi20 => ?_)
                      exact Rk.end_ (fun h => G_ireturn (pc := 184) rfl dX8_message_184 (q_RI h (hok _ _)))
                    · refine Rk.tblO (pc := 18) (tgt := 185) dX8_message_18 (nmI ha2) (by omega) rfl ?_
                      refine Rk.sp (G_bipush (pc := 185) dX8_message_185 rfl) ?_
                      exact Rk.end_ (fun h => G_ireturn (pc := 187) rfl dX8_message_187 (q_RI h (inRk (-2) rfl)))
theorem k_Pa_keep {κ : Kx} {μ : Sg} (a1 : Nat) (σ : Sg) (ha1 : LB false a1 (1, 6)) (hok : okS σ) : CtV κ mX3_keep 2 [vr 61, vr a1] false μ σ (Pa_keep a1 σ) := by
  intro τ h
  refine con_of (by decide) (Nat.le_of_ble_eq_true rfl) 0 ?_
  refine (?_ : Rk κ mX3_keep _ 0 [some (vr 61), some (vr a1)] [] (ms false μ σ) (Pa_keep a1 σ) (fun a => a = τ)) _ h rfl
  unfold Pa_keep
  refine Rk.sp (G_aload_n (pc := 0) 0 rfl rfl dX3_keep_0) ?_
  refine Rk.gR (pc := 1) 62 flX3_11 cl3 rfl lb61 dX3_keep_1 ?_
  refine Rk.sp (G_aload_n (pc := 4) 0 rfl rfl dX3_keep_4) ?_
  refine Rk.gI (pc := 5) flX3_16 cl3 rfl lb61 dX3_keep_5 ?_
  refine Rk.sp (G_aload_n (pc := 8) 0 rfl rfl dX3_keep_8) ?_
  refine Rk.gI (pc := 9) flX3_20 cl3 rfl lb61 dX3_keep_9 ?_
  refine Rk.sp (G_iadd (pc := 12) dX3_keep_12) ?_
  refine Rk.sp (G_bipush (pc := 13) dX3_keep_13 rfl) ?_
  refine Rk.sp (G_irem (pc := 15) dX3_keep_15 (nmW _) (nmI (inRk 6 rfl)) (by decide)) ?_
  refine Rk.qix (fun hi1 => ?_)
  refine Rk.sp (fun k => G_aaload3 (pc := 16) (62 + 1 + 13 * ((Int.tmod (wr ((σ 61 1) + (σ 61 2))) 6)).toNat) (lb62).1 hi1 rfl dX3_keep_16 k) ?_
  refine Rk.sp (G_aload_n (pc := 17) 1 rfl rfl dX3_keep_17) ?_
  refine Rk.cV (pc := 18) (Cl.v [vr a1] [] dX3_keep_18 ckX3_23 (LBp (by omega)) rfl rfl rfl (Nat.le_of_ble_eq_true rfl) (Nat.le_of_ble_eq_true rfl)) (k_Ta_copyFrom (62 + 1 + 13 * ((Int.tmod (wr ((σ 61 1) + (σ 61 2))) 6)).toNat) a1 σ (LBp (by omega)) ha1 hok) (fun σ2 hσ2 => ?_)
  refine Rk.sp (G_aload_n (pc := 21) 0 rfl rfl dX3_keep_21) ?_
  refine Rk.gI (pc := 22) flX3_20 cl3 rfl lb61 dX3_keep_22 ?_
  refine Rk.sp (G_bipush (pc := 25) dX3_keep_25 rfl) ?_
  refine Rk.icmp_ge (pc := 27) (tgt := 43) dX3_keep_27 (nmI (hσ2 _ _)) (nmI (inRk 6 rfl)) rfl (fun hc3 => ?_) (fun hc3 => ?_)
  · refine Rk.sp (G_aload_n (pc := 30) 0 rfl rfl dX3_keep_30) ?_
    refine Rk.sp (G_dup (pc := 31) dX3_keep_31 (fun _ h => by cases h)) ?_
    refine Rk.gI (pc := 32) flX3_20 cl3 rfl lb61 dX3_keep_32 ?_
    refine Rk.sp (G_iconst (pc := 35) dX3_keep_35) ?_
    refine Rk.sp (G_iadd (pc := 36) dX3_keep_36) ?_
    refine Rk.pI (pc := 37) hσ2 (nmW _) flX3_20 cl3 rfl rfl lb61 dX3_keep_37 (fun σ4 hσ4 => ?_)
    refine Rk.sp (G_goto (pc := 40) (tgt := 56) dX3_keep_40 rfl) ?_
    exact Rk.end_ (fun h => G_return (pc := 56) rfl dX3_keep_56 (q_V h hσ4))
  · refine Rk.sp (G_aload_n (pc := 43) 0 rfl rfl dX3_keep_43) ?_
    refine Rk.sp (G_aload_n (pc := 44) 0 rfl rfl dX3_keep_44) ?_
    refine Rk.gI (pc := 45) flX3_16 cl3 rfl lb61 dX3_keep_45 ?_
    refine Rk.sp (G_iconst (pc := 48) dX3_keep_48) ?_
    refine Rk.sp (G_iadd (pc := 49) dX3_keep_49) ?_
    refine Rk.sp (G_bipush (pc := 50) dX3_keep_50 rfl) ?_
    refine Rk.sp (G_irem (pc := 52) dX3_keep_52 (nmW _) (nmI (inRk 6 rfl)) (by decide)) ?_
    refine Rk.pI (pc := 53) hσ2 (nmI (tmodR (wrR _))) flX3_16 cl3 rfl rfl lb61 dX3_keep_53 (fun σ5 hσ5 => ?_)
    exact Rk.end_ (fun h => G_return (pc := 56) rfl dX3_keep_56 (q_V h hσ5))
theorem k_Td_minutes {κ : Kx} {μ : Sg} (a1 : Int) (σ : Sg) (ha1 : inR a1) (hok : okS σ) : CtI κ mX8_minutes 7 [vr 0, vi a1] false μ σ (Td_minutes a1 σ) := by
  intro r τ h
  refine con_of (by decide) (Nat.le_of_ble_eq_true rfl) 3 ?_
  refine (?_ : Rk κ mX8_minutes _ 0 [some (vr 0), some (vi a1), none, none, none] [] (ms false μ σ) (Td_minutes a1 σ) (fun a => a = (r, τ))) _ h rfl
  unfold Td_minutes
  refine Rk.sp (G_iload_n (pc := 0) 1 rfl rfl dX8_minutes_0) ?_
  refine Rk.sp (G_iconst (pc := 1) dX8_minutes_1) ?_
  refine Rk.sp (G_sipush (pc := 2) dX8_minutes_2 rfl) ?_
  refine Rk.cRZ (pc := 5) (Cl.s [vi a1, vi 1, vi 300] [] dX8_minutes_5 ckX8_81 rfl rfl (Nat.le_of_ble_eq_true rfl) (Nat.le_of_ble_eq_true rfl)) (k_Td_within a1 1 300 ha1 (inRk 1 rfl) (inRk 300 rfl)) (fun r1 hr1 => ?_)
  refine Rk.if_eq (pc := 8) (tgt := 28) dX8_minutes_8 (nmI (inZ.R hr1)) rfl (fun hc2 => ?_) (fun hc2 => ?_)
  · refine Rk.sp (G_iconst (pc := 28) dX8_minutes_28) ?_
    exact Rk.end_ (fun h => G_ireturn (pc := 29) rfl dX8_minutes_29 (q_I h (inRk (-1) rfl) hok))
  · refine Rk.sp (G_aload_n (pc := 11) 0 rfl rfl dX8_minutes_11) ?_
    refine Rk.gR (pc := 12) 1 flX8_12 cl8 rfl lb0 dX8_minutes_12 ?_
    refine Rk.gR (pc := 15) 2 flX8_71 cl7 rfl lb1 dX8_minutes_15 ?_
    refine Rk.gI (pc := 18) flX8_89 cl6 rfl lb2 dX8_minutes_18 ?_
    refine Rk.sp (G_iload_n (pc := 21) 1 rfl rfl dX8_minutes_21) ?_
    refine Rk.sp (G_iadd (pc := 22) dX8_minutes_22) ?_
    refine Rk.sp (G_ldc (pc := 23) (n := 99999) dX8_minutes_23 conX8_137 (by decide)) ?_
    refine Rk.icmp_le (pc := 25) (tgt := 30) dX8_minutes_25 (nmW _) (nmI (inRk 99999 rfl)) rfl (fun hc3 => ?_) (fun hc3 => ?_)
    · refine Rk.sp (G_iconst (pc := 28) dX8_minutes_28) ?_
      exact Rk.end_ (fun h => G_ireturn (pc := 29) rfl dX8_minutes_29 (q_I h (inRk (-1) rfl) hok))
    · refine Rk.sp (G_aload_n (pc := 30) 0 rfl rfl dX8_minutes_30) ?_
      refine Rk.gR (pc := 31) 1 flX8_12 cl8 rfl lb0 dX8_minutes_31 ?_
      refine Rk.gR (pc := 34) 2 flX8_71 cl7 rfl lb1 dX8_minutes_34 ?_
      refine Rk.gI (pc := 37) flX8_138 cl6 rfl lb2 dX8_minutes_37 ?_
      refine Rk.ist_n (pc := 40) 2 (fun v2_4 => [some (vr 0), some (vi a1), some (vi v2_4), none, none]) rfl (Nat.le_of_ble_eq_true rfl) rfl dX8_minutes_40 (nmI (hok _ _)) (fun _ => rfl) (fun v2_4 hv2_4 => ?_)
      refine Rk.sp (G_aload_n (pc := 41) 0 rfl rfl dX8_minutes_41) ?_
      refine Rk.gR (pc := 42) 152 flX8_45 cl8 rfl lb0 dX8_minutes_42 ?_
      refine Rk.sp (G_aload_n (pc := 45) 0 rfl rfl dX8_minutes_45) ?_
      refine Rk.gR (pc := 46) 1 flX8_12 cl8 rfl lb0 dX8_minutes_46 ?_
      refine Rk.gR (pc := 49) 2 flX8_71 cl7 rfl lb1 dX8_minutes_49 ?_
      refine Rk.sp (G_iconst (pc := 52) dX8_minutes_52) ?_
      refine Rk.cV (pc := 53) (Cl.v [vr 2, vi 0] [] dX8_minutes_53 ckX8_112 lb152 rfl rfl rfl (Nat.le_of_ble_eq_true rfl) (Nat.le_of_ble_eq_true rfl)) (k_Co_begin 2 0 σ lb2 (inRk 0 rfl) hok) (fun σ5 hσ5 => ?_)
      refine Rk.sp (G_iload_n (pc := 56) 1 rfl rfl dX8_minutes_56) ?_
      refine Rk.sp (G_bipush (pc := 57) dX8_minutes_57 rfl) ?_
      refine Rk.mmin (pc := 59) cmmX8_141 ha1 (inRk 6 rfl) (Nat.le_of_ble_eq_true rfl) (Nat.le_of_ble_eq_true rfl) dX8_minutes_59 (fun r6 hr6 => ?_)
      refine Rk.isa_n (pc := 62) 3 (L' := [some (vr 0), some (vi a1), some (vi v2_4), some (vi r6), none]) rfl (Nat.le_of_ble_eq_true rfl) rfl dX8_minutes_62 rfl ?_
      refine Rk.sp (G_aload_n (pc := 63) 0 rfl rfl dX8_minutes_63) ?_
      refine Rk.gR (pc := 64) 152 flX8_45 cl8 rfl lb0 dX8_minutes_64 ?_
      refine Rk.sp (G_iload_n (pc := 67) 1 rfl rfl dX8_minutes_67) ?_
      refine Rk.sp (G_iload_n (pc := 68) 3 rfl rfl dX8_minutes_68) ?_
      refine Rk.sp (G_isub (pc := 69) dX8_minutes_69) ?_
      refine Rk.sp (Go.n0 (nmW _)) ?_
      refine Rk.cV (pc := 70) (Cl.v [vi (wr (a1 - r6))] [] dX8_minutes_70 ckX8_147 lb152 rfl rfl rfl (Nat.le_of_ble_eq_true rfl) (Nat.le_of_ble_eq_true rfl)) (k_Co_go (wr (a1 - r6)) σ5 (wrR _) hσ5) (fun σ7 hσ7 => ?_)
      refine Rk.sp (G_iconst (pc := 73) dX8_minutes_73) ?_
      refine Rk.isa_w (pc := 74) 4 (L' := [some (vr 0), some (vi a1), some (vi v2_4), some (vi r6), some (vi 0)]) (Nat.le_of_ble_eq_true rfl) rfl dX8_minutes_74 rfl ?_
      refine Rk.fg [true, false, true, true, true] (L' := [some (vr 0), none, some (vi v2_4), some (vi r6), some (vi 0)]) rfl ?_
      refine Rk.loop (pc := 76) (B := (fun p => Td_minutes_76_b r6 v2_4 p.1 p.2)) (fun p => inR p.1 ∧ okS p.2) (fun p => [some (vr 0), none, some (vi v2_4), some (vi r6), some (vi p.1)]) (fun p => (ms false μ p.2)) (fun p hp => ?_) (0, σ7) ⟨(inRk 0 rfl), hσ7⟩
      obtain ⟨v4_8, σ9⟩ := p
      obtain ⟨hv4_8, hσ9⟩ := hp
      try dsimp only
      unfold Td_minutes_76_b
      refine Rk.sp (G_iload_w (pc := 76) 4 rfl dX8_minutes_76) ?_
      refine Rk.sp (G_iload_n (pc := 78) 3 rfl rfl dX8_minutes_78) ?_
      refine Rk.icmp_ge (pc := 79) (tgt := 109) dX8_minutes_79 (nmI hv4_8) (nmI hr6) rfl (fun hc10 => ?_) (fun hc10 => ?_)
      · refine Rk.sp (G_aload_n (pc := 82) 0 rfl rfl dX8_minutes_82) ?_
        refine Rk.gR (pc := 83) 61 flX8_22 cl8 rfl lb0 dX8_minutes_83 ?_
        refine Rk.sp (G_aload_n (pc := 86) 0 rfl rfl dX8_minutes_86) ?_
        refine Rk.gR (pc := 87) 1 flX8_12 cl8 rfl lb0 dX8_minutes_87 ?_
        refine Rk.gR (pc := 90) 2 flX8_71 cl7 rfl lb1 dX8_minutes_90 ?_
        refine Rk.cV (pc := 93) (Cl.v [vr 2] [] dX8_minutes_93 ckX8_108 lb61 rfl rfl rfl (Nat.le_of_ble_eq_true rfl) (Nat.le_of_ble_eq_true rfl)) (k_Pa_keep 2 σ9 lb2 hσ9) (fun σ11 hσ11 => ?_)
        refine Rk.sp (G_aload_n (pc := 96) 0 rfl rfl dX8_minutes_96) ?_
        refine Rk.gR (pc := 97) 152 flX8_45 cl8 rfl lb0 dX8_minutes_97 ?_
        refine Rk.cV (pc := 100) (Cl.v [] [] dX8_minutes_100 ckX8_150 lb152 rfl rfl rfl (Nat.le_of_ble_eq_true rfl) (Nat.le_of_ble_eq_true rfl)) (k_Co_pass σ11 hσ11) (fun σ12 hσ12 => ?_)
        refine Rk.inc (pc := 103) 4 (fun v4_13 => [some (vr 0), none, some (vi v2_4), some (vi r6), some (vi v4_13)]) rfl (Nat.le_of_ble_eq_true rfl) rfl dX8_minutes_103 (fun _ => rfl) (fun v4_13 hv4_13 => ?_)
        refine Rk.sp (G_goto (pc := 106) (tgt := 76) dX8_minutes_106 rfl) ?_
        exact Rk.end_ (fun h => h ⟨hv4_13, hσ12⟩)
      · refine Rk.sp (G_aload_n (pc := 109) 0 rfl rfl dX8_minutes_109) ?_
        refine Rk.gR (pc := 110) 1 flX8_12 cl8 rfl lb0 dX8_minutes_110 ?_
        refine Rk.gR (pc := 113) 2 flX8_71 cl7 rfl lb1 dX8_minutes_113 ?_
        refine Rk.gI (pc := 116) flX8_138 cl6 rfl lb2 dX8_minutes_116 ?_
        refine Rk.sp (G_iload_n (pc := 119) 2 rfl rfl dX8_minutes_119) ?_
        refine Rk.sp (G_isub (pc := 120) dX8_minutes_120) ?_
        refine Rk.sp (Go.n0 (nmW _)) ?_
        exact Rk.end_ (fun h => G_ireturn (pc := 121) rfl dX8_minutes_121 (q_I h (wrR _) hσ9))
theorem k_Td_mirrors {κ : Kx} {μ : Sg} (a1 : Int) (a2 : Int) (σ : Sg) (ha1 : inR a1) (ha2 : inR a2) (hok : okS σ) : CtI κ mX8_mirrors 3 [vr 0, vi a1, vi a2] false μ σ (Td_mirrors a1 a2 σ) := by
  intro r τ h
  refine con_of (by decide) (Nat.le_of_ble_eq_true rfl) 3 ?_
  refine (?_ : Rk κ mX8_mirrors _ 0 [some (vr 0), some (vi a1), some (vi a2), none, none, none] [] (ms false μ σ) (Td_mirrors a1 a2 σ) (fun a => a = (r, τ))) _ h rfl
  unfold Td_mirrors
  refine Rk.sp (G_iload_n (pc := 0) 1 rfl rfl dX8_mirrors_0) ?_
  refine Rk.sp (G_iconst (pc := 1) dX8_mirrors_1) ?_
  refine Rk.sp (G_bipush (pc := 2) dX8_mirrors_2 rfl) ?_
  refine Rk.cRZ (pc := 4) (Cl.s [vi a1, vi 1, vi 99] [] dX8_mirrors_4 ckX8_81 rfl rfl (Nat.le_of_ble_eq_true rfl) (Nat.le_of_ble_eq_true rfl)) (k_Td_within a1 1 99 ha1 (inRk 1 rfl) (inRk 99 rfl)) (fun r1 hr1 => ?_)
  refine Rk.if_eq (pc := 7) (tgt := 19) dX8_mirrors_7 (nmI (inZ.R hr1)) rfl (fun hc2 => ?_) (fun hc2 => ?_)
  · refine Rk.sp (G_iconst (pc := 19) dX8_mirrors_19) ?_
    exact Rk.end_ (fun h => G_ireturn (pc := 20) rfl dX8_mirrors_20 (q_I h (inRk (-1) rfl) hok))
  · refine Rk.sp (G_iload_n (pc := 10) 2 rfl rfl dX8_mirrors_10) ?_
    refine Rk.sp (G_iconst (pc := 11) dX8_mirrors_11) ?_
    refine Rk.sp (G_iconst (pc := 12) dX8_mirrors_12) ?_
    refine Rk.cRZ (pc := 13) (Cl.s [vi a2, vi 0, vi 1] [] dX8_mirrors_13 ckX8_81 rfl rfl (Nat.le_of_ble_eq_true rfl) (Nat.le_of_ble_eq_true rfl)) (k_Td_within a2 0 1 ha2 (inRk 0 rfl) (inRk 1 rfl)) (fun r3 hr3 => ?_)
    refine Rk.if_ne (pc := 16) (tgt := 21) dX8_mirrors_16 (nmI (inZ.R hr3)) rfl (fun hc4 => ?_) (fun hc4 => ?_)
    · refine Rk.sp (G_iconst (pc := 19) dX8_mirrors_19) ?_
      exact Rk.end_ (fun h => G_ireturn (pc := 20) rfl dX8_mirrors_20 (q_I h (inRk (-1) rfl) hok))
    · refine Rk.sp (G_iload_n (pc := 21) 1 rfl rfl dX8_mirrors_21) ?_
      refine Rk.isa_n (pc := 22) 3 (L' := [some (vr 0), some (vi a1), some (vi a2), some (vi a1), none, none]) rfl (Nat.le_of_ble_eq_true rfl) rfl dX8_mirrors_22 rfl ?_
      refine Rk.sp (G_iconst (pc := 23) dX8_mirrors_23) ?_
      refine Rk.isa_w (pc := 24) 4 (L' := [some (vr 0), some (vi a1), some (vi a2), some (vi a1), some (vi 1), none]) (Nat.le_of_ble_eq_true rfl) rfl dX8_mirrors_24 rfl ?_
      refine Rk.fg [true, false, true, true, true, false] (L' := [some (vr 0), none, some (vi a2), some (vi a1), some (vi 1), none]) rfl ?_
      refine Rk.loop (pc := 26) (B := (fun p => Td_mirrors_26_b a2 p.1 p.2.1 p.2.2)) (fun p => inR p.1 ∧ inR p.2.1 ∧ okS p.2.2) (fun p => [some (vr 0), none, some (vi a2), some (vi p.1), some (vi p.2.1), none]) (fun p => (ms false μ p.2.2)) (fun p hp => ?_) (a1, 1, σ) ⟨ha1, (inRk 1 rfl), hok⟩
      obtain ⟨v3_5, v4_6, σ7⟩ := p
      obtain ⟨hv3_5, hv4_6, hσ7⟩ := hp
      try dsimp only
      unfold Td_mirrors_26_b
      refine Rk.sp (G_iload_w (pc := 26) 4 rfl dX8_mirrors_26) ?_
      refine Rk.sp (G_bipush (pc := 28) dX8_mirrors_28 rfl) ?_
      refine Rk.icmp_gt (pc := 30) (tgt := 113) dX8_mirrors_30 (nmI hv4_6) (nmI (inRk 60 rfl)) rfl (fun hc8 => ?_) (fun hc8 => ?_)
      · refine Rk.sp (G_iload_n (pc := 113) 2 rfl rfl dX8_mirrors_113) ?_
        refine Rk.if_ne (pc := 114) (tgt := 121) dX8_mirrors_114 (nmI ha2) rfl (fun hc9 => ?_) (fun hc9 => ?_)
        · refine Rk.sp (G_iconst (pc := 117) dX8_mirrors_117) ?_
          refine Rk.sp (G_goto (pc := 118) (tgt := 122) dX8_mirrors_118 rfl) ?_
          exact Rk.end_ (fun h => G_ireturn (pc := 122) rfl dX8_mirrors_122 (q_I h (inRk (-1) rfl) hσ7))
        · refine Rk.sp (G_iload_n (pc := 121) 3 rfl rfl dX8_mirrors_121) ?_
          exact Rk.end_ (fun h => G_ireturn (pc := 122) rfl dX8_mirrors_122 (q_I h hv3_5 hσ7))
      · refine Rk.sp (G_aload_n (pc := 33) 0 rfl rfl dX8_mirrors_33) ?_
        refine Rk.gR (pc := 34) 149 flX8_36 cl8 rfl lb0 dX8_mirrors_34 ?_
        refine Rk.sp (G_aload_n (pc := 37) 0 rfl rfl dX8_mirrors_37) ?_
        refine Rk.gR (pc := 38) 1 flX8_12 cl8 rfl lb0 dX8_mirrors_38 ?_
        refine Rk.sp (G_aload_n (pc := 41) 0 rfl rfl dX8_mirrors_41) ?_
        refine Rk.gR (pc := 42) 1 flX8_12 cl8 rfl lb0 dX8_mirrors_42 ?_
        refine Rk.gR (pc := 45) 2 flX8_71 cl7 rfl lb1 dX8_mirrors_45 ?_
        refine Rk.sp (G_iload_w (pc := 48) 4 rfl dX8_mirrors_48) ?_
        refine Rk.sp (G_iconst (pc := 50) dX8_mirrors_50) ?_
        refine Rk.sp (G_isub (pc := 51) dX8_mirrors_51) ?_
        refine Rk.sp (G_iconst (pc := 52) dX8_mirrors_52) ?_
        refine Rk.sp (G_irem (pc := 53) dX8_mirrors_53 (nmW _) (nmI (inRk 2 rfl)) (by decide)) ?_
        refine Rk.cV (pc := 54) (Cl.v [vr 1, vr 2, vi (Int.tmod (wr (v4_6 - 1)) 2)] [] dX8_mirrors_54 ckX8_224 lb149 rfl rfl rfl (Nat.le_of_ble_eq_true rfl) (Nat.le_of_ble_eq_true rfl)) (k_Ju_sit 1 2 (Int.tmod (wr (v4_6 - 1)) 2) σ7 lb1 lb2 (tmodR (wrR _)) hσ7) (fun σ10 hσ10 => ?_)
        refine Rk.sp (G_aload_n (pc := 57) 0 rfl rfl dX8_mirrors_57) ?_
        refine Rk.gR (pc := 58) 149 flX8_36 cl8 rfl lb0 dX8_mirrors_58 ?_
        refine Rk.sp (G_iload_n (pc := 61) 3 rfl rfl dX8_mirrors_61) ?_
        refine Rk.sp (G_iconst (pc := 62) dX8_mirrors_62) ?_
        refine Rk.sp (G_iconst (pc := 63) dX8_mirrors_63) ?_
        refine Rk.cV (pc := 64) (Cl.v [vi v3_5, vi 0, vi 0] [] dX8_mirrors_64 ckX8_228 lb149 rfl rfl rfl (Nat.le_of_ble_eq_true rfl) (Nat.le_of_ble_eq_true rfl)) (k_Ju_lay v3_5 0 0 σ10 hv3_5 (inRk 0 rfl) (inRk 0 rfl) hσ10) (fun σ11 hσ11 => ?_)
        refine Rk.sp (G_aload_n (pc := 67) 0 rfl rfl dX8_mirrors_67) ?_
        refine Rk.gR (pc := 68) 149 flX8_36 cl8 rfl lb0 dX8_mirrors_68 ?_
        refine Rk.sp (G_aload_n (pc := 71) 0 rfl rfl dX8_mirrors_71) ?_
        refine Rk.gR (pc := 72) 1 flX8_12 cl8 rfl lb0 dX8_mirrors_72 ?_
        refine Rk.gR (pc := 75) 16 flX8_168 cl7 rfl lb1 dX8_mirrors_75 ?_
        refine Rk.sp (G_iconst (pc := 78) dX8_mirrors_78) ?_
        refine Rk.sp (fun k => G_aaload2 (pc := 79) 17 (lb16).1 ⟨by decide, by decide⟩ rfl dX8_mirrors_79 k) ?_
        refine Rk.sp (G_iconst (pc := 80) dX8_mirrors_80) ?_
        refine Rk.cI (pc := 81) (Cl.v [vr 17, vi 1] [] dX8_mirrors_81 ckX8_232 lb149 rfl rfl rfl (Nat.le_of_ble_eq_true rfl) (Nat.le_of_ble_eq_true rfl)) (k_Ju_tells 17 1 σ11 lb17 (inRk 1 rfl) hσ11) (fun r12 σ13 hr12 hσ13 => ?_)
        refine Rk.isa_w (pc := 84) 5 (L' := [some (vr 0), none, some (vi a2), some (vi v3_5), some (vi v4_6), some (vi r12)]) (Nat.le_of_ble_eq_true rfl) rfl dX8_mirrors_84 rfl ?_
        refine Rk.sp (G_iload_w (pc := 86) 5 rfl dX8_mirrors_86) ?_
        refine Rk.sp (G_iload_n (pc := 88) 3 rfl rfl dX8_mirrors_88) ?_
        refine Rk.icmp_ne (pc := 89) (tgt := 104) dX8_mirrors_89 (nmI hr12) (nmI hv3_5) rfl (fun hc14 => ?_) (fun hc14 => ?_)
        · refine Rk.sp (G_iload_n (pc := 92) 2 rfl rfl dX8_mirrors_92) ?_
          refine Rk.if_ne (pc := 93) (tgt := 101) dX8_mirrors_93 (nmI ha2) rfl (fun hc15 => ?_) (fun hc15 => ?_)
          · refine Rk.sp (G_iload_w (pc := 96) 4 rfl dX8_mirrors_96) ?_
            refine Rk.sp (G_goto (pc := 98) (tgt := 103) dX8_mirrors_98 rfl) ?_
            exact Rk.end_ (fun h => G_ireturn (pc := 103) rfl dX8_mirrors_103 (q_I h hv4_6 hσ13))
          · refine Rk.sp (G_iload_w (pc := 101) 5 rfl dX8_mirrors_101) ?_
            exact Rk.end_ (fun h => G_ireturn (pc := 103) rfl dX8_mirrors_103 (q_I h hr12 hσ13))
        · refine Rk.sp (G_iload_w (pc := 104) 5 rfl dX8_mirrors_104) ?_
          refine Rk.isa_n (pc := 106) 3 (L' := [some (vr 0), none, some (vi a2), some (vi r12), some (vi v4_6), some (vi r12)]) rfl (Nat.le_of_ble_eq_true rfl) rfl dX8_mirrors_106 rfl ?_
          refine Rk.inc (pc := 107) 4 (fun v4_16 => [some (vr 0), none, some (vi a2), some (vi r12), some (vi v4_16), some (vi r12)]) rfl (Nat.le_of_ble_eq_true rfl) rfl dX8_mirrors_107 (fun _ => rfl) (fun v4_16 hv4_16 => ?_)
          refine Rk.sp (G_goto (pc := 110) (tgt := 26) dX8_mirrors_110 rfl) ?_
          refine Rk.fg [true, false, true, true, true, false] (L' := [some (vr 0), none, some (vi a2), some (vi r12), some (vi v4_16), none]) rfl ?_
          exact Rk.end_ (fun h => h ⟨hr12, hv4_16, hσ13⟩)
theorem k_Wo_surer {κ : Kx} {μ : Sg} (t0 : Nat) (a1 : Int) (a2 : Int) (a3 : Int) (σ : Sg) (ht0 : LB false t0 (1, 7)) (ha1 : inR a1) (ha2 : inR a2) (ha3 : inR a3) (hok : okS σ) : CtRI κ mX7_surer 1 [vr t0, vi a1, vi a2, vi a3] false μ σ (Wo_surer t0 a1 a2 a3 σ) := by
  intro r h
  refine con_of (by decide) (Nat.le_of_ble_eq_true rfl) 8 ?_
  refine (?_ : Rk κ mX7_surer _ 0 [some (vr t0), some (vi a1), some (vi a2), some (vi a3), none, none, none, none, none, none, none, none] [] (ms false μ σ) (Wo_surer t0 a1 a2 a3 σ) (fun a => a = r)) _ h rfl
  unfold Wo_surer
  refine Rk.sp (G_aload_n (pc := 0) 0 rfl rfl dX7_surer_0) ?_
  refine Rk.gR (pc := 1) (t0 + 15) flX7_27 cl7 rfl ht0 dX7_surer_1 ?_
  refine Rk.sp (G_iconst (pc := 4) dX7_surer_4) ?_
  refine Rk.sp (fun k => G_aaload2 (pc := 5) (t0 + 25) ((LBw ht0).2.2.1).1 ⟨by decide, by decide⟩ rfl dX7_surer_5 k) ?_
  refine Rk.sp (G_iload_n (pc := 6) 2 rfl rfl dX7_surer_6) ?_
  refine Rk.sp (G_iconst (pc := 7) dX7_surer_7) ?_
  refine Rk.cRI (pc := 8) (Cl.v [vi a2, vi 0] [] dX7_surer_8 ckX7_60 ((LBw ht0).2.2.2.2.2 3 (by decide)) rfl rfl rfl (Nat.le_of_ble_eq_true rfl) (Nat.le_of_ble_eq_true rfl)) (k_Sh_cell (t0 + 25) a2 0 σ ((LBw ht0).2.2.2.2.2 3 (by decide)) ha2 (inRk 0 rfl) hok) (fun r1 hr1 => ?_)
  refine Rk.isa_w (pc := 11) 4 (L' := [some (vr t0), some (vi a1), some (vi a2), some (vi a3), some (vi r1), none, none, none, none, none, none, none]) (Nat.le_of_ble_eq_true rfl) rfl dX7_surer_11 rfl ?_
  refine Rk.sp (G_aload_n (pc := 13) 0 rfl rfl dX7_surer_13) ?_
  refine Rk.gR (pc := 14) (t0 + 15) flX7_27 cl7 rfl ht0 dX7_surer_14 ?_
  refine Rk.sp (G_iconst (pc := 17) dX7_surer_17) ?_
  refine Rk.sp (fun k => G_aaload2 (pc := 18) (t0 + 25) ((LBw ht0).2.2.1).1 ⟨by decide, by decide⟩ rfl dX7_surer_18 k) ?_
  refine Rk.sp (G_iload_n (pc := 19) 2 rfl rfl dX7_surer_19) ?_
  refine Rk.sp (G_iconst (pc := 20) dX7_surer_20) ?_
  refine Rk.cRI (pc := 21) (Cl.v [vi a2, vi 1] [] dX7_surer_21 ckX7_60 ((LBw ht0).2.2.2.2.2 3 (by decide)) rfl rfl rfl (Nat.le_of_ble_eq_true rfl) (Nat.le_of_ble_eq_true rfl)) (k_Sh_cell (t0 + 25) a2 1 σ ((LBw ht0).2.2.2.2.2 3 (by decide)) ha2 (inRk 1 rfl) hok) (fun r2 hr2 => ?_)
  refine Rk.isa_w (pc := 24) 5 (L' := [some (vr t0), some (vi a1), some (vi a2), some (vi a3), some (vi r1), some (vi r2), none, none, none, none, none, none]) (Nat.le_of_ble_eq_true rfl) rfl dX7_surer_24 rfl ?_
  refine Rk.sp (G_iload_n (pc := 26) 1 rfl rfl dX7_surer_26) ?_
  refine Rk.sp (G_i2l (pc := 27) dX7_surer_27 (nmI ha1)) ?_
  refine Rk.sp (G_iload_n (pc := 28) 3 rfl rfl dX7_surer_28) ?_
  refine Rk.join (P := fun p => inR p) (pcj := 43) (fun p => [none, some (vi a1), none, some (vi a3), some (vi r1), none, none, none, none, none, none, none]) (fun p => [vi p, vl a1]) (fun p => (ms false μ σ)) ?_ (fun p hp => ?_)
  · refine Rk.if_eq (pc := 29) (tgt := 37) dX7_surer_29 (nmI ha3) rfl (fun hc3 => ?_) (fun hc3 => ?_)
    · refine Rk.sp (G_sipush (pc := 37) dX7_surer_37 rfl) ?_
      refine Rk.sp (G_iload_w (pc := 40) 5 rfl dX7_surer_40) ?_
      refine Rk.sp (G_isub (pc := 42) dX7_surer_42) ?_
      refine Rk.sp (Go.n0 (nmW _)) ?_
      refine Rk.fg [false, true, false, true, true, false, false, false, false, false, false, false] (L' := [none, some (vi a1), none, some (vi a3), some (vi r1), none, none, none, none, none, none, none]) rfl ?_
      exact Rk.end_ (fun h => h (wrR _))
    · refine Rk.sp (G_iload_w (pc := 32) 5 rfl dX7_surer_32) ?_
      refine Rk.sp (G_goto (pc := 34) (tgt := 43) dX7_surer_34 rfl) ?_
      refine Rk.fg [false, true, false, true, true, false, false, false, false, false, false, false] (L' := [none, some (vi a1), none, some (vi a3), some (vi r1), none, none, none, none, none, none, none]) rfl ?_
      exact Rk.end_ (fun h => h hr2)
  · revert hp; revert p; intro t4 ht4
    try dsimp only
    refine Rk.sp (G_i2l (pc := 43) dX7_surer_43 (nmI ht4)) ?_
    refine Rk.sp (G_lmul (pc := 44) dX7_surer_44) ?_
    refine Rk.lst_w (pc := 45) 6 (fun v6_5 => [none, some (vi a1), none, some (vi a3), some (vi r1), none, some (vl v6_5), none, none, none, none, none]) (Nat.le_of_ble_eq_true rfl) rfl dX7_surer_45 (nmjW _) (fun _ => rfl) (fun v6_5 hv6_5 => ?_)
    refine Rk.sp (G_ldc2 (pc := 47) (n := 1000000) dX7_surer_47 conjX7_67 (by decide)) ?_
    refine Rk.sp (G_iload_n (pc := 50) 1 rfl rfl dX7_surer_50) ?_
    refine Rk.sp (G_i2l (pc := 51) dX7_surer_51 (nmI ha1)) ?_
    refine Rk.sp (G_lsub (pc := 52) dX7_surer_52) ?_
    refine Rk.sp (G_iload_n (pc := 53) 3 rfl rfl dX7_surer_53) ?_
    refine Rk.join (P := fun p => inR p) (pcj := 68) (fun p => [none, some (vi a1), none, none, none, none, some (vl v6_5), none, none, none, none, none]) (fun p => [vi p, vl (1000000 - a1)]) (fun p => (ms false μ σ)) ?_ (fun p hp => ?_)
    · refine Rk.if_eq (pc := 54) (tgt := 62) dX7_surer_54 (nmI ha3) rfl (fun hc6 => ?_) (fun hc6 => ?_)
      · refine Rk.sp (G_sipush (pc := 62) dX7_surer_62 rfl) ?_
        refine Rk.sp (G_iload_w (pc := 65) 4 rfl dX7_surer_65) ?_
        refine Rk.sp (G_isub (pc := 67) dX7_surer_67) ?_
        refine Rk.sp (Go.n0 (nmW _)) ?_
        refine Rk.fg [false, true, false, false, false, false, true, false, false, false, false, false] (L' := [none, some (vi a1), none, none, none, none, some (vl v6_5), none, none, none, none, none]) rfl ?_
        exact Rk.end_ (fun h => h (wrR _))
      · refine Rk.sp (G_iload_w (pc := 57) 4 rfl dX7_surer_57) ?_
        refine Rk.sp (G_goto (pc := 59) (tgt := 68) dX7_surer_59 rfl) ?_
        refine Rk.fg [false, true, false, false, false, false, true, false, false, false, false, false] (L' := [none, some (vi a1), none, none, none, none, some (vl v6_5), none, none, none, none, none]) rfl ?_
        exact Rk.end_ (fun h => h hr1)
    · revert hp; revert p; intro t7 ht7
      try dsimp only
      refine Rk.sp (G_i2l (pc := 68) dX7_surer_68 (nmI ht7)) ?_
      refine Rk.sp (G_lmul (pc := 69) dX7_surer_69) ?_
      refine Rk.lst_w (pc := 70) 8 (fun v8_8 => [none, some (vi a1), none, none, none, none, some (vl v6_5), none, some (vl v8_8), none, none, none]) (Nat.le_of_ble_eq_true rfl) rfl dX7_surer_70 (nmjW _) (fun _ => rfl) (fun v8_8 hv8_8 => ?_)
      refine Rk.sp (G_lload_w (pc := 72) 6 rfl dX7_surer_72) ?_
      refine Rk.sp (G_lload_w (pc := 74) 8 rfl dX7_surer_74) ?_
      refine Rk.sp (G_ladd (pc := 76) dX7_surer_76) ?_
      refine Rk.lst_w (pc := 77) 10 (fun v10_9 => [none, some (vi a1), none, none, none, none, some (vl v6_5), none, some (vl v8_8), none, some (vl v10_9), none]) (Nat.le_of_ble_eq_true rfl) rfl dX7_surer_77 (nmjW _) (fun _ => rfl) (fun v10_9 hv10_9 => ?_)
      refine Rk.sp (G_lload_w (pc := 79) 10 rfl dX7_surer_79) ?_
      refine Rk.sp (G_lconst (pc := 81) dX7_surer_81) ?_
      refine Rk.sp (G_lcmp (pc := 82) dX7_surer_82 (nmjI hv10_9) (nmjI (inJk 0 rfl))) ?_
      refine Rk.if_le (pc := 83) (tgt := 99) dX7_surer_83 (nmI (cmpJ_R _ _)) rfl (fun hc10 => ?_) (fun hc10 => ?_)
      · refine Rk.sp (G_lload_w (pc := 86) 6 rfl dX7_surer_86) ?_
        refine Rk.sp (G_ldc2 (pc := 88) (n := 1000000) dX7_surer_88 conjX7_67 (by decide)) ?_
        refine Rk.sp (G_lmul (pc := 91) dX7_surer_91) ?_
        refine Rk.sp (G_lload_w (pc := 92) 10 rfl dX7_surer_92) ?_
        refine Rk.qnz (fun hz11 => ?_)
        refine Rk.sp (G_ldiv (pc := 94) dX7_surer_94 (nmjW _) (nmjI hv10_9) hz11) ?_
        refine Rk.sp (G_l2i (pc := 95) dX7_surer_95) ?_
        refine Rk.sp (G_goto (pc := 96) (tgt := 100) dX7_surer_96 rfl) ?_
        refine Rk.sp (Go.n0 (nmW _)) ?_
        exact Rk.end_ (fun h => G_ireturn (pc := 100) rfl dX7_surer_100 (q_RI h (wrR _)))
      · refine Rk.sp (G_iload_n (pc := 99) 1 rfl rfl dX7_surer_99) ?_
        exact Rk.end_ (fun h => G_ireturn (pc := 100) rfl dX7_surer_100 (q_RI h ha1))
theorem k_Td_needs {κ : Kx} {μ : Sg} (a1 : Int) (a2 : Int) (σ : Sg) (ha1 : inR a1) (ha2 : inR a2) (hok : okS σ) : CtRI κ mX8_needs 2 [vr 0, vi a1, vi a2] false μ σ (Td_needs a1 a2 σ) := by
  intro r h
  refine con_of (by decide) (Nat.le_of_ble_eq_true rfl) 2 ?_
  refine (?_ : Rk κ mX8_needs _ 0 [some (vr 0), some (vi a1), some (vi a2), none, none] [] (ms false μ σ) (Td_needs a1 a2 σ) (fun a => a = r)) _ h rfl
  unfold Td_needs
  refine Rk.sp (G_iload_n (pc := 0) 1 rfl rfl dX8_needs_0) ?_
  refine Rk.sp (G_iconst (pc := 1) dX8_needs_1) ?_
  refine Rk.sp (G_sipush (pc := 2) dX8_needs_2 rfl) ?_
  refine Rk.cRZ (pc := 5) (Cl.s [vi a1, vi 0, vi 1000] [] dX8_needs_5 ckX8_81 rfl rfl (Nat.le_of_ble_eq_true rfl) (Nat.le_of_ble_eq_true rfl)) (k_Td_within a1 0 1000 ha1 (inRk 0 rfl) (inRk 1000 rfl)) (fun r1 hr1 => ?_)
  refine Rk.if_eq (pc := 8) (tgt := 28) dX8_needs_8 (nmI (inZ.R hr1)) rfl (fun hc2 => ?_) (fun hc2 => ?_)
  · refine Rk.sp (G_iconst (pc := 28) dX8_needs_28) ?_
    exact Rk.end_ (fun h => G_ireturn (pc := 29) rfl dX8_needs_29 (q_RI h (inRk (-1) rfl)))
  · refine Rk.sp (G_iload_n (pc := 11) 2 rfl rfl dX8_needs_11) ?_
    refine Rk.sp (G_iconst (pc := 12) dX8_needs_12) ?_
    refine Rk.sp (G_aload_n (pc := 13) 0 rfl rfl dX8_needs_13) ?_
    refine Rk.gR (pc := 14) 1 flX8_12 cl8 rfl lb0 dX8_needs_14 ?_
    refine Rk.cRI (pc := 17) (Cl.v [] [vi 0, vi a2] dX8_needs_17 ckX8_258 lb1 rfl rfl rfl (Nat.le_of_ble_eq_true rfl) (Nat.le_of_ble_eq_true rfl)) (k_Wo_signs 1 σ lb1 hok) (fun r3 hr3 => ?_)
    refine Rk.sp (G_iconst (pc := 20) dX8_needs_20) ?_
    refine Rk.sp (G_isub (pc := 21) dX8_needs_21) ?_
    refine Rk.sp (Go.n0 (nmW _)) ?_
    refine Rk.cRZ (pc := 22) (Cl.s [vi a2, vi 0, vi (wr (r3 - 1))] [] dX8_needs_22 ckX8_81 rfl rfl (Nat.le_of_ble_eq_true rfl) (Nat.le_of_ble_eq_true rfl)) (k_Td_within a2 0 (wr (r3 - 1)) ha2 (inRk 0 rfl) (wrR _)) (fun r4 hr4 => ?_)
    refine Rk.if_ne (pc := 25) (tgt := 30) dX8_needs_25 (nmI (inZ.R hr4)) rfl (fun hc5 => ?_) (fun hc5 => ?_)
    · refine Rk.sp (G_iconst (pc := 28) dX8_needs_28) ?_
      exact Rk.end_ (fun h => G_ireturn (pc := 29) rfl dX8_needs_29 (q_RI h (inRk (-1) rfl)))
    · refine Rk.sp (G_iload_n (pc := 30) 1 rfl rfl dX8_needs_30) ?_
      refine Rk.sp (G_sipush (pc := 31) dX8_needs_31 rfl) ?_
      refine Rk.sp (G_imul (pc := 34) dX8_needs_34) ?_
      refine Rk.ist_n (pc := 35) 3 (fun v3_6 => [some (vr 0), some (vi a1), some (vi a2), some (vi v3_6), none]) rfl (Nat.le_of_ble_eq_true rfl) rfl dX8_needs_35 (nmW _) (fun _ => rfl) (fun v3_6 hv3_6 => ?_)
      refine Rk.sp (G_iconst (pc := 36) dX8_needs_36) ?_
      refine Rk.isa_w (pc := 37) 4 (L' := [some (vr 0), some (vi a1), some (vi a2), some (vi v3_6), some (vi 0)]) (Nat.le_of_ble_eq_true rfl) rfl dX8_needs_37 rfl ?_
      refine Rk.fg [true, false, true, true, true] (L' := [some (vr 0), none, some (vi a2), some (vi v3_6), some (vi 0)]) rfl ?_
      refine Rk.loop (pc := 39) (B := (fun p => Td_needs_39_b a2 σ p.1 p.2)) (fun p => inR p.1 ∧ inR p.2) (fun p => [some (vr 0), none, some (vi a2), some (vi p.1), some (vi p.2)]) (fun p => (ms false μ σ)) (fun p hp => ?_) (v3_6, 0) ⟨hv3_6, (inRk 0 rfl)⟩
      obtain ⟨v3_7, v4_8⟩ := p
      obtain ⟨hv3_7, hv4_8⟩ := hp
      try dsimp only
      unfold Td_needs_39_b
      refine Rk.sp (G_iload_w (pc := 39) 4 rfl dX8_needs_39) ?_
      refine Rk.sp (G_bipush (pc := 41) dX8_needs_41 rfl) ?_
      refine Rk.icmp_gt (pc := 43) (tgt := 73) dX8_needs_43 (nmI hv4_8) (nmI (inRk 60 rfl)) rfl (fun hc9 => ?_) (fun hc9 => ?_)
      · refine Rk.sp (G_iconst (pc := 73) dX8_needs_73) ?_
        exact Rk.end_ (fun h => G_ireturn (pc := 74) rfl dX8_needs_74 (q_RI h (inRk (-1) rfl)))
      · refine Rk.sp (G_iload_n (pc := 46) 3 rfl rfl dX8_needs_46) ?_
        refine Rk.sp (G_ldcw (pc := 47) (n := 500000) dX8_needs_47 conX8_265 (by decide)) ?_
        refine Rk.icmp_lt (pc := 50) (tgt := 56) dX8_needs_50 (nmI hv3_7) (nmI (inRk 500000 rfl)) rfl (fun hc10 => ?_) (fun hc10 => ?_)
        · refine Rk.sp (G_aload_n (pc := 56) 0 rfl rfl dX8_needs_56) ?_
          refine Rk.gR (pc := 57) 1 flX8_12 cl8 rfl lb0 dX8_needs_57 ?_
          refine Rk.sp (G_iload_n (pc := 60) 3 rfl rfl dX8_needs_60) ?_
          refine Rk.sp (G_iload_n (pc := 61) 2 rfl rfl dX8_needs_61) ?_
          refine Rk.sp (G_iconst (pc := 62) dX8_needs_62) ?_
          refine Rk.cRI (pc := 63) (Cl.v [vi v3_7, vi a2, vi 1] [] dX8_needs_63 ckX8_261 lb1 rfl rfl rfl (Nat.le_of_ble_eq_true rfl) (Nat.le_of_ble_eq_true rfl)) (k_Wo_surer 1 v3_7 a2 1 σ lb1 hv3_7 ha2 (inRk 1 rfl) hok) (fun r11 hr11 => ?_)
          refine Rk.isa_n (pc := 66) 3 (L' := [some (vr 0), none, some (vi a2), some (vi r11), some (vi v4_8)]) rfl (Nat.le_of_ble_eq_true rfl) rfl dX8_needs_66 rfl ?_
          refine Rk.inc (pc := 67) 4 (fun v4_12 => [some (vr 0), none, some (vi a2), some (vi r11), some (vi v4_12)]) rfl (Nat.le_of_ble_eq_true rfl) rfl dX8_needs_67 (fun _ => rfl) (fun v4_12 hv4_12 => ?_)
          refine Rk.sp (G_goto (pc := 70) (tgt := 39) dX8_needs_70 rfl) ?_
          exact Rk.end_ (fun h => h ⟨hr11, hv4_12⟩)
        · refine Rk.sp (G_iload_w (pc := 53) 4 rfl dX8_needs_53) ?_
          exact Rk.end_ (fun h => G_ireturn (pc := 55) rfl dX8_needs_55 (q_RI h hv4_8))
theorem k_Td_of {κ : Kx} {μ : Sg} (a1 : Int) (a2 : Int) (σ : Sg) (ha1 : inR a1) (ha2 : inR a2) (hok : okS σ) : CtRI κ mX8_of 2 [vr 0, vi a1, vi a2] false μ σ (Td_of a1 a2 σ) := by
  intro r h
  refine con_of (by decide) (Nat.le_of_ble_eq_true rfl) 0 ?_
  refine (?_ : Rk κ mX8_of _ 0 [some (vr 0), some (vi a1), some (vi a2)] [] (ms false μ σ) (Td_of a1 a2 σ) (fun a => a = r)) _ h rfl
  unfold Td_of
  refine Rk.sp (G_iload_n (pc := 0) 1 rfl rfl dX8_of_0) ?_
  refine Rk.cRZ (pc := 1) (Cl.s [vi a1] [] dX8_of_1 ckX8_85 rfl rfl (Nat.le_of_ble_eq_true rfl) (Nat.le_of_ble_eq_true rfl)) (k_Td_isOne a1 ha1) (fun r1 hr1 => ?_)
  refine Rk.if_ne (pc := 4) (tgt := 9) dX8_of_4 (nmI (inZ.R hr1)) rfl (fun hc2 => ?_) (fun hc2 => ?_)
  · refine Rk.sp (G_iconst (pc := 7) dX8_of_7) ?_
    exact Rk.end_ (fun h => G_ireturn (pc := 8) rfl dX8_of_8 (q_RI h (inRk (-1) rfl)))
  · refine Rk.sp (G_iload_n (pc := 9) 2 rfl rfl dX8_of_9) ?_
    refine Rk.ite (fun hc3 => ?_) (fun hc3 => ?_)
    · refine Rk.tblI (pc := 10) (tgt := 40) 0 hc3 dX8_of_10 (nmI ha2) (by decide) (by decide) rfl rfl ?_
      refine Rk.sp (G_aload_n (pc := 40) 0 rfl rfl dX8_of_40) ?_
      refine Rk.gR (pc := 41) 1 flX8_12 cl8 rfl lb0 dX8_of_41 ?_
      refine Rk.gR (pc := 44) 2 flX8_71 cl7 rfl lb1 dX8_of_44 ?_
      refine Rk.gR (pc := 47) 3 flX8_95 cl6 rfl lb2 dX8_of_47 ?_
      refine Rk.sp (G_iload_n (pc := 50) 1 rfl rfl dX8_of_50) ?_
      refine Rk.al (pc := 51) lb3 dX8_of_51 (fun hi4 => ?_)
      exact Rk.end_ (fun h => G_ireturn (pc := 52) rfl dX8_of_52 (q_RI h (hok _ _)))
    · refine Rk.ite (fun hc5 => ?_) (fun hc5 => ?_)
      · refine Rk.tblI (pc := 10) (tgt := 53) 1 hc5 dX8_of_10 (nmI ha2) (by decide) (by decide) rfl rfl ?_
        refine Rk.sp (G_aload_n (pc := 53) 0 rfl rfl dX8_of_53) ?_
        refine Rk.gR (pc := 54) 1 flX8_12 cl8 rfl lb0 dX8_of_54 ?_
        refine Rk.gR (pc := 57) 2 flX8_71 cl7 rfl lb1 dX8_of_57 ?_
        refine Rk.gR (pc := 60) 4 flX8_98 cl6 rfl lb2 dX8_of_60 ?_
        refine Rk.sp (G_iload_n (pc := 63) 1 rfl rfl dX8_of_63) ?_
        refine Rk.al (pc := 64) lb4 dX8_of_64 (fun hi6 => ?_)
        exact Rk.end_ (fun h => G_ireturn (pc := 65) rfl dX8_of_65 (q_RI h (hok _ _)))
      · refine Rk.ite (fun hc7 => ?_) (fun hc7 => ?_)
        · refine Rk.tblI (pc := 10) (tgt := 66) 2 hc7 dX8_of_10 (nmI ha2) (by decide) (by decide) rfl rfl ?_
          refine Rk.sp (G_aload_n (pc := 66) 0 rfl rfl dX8_of_66) ?_
          refine Rk.gR (pc := 67) 1 flX8_12 cl8 rfl lb0 dX8_of_67 ?_
          refine Rk.gR (pc := 70) 2 flX8_71 cl7 rfl lb1 dX8_of_70 ?_
          refine Rk.gR (pc := 73) 5 flX8_101 cl6 rfl lb2 dX8_of_73 ?_
          refine Rk.sp (G_iload_n (pc := 76) 1 rfl rfl dX8_of_76) ?_
          refine Rk.al (pc := 77) lb5 dX8_of_77 (fun hi8 => ?_)
          exact Rk.end_ (fun h => G_ireturn (pc := 78) rfl dX8_of_78 (q_RI h (hok _ _)))
        · refine Rk.ite (fun hc9 => ?_) (fun hc9 => ?_)
          · refine Rk.tblI (pc := 10) (tgt := 79) 3 hc9 dX8_of_10 (nmI ha2) (by decide) (by decide) rfl rfl ?_
            refine Rk.sp (G_aload_n (pc := 79) 0 rfl rfl dX8_of_79) ?_
            refine Rk.gR (pc := 80) 1 flX8_12 cl8 rfl lb0 dX8_of_80 ?_
            refine Rk.sp (G_iload_n (pc := 83) 1 rfl rfl dX8_of_83) ?_
            refine Rk.sp (G_aload_n (pc := 84) 0 rfl rfl dX8_of_84) ?_
            refine Rk.gR (pc := 85) 1 flX8_12 cl8 rfl lb0 dX8_of_85 ?_
            refine Rk.gR (pc := 88) 2 flX8_71 cl7 rfl lb1 dX8_of_88 ?_
            refine Rk.cRI (pc := 91) (Cl.v [] [vi a1, vr 1] dX8_of_91 ckX8_191 lb2 rfl rfl rfl (Nat.le_of_ble_eq_true rfl) (Nat.le_of_ble_eq_true rfl)) (k_Ta_hour 2 σ lb2 hok) (fun r10 hr10 => ?_)
            refine Rk.cRI (pc := 94) (Cl.v [vi a1, vi r10] [] dX8_of_94 ckX8_194 lb1 rfl rfl rfl (Nat.le_of_ble_eq_true rfl) (Nat.le_of_ble_eq_true rfl)) (k_Wo_doing 1 a1 r10 σ lb1 ha1 hr10 hok) (fun r11 hr11 => ?_)
            exact Rk.end_ (fun h => G_ireturn (pc := 97) rfl dX8_of_97 (q_RI h hr11))
          · refine Rk.tblO (pc := 10) (tgt := 98) dX8_of_10 (nmI ha2) (by omega) rfl ?_
            refine Rk.sp (G_iconst (pc := 98) dX8_of_98) ?_
            exact Rk.end_ (fun h => G_ireturn (pc := 99) rfl dX8_of_99 (q_RI h (inRk (-1) rfl)))
