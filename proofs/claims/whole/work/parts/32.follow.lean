theorem k_Co_begin {κ : Kx} {μ : Sg} (a1 : Nat) (a2 : Int) (σ : Sg) (ha1 : LB false a1 (1, 6)) (ha2 : inR a2) (hok : okS σ) : CtV κ mX0_begin 0 [vr 152, vr a1, vi a2] false μ σ (Co_begin a1 a2 σ) := by
  intro τ h
  refine con_of (by decide) (Nat.le_of_ble_eq_true rfl) 0 ?_
  refine (?_ : Rk κ mX0_begin _ 0 [some (vr 152), some (vr a1), some (vi a2)] [] (ms false μ σ) (Co_begin a1 a2 σ) (fun a => a = τ)) _ h rfl
  unfold Co_begin
  refine Rk.sp (G_aload_n (pc := 0) 0 rfl rfl dX0_begin_0) ?_
  refine Rk.sp (G_aload_n (pc := 1) 1 rfl rfl dX0_begin_1) ?_
  refine Rk.pD (pc := 2) (C := "ThreeDots$Talk") hok ha1 flX0_25 cl0 rfl (by decide +kernel) rfl lb152 dX0_begin_2 (fun σ1 hσ1 => ?_)
  refine Rk.sp (G_aload_n (pc := 5) 0 rfl rfl dX0_begin_5) ?_
  refine Rk.sp (G_iload_n (pc := 6) 2 rfl rfl dX0_begin_6) ?_
  refine Rk.qzb (fun hb3 => ?_)
  refine Rk.pZ (pc := 7) hσ1 hb3 flX0_30 cl0 rfl rfl lb152 dX0_begin_7 (fun σ2 hσ2 => ?_)
  refine Rk.sp (G_aload_n (pc := 10) 0 rfl rfl dX0_begin_10) ?_
  refine Rk.sp (G_iconst (pc := 11) dX0_begin_11) ?_
  refine Rk.pI (pc := 12) hσ2 (nmI (inRk (-1) rfl)) flX0_26 cl0 rfl rfl lb152 dX0_begin_12 (fun σ4 hσ4 => ?_)
  exact Rk.end_ (fun h => G_return (pc := 15) rfl dX0_begin_15 (q_V h hσ4))
theorem k_Td_imagine {κ : Kx} {μ : Sg} (σ : Sg) (hok : okS σ) : CtV κ mX8_imagine 2 [vr 0] false μ σ (Td_imagine σ) := by
  intro τ h
  refine con_of (by decide) (Nat.le_of_ble_eq_true rfl) 0 ?_
  refine (?_ : Rk κ mX8_imagine _ 0 [some (vr 0)] [] (ms false μ σ) (Td_imagine σ) (fun a => a = τ)) _ h rfl
  unfold Td_imagine
  refine Rk.sp (G_aload_n (pc := 0) 0 rfl rfl dX8_imagine_0) ?_
  refine Rk.gR (pc := 1) 153 flX8_52 cl8 rfl lb0 dX8_imagine_1 ?_
  refine Rk.sp (G_aload_n (pc := 4) 0 rfl rfl dX8_imagine_4) ?_
  refine Rk.gR (pc := 5) 1 flX8_12 cl8 rfl lb0 dX8_imagine_5 ?_
  refine Rk.gR (pc := 8) 2 flX8_71 cl7 rfl lb1 dX8_imagine_8 ?_
  refine Rk.cV (pc := 11) (Cl.v [vr 2] [] dX8_imagine_11 ckX8_358 lb153 rfl rfl rfl (Nat.le_of_ble_eq_true rfl) (Nat.le_of_ble_eq_true rfl)) (k_Ta_copyFrom 153 2 σ lb153 lb2 hok) (fun σ1 hσ1 => ?_)
  refine Rk.sp (G_aload_n (pc := 14) 0 rfl rfl dX8_imagine_14) ?_
  refine Rk.gR (pc := 15) 152 flX8_45 cl8 rfl lb0 dX8_imagine_15 ?_
  refine Rk.sp (G_aload_n (pc := 18) 0 rfl rfl dX8_imagine_18) ?_
  refine Rk.gR (pc := 19) 153 flX8_52 cl8 rfl lb0 dX8_imagine_19 ?_
  refine Rk.sp (G_iconst (pc := 22) dX8_imagine_22) ?_
  refine Rk.cV (pc := 23) (Cl.v [vr 153, vi 1] [] dX8_imagine_23 ckX8_112 lb152 rfl rfl rfl (Nat.le_of_ble_eq_true rfl) (Nat.le_of_ble_eq_true rfl)) (k_Co_begin 153 1 σ1 lb153 (inRk 1 rfl) hσ1) (fun σ2 hσ2 => ?_)
  exact Rk.end_ (fun h => G_return (pc := 26) rfl dX8_imagine_26 (q_V h hσ2))
theorem k_Co_note {κ : Kx} {μ : Sg} (a1 : Int) (a2 : Int) (a3 : Int) (σ : Sg) (ha1 : inR a1) (ha2 : inR a2) (ha3 : inR a3) (hok : okS σ) : CtV κ mX0_note 0 [vr 152, vi a1, vi a2, vi a3] false μ σ (Co_note a1 a2 a3 σ) := by
  intro τ h
  refine con_of (by decide) (Nat.le_of_ble_eq_true rfl) 1 ?_
  refine (?_ : Rk κ mX0_note _ 0 [some (vr 152), some (vi a1), some (vi a2), some (vi a3), none] [] (ms false μ σ) (Co_note a1 a2 a3 σ) (fun a => a = τ)) _ h rfl
  unfold Co_note
  refine Rk.sp (G_aload_n (pc := 0) 0 rfl rfl dX0_note_0) ?_
  refine Rk.gI (pc := 1) flX0_30 cl0 rfl lb152 dX0_note_1 ?_
  refine Rk.if_ne (pc := 4) (tgt := 20) dX0_note_4 (nmI (hok _ _)) rfl (fun hc1 => ?_) (fun hc1 => ?_)
  · refine Rk.sp (G_aload_n (pc := 7) 0 rfl rfl dX0_note_7) ?_
    refine Rk.gD (pc := 8) flX0_25 cl0 rfl lb152 dX0_note_8 (fun ht2 => ?_)
    refine Rk.gI (pc := 11) flX0_128 cl6 rfl ht2 dX0_note_11 ?_
    refine Rk.sp (G_sipush (pc := 14) dX0_note_14 rfl) ?_
    refine Rk.icmp_lt (pc := 17) (tgt := 21) dX0_note_17 (nmI (hok _ _)) (nmI (inRk 150 rfl)) rfl (fun hc3 => ?_) (fun hc3 => ?_)
    · refine Rk.sp (G_aload_n (pc := 21) 0 rfl rfl dX0_note_21) ?_
      refine Rk.gD (pc := 22) flX0_25 cl0 rfl lb152 dX0_note_22 (fun ht4 => ?_)
      refine Rk.gI (pc := 25) flX0_128 cl6 rfl ht4 dX0_note_25 ?_
      refine Rk.sp (G_iconst (pc := 28) dX0_note_28) ?_
      refine Rk.sp (G_imul (pc := 29) dX0_note_29) ?_
      refine Rk.ist_w (pc := 30) 4 (fun v4_5 => [some (vr 152), some (vi a1), some (vi a2), some (vi a3), some (vi v4_5)]) (Nat.le_of_ble_eq_true rfl) rfl dX0_note_30 (nmW _) (fun _ => rfl) (fun v4_5 hv4_5 => ?_)
      refine Rk.sp (G_aload_n (pc := 32) 0 rfl rfl dX0_note_32) ?_
      refine Rk.gR (pc := 33) 1 flX0_9 cl0 rfl lb152 dX0_note_33 ?_
      refine Rk.gR (pc := 36) 15 flX0_131 cl7 rfl lb1 dX0_note_36 ?_
      refine Rk.sp (G_iload_w (pc := 39) 4 rfl dX0_note_39) ?_
      refine Rk.sp (G_aload_n (pc := 41) 0 rfl rfl dX0_note_41) ?_
      refine Rk.gD (pc := 42) flX0_25 cl0 rfl lb152 dX0_note_42 (fun ht6 => ?_)
      refine Rk.gI (pc := 45) flX0_37 cl6 rfl ht6 dX0_note_45 ?_
      refine Rk.as (pc := 48) hok (nmI (hok _ _)) lb15 dX0_note_48 (fun hi8 σ7 hσ7 => ?_)
      refine Rk.sp (G_aload_n (pc := 49) 0 rfl rfl dX0_note_49) ?_
      refine Rk.gR (pc := 50) 1 flX0_9 cl0 rfl lb152 dX0_note_50 ?_
      refine Rk.gR (pc := 53) 15 flX0_131 cl7 rfl lb1 dX0_note_53 ?_
      refine Rk.sp (G_iload_w (pc := 56) 4 rfl dX0_note_56) ?_
      refine Rk.sp (G_iconst (pc := 58) dX0_note_58) ?_
      refine Rk.sp (G_iadd (pc := 59) dX0_note_59) ?_
      refine Rk.sp (G_iload_n (pc := 60) 1 rfl rfl dX0_note_60) ?_
      refine Rk.as (pc := 61) hσ7 (nmI ha1) lb15 dX0_note_61 (fun hi10 σ9 hσ9 => ?_)
      refine Rk.sp (G_aload_n (pc := 62) 0 rfl rfl dX0_note_62) ?_
      refine Rk.gR (pc := 63) 1 flX0_9 cl0 rfl lb152 dX0_note_63 ?_
      refine Rk.gR (pc := 66) 15 flX0_131 cl7 rfl lb1 dX0_note_66 ?_
      refine Rk.sp (G_iload_w (pc := 69) 4 rfl dX0_note_69) ?_
      refine Rk.sp (G_iconst (pc := 71) dX0_note_71) ?_
      refine Rk.sp (G_iadd (pc := 72) dX0_note_72) ?_
      refine Rk.sp (G_iload_n (pc := 73) 2 rfl rfl dX0_note_73) ?_
      refine Rk.as (pc := 74) hσ9 (nmI ha2) lb15 dX0_note_74 (fun hi12 σ11 hσ11 => ?_)
      refine Rk.sp (G_aload_n (pc := 75) 0 rfl rfl dX0_note_75) ?_
      refine Rk.gR (pc := 76) 1 flX0_9 cl0 rfl lb152 dX0_note_76 ?_
      refine Rk.gR (pc := 79) 15 flX0_131 cl7 rfl lb1 dX0_note_79 ?_
      refine Rk.sp (G_iload_w (pc := 82) 4 rfl dX0_note_82) ?_
      refine Rk.sp (G_iconst (pc := 84) dX0_note_84) ?_
      refine Rk.sp (G_iadd (pc := 85) dX0_note_85) ?_
      refine Rk.sp (G_iload_n (pc := 86) 3 rfl rfl dX0_note_86) ?_
      refine Rk.as (pc := 87) hσ11 (nmI ha3) lb15 dX0_note_87 (fun hi14 σ13 hσ13 => ?_)
      refine Rk.sp (G_aload_n (pc := 88) 0 rfl rfl dX0_note_88) ?_
      refine Rk.gD (pc := 89) flX0_25 cl0 rfl lb152 dX0_note_89 (fun ht15 => ?_)
      refine Rk.sp (G_dup (pc := 92) dX0_note_92 (fun _ h => by cases h)) ?_
      refine Rk.gI (pc := 93) flX0_128 cl6 rfl ht15 dX0_note_93 ?_
      refine Rk.sp (G_iconst (pc := 96) dX0_note_96) ?_
      refine Rk.sp (G_iadd (pc := 97) dX0_note_97) ?_
      refine Rk.pI (pc := 98) hσ13 (nmW _) flX0_128 cl6 rfl rfl ht15 dX0_note_98 (fun σ16 hσ16 => ?_)
      exact Rk.end_ (fun h => G_return (pc := 101) rfl dX0_note_101 (q_V h hσ16))
    · exact Rk.end_ (fun h => G_return (pc := 20) rfl dX0_note_20 (q_V h hok))
  · exact Rk.end_ (fun h => G_return (pc := 20) rfl dX0_note_20 (q_V h hok))
theorem k_Co_withdraw {κ : Kx} {μ : Sg} (a1 : Int) (σ : Sg) (ha1 : inR a1) (hok : okS σ) : CtV κ mX0_withdraw 1 [vr 152, vi a1] false μ σ (Co_withdraw a1 σ) := by
  intro τ h
  refine con_of (by decide) (Nat.le_of_ble_eq_true rfl) 0 ?_
  refine (?_ : Rk κ mX0_withdraw _ 0 [some (vr 152), some (vi a1)] [] (ms false μ σ) (Co_withdraw a1 σ) (fun a => a = τ)) _ h rfl
  unfold Co_withdraw
  refine Rk.sp (G_aload_n (pc := 0) 0 rfl rfl dX0_withdraw_0) ?_
  refine Rk.gD (pc := 1) flX0_25 cl0 rfl lb152 dX0_withdraw_1 (fun ht1 => ?_)
  refine Rk.gR (pc := 4) ((σ 152 2).toNat + 11) flX0_118 cl6 rfl ht1 dX0_withdraw_4 ?_
  refine Rk.sp (G_iload_n (pc := 7) 1 rfl rfl dX0_withdraw_7) ?_
  refine Rk.sp (G_iconst (pc := 8) dX0_withdraw_8) ?_
  refine Rk.as (pc := 9) hok (nmI (inRk 1 rfl)) (LBt ht1 11 (by decide)) dX0_withdraw_9 (fun hi3 σ2 hσ2 => ?_)
  refine Rk.sp (G_aload_n (pc := 10) 0 rfl rfl dX0_withdraw_10) ?_
  refine Rk.gD (pc := 11) flX0_25 cl0 rfl lb152 dX0_withdraw_11 (fun ht4 => ?_)
  refine Rk.sp (G_dup (pc := 14) dX0_withdraw_14 (fun _ h => by cases h)) ?_
  refine Rk.gI (pc := 15) flX0_55 cl6 rfl ht4 dX0_withdraw_15 ?_
  refine Rk.sp (G_iconst (pc := 18) dX0_withdraw_18) ?_
  refine Rk.sp (G_isub (pc := 19) dX0_withdraw_19) ?_
  refine Rk.pI (pc := 20) hσ2 (nmW _) flX0_55 cl6 rfl rfl ht4 dX0_withdraw_20 (fun σ5 hσ5 => ?_)
  refine Rk.sp (G_aload_n (pc := 23) 0 rfl rfl dX0_withdraw_23) ?_
  refine Rk.sp (G_iconst (pc := 24) dX0_withdraw_24) ?_
  refine Rk.sp (G_aload_n (pc := 25) 0 rfl rfl dX0_withdraw_25) ?_
  refine Rk.gD (pc := 26) flX0_25 cl0 rfl lb152 dX0_withdraw_26 (fun ht6 => ?_)
  refine Rk.gR (pc := 29) ((σ5 152 2).toNat + 4) flX0_95 cl6 rfl ht6 dX0_withdraw_29 ?_
  refine Rk.sp (G_iload_n (pc := 32) 1 rfl rfl dX0_withdraw_32) ?_
  refine Rk.al (pc := 33) (LBt ht6 4 (by decide)) dX0_withdraw_33 (fun hi7 => ?_)
  refine Rk.sp (G_iload_n (pc := 34) 1 rfl rfl dX0_withdraw_34) ?_
  refine Rk.cV (pc := 35) (Cl.v [vi 3, vi (σ5 ((σ5 152 2).toNat + 4) (a1).toNat), vi a1] [] dX0_withdraw_35 ckX0_114 lb152 rfl rfl rfl (Nat.le_of_ble_eq_true rfl) (Nat.le_of_ble_eq_true rfl)) (k_Co_note 3 (σ5 ((σ5 152 2).toNat + 4) (a1).toNat) a1 σ5 (inRk 3 rfl) (hσ5 _ _) ha1 hσ5) (fun σ8 hσ8 => ?_)
  exact Rk.end_ (fun h => G_return (pc := 38) rfl dX0_withdraw_38 (q_V h hσ8))
theorem k_Co_withdrawSet {κ : Kx} {μ : Sg} (a1 : Int) (a2 : Int) (σ : Sg) (ha1 : inR a1) (ha2 : inR a2) (hok : okS σ) : CtV κ mX0_withdrawSet 2 [vr 152, vi a1, vi a2] false μ σ (Co_withdrawSet a1 a2 σ) := by
  intro τ h
  refine con_of (by decide) (Nat.le_of_ble_eq_true rfl) 2 ?_
  refine (?_ : Rk κ mX0_withdrawSet _ 0 [some (vr 152), some (vi a1), some (vi a2), none, none] [] (ms false μ σ) (Co_withdrawSet a1 a2 σ) (fun a => a = τ)) _ h rfl
  unfold Co_withdrawSet
  refine Rk.sp (G_iload_n (pc := 0) 2 rfl rfl dX0_withdrawSet_0) ?_
  refine Rk.isa_n (pc := 1) 3 (L' := [some (vr 152), some (vi a1), some (vi a2), some (vi a2), none]) rfl (Nat.le_of_ble_eq_true rfl) rfl dX0_withdrawSet_1 rfl ?_
  refine Rk.sp (G_iconst (pc := 2) dX0_withdrawSet_2) ?_
  refine Rk.isa_w (pc := 3) 4 (L' := [some (vr 152), some (vi a1), some (vi a2), some (vi a2), some (vi 0)]) (Nat.le_of_ble_eq_true rfl) rfl dX0_withdrawSet_3 rfl ?_
  refine Rk.fg [true, true, false, true, true] (L' := [some (vr 152), some (vi a1), none, some (vi a2), some (vi 0)]) rfl ?_
  refine Rk.loop (pc := 5) (B := (fun p => Co_withdrawSet_5_b a1 p.1 p.2.1 p.2.2)) (fun p => inR p.1 ∧ inR p.2.1 ∧ okS p.2.2) (fun p => [some (vr 152), some (vi a1), none, some (vi p.1), some (vi p.2.1)]) (fun p => (ms false μ p.2.2)) (fun p hp => ?_) (a2, 0, σ) ⟨ha2, (inRk 0 rfl), hok⟩
  obtain ⟨v3_1, v4_2, σ3⟩ := p
  obtain ⟨hv3_1, hv4_2, hσ3⟩ := hp
  try dsimp only
  unfold Co_withdrawSet_5_b
  refine Rk.sp (G_iload_w (pc := 5) 4 rfl dX0_withdrawSet_5) ?_
  refine Rk.sp (G_aload_n (pc := 7) 0 rfl rfl dX0_withdrawSet_7) ?_
  refine Rk.gD (pc := 8) flX0_25 cl0 rfl lb152 dX0_withdrawSet_8 (fun ht4 => ?_)
  refine Rk.gI (pc := 11) flX0_74 cl6 rfl ht4 dX0_withdrawSet_11 ?_
  refine Rk.icmp_ge (pc := 14) (tgt := 69) dX0_withdrawSet_14 (nmI hv4_2) (nmI (hσ3 _ _)) rfl (fun hc5 => ?_) (fun hc5 => ?_)
  · refine Rk.sp (G_iload_n (pc := 17) 3 rfl rfl dX0_withdrawSet_17) ?_
    refine Rk.if_eq (pc := 18) (tgt := 69) dX0_withdrawSet_18 (nmI hv3_1) rfl (fun hc6 => ?_) (fun hc6 => ?_)
    · exact Rk.end_ (fun h => G_return (pc := 69) rfl dX0_withdrawSet_69 (q_V h hσ3))
    · refine Rk.sp (G_aload_n (pc := 21) 0 rfl rfl dX0_withdrawSet_21) ?_
      refine Rk.gD (pc := 22) flX0_25 cl0 rfl lb152 dX0_withdrawSet_22 (fun ht7 => ?_)
      refine Rk.gR (pc := 25) ((σ3 152 2).toNat + 4) flX0_95 cl6 rfl ht7 dX0_withdrawSet_25 ?_
      refine Rk.sp (G_iload_w (pc := 28) 4 rfl dX0_withdrawSet_28) ?_
      refine Rk.al (pc := 30) (LBt ht7 4 (by decide)) dX0_withdrawSet_30 (fun hi8 => ?_)
      refine Rk.sp (G_iload_n (pc := 31) 1 rfl rfl dX0_withdrawSet_31) ?_
      refine Rk.icmp_ne (pc := 32) (tgt := 63) dX0_withdrawSet_32 (nmI (hσ3 _ _)) (nmI ha1) rfl (fun hc9 => ?_) (fun hc9 => ?_)
      · refine Rk.sp (G_aload_n (pc := 35) 0 rfl rfl dX0_withdrawSet_35) ?_
        refine Rk.gD (pc := 36) flX0_25 cl0 rfl lb152 dX0_withdrawSet_36 (fun ht10 => ?_)
        refine Rk.sp (G_iload_w (pc := 39) 4 rfl dX0_withdrawSet_39) ?_
        refine Rk.cRZ (pc := 41) (Cl.v [vi v4_2] [] dX0_withdrawSet_41 ckX0_91 ht10 rfl rfl rfl (Nat.le_of_ble_eq_true rfl) (Nat.le_of_ble_eq_true rfl)) (k_Ta_isOpen (σ3 152 2).toNat v4_2 σ3 ht10 hv4_2 hσ3) (fun r11 hr11 => ?_)
        refine Rk.if_eq (pc := 44) (tgt := 63) dX0_withdrawSet_44 (nmI (inZ.R hr11)) rfl (fun hc12 => ?_) (fun hc12 => ?_)
        · refine Rk.inc (pc := 63) 4 (fun v4_13 => [some (vr 152), some (vi a1), none, some (vi v3_1), some (vi v4_13)]) rfl (Nat.le_of_ble_eq_true rfl) rfl dX0_withdrawSet_63 (fun _ => rfl) (fun v4_13 hv4_13 => ?_)
          refine Rk.sp (G_goto (pc := 66) (tgt := 5) dX0_withdrawSet_66 rfl) ?_
          exact Rk.end_ (fun h => h ⟨hv3_1, hv4_13, hσ3⟩)
        · refine Rk.sp (G_iload_n (pc := 47) 3 rfl rfl dX0_withdrawSet_47) ?_
          refine Rk.sp (G_iconst (pc := 48) dX0_withdrawSet_48) ?_
          refine Rk.sp (G_iand (pc := 49) dX0_withdrawSet_49) ?_
          refine Rk.if_eq (pc := 50) (tgt := 59) dX0_withdrawSet_50 (nmI (bAnd_R _ _)) rfl (fun hc14 => ?_) (fun hc14 => ?_)
          · refine Rk.sp (G_iload_n (pc := 59) 3 rfl rfl dX0_withdrawSet_59) ?_
            refine Rk.sp (G_iconst (pc := 60) dX0_withdrawSet_60) ?_
            refine Rk.sp (G_ishr (pc := 61) dX0_withdrawSet_61) ?_
            refine Rk.ist_n (pc := 62) 3 (fun v3_15 => [some (vr 152), some (vi a1), none, some (vi v3_15), some (vi v4_2)]) rfl (Nat.le_of_ble_eq_true rfl) rfl dX0_withdrawSet_62 (nmI (bShr_R _ _)) (fun _ => rfl) (fun v3_15 hv3_15 => ?_)
            refine Rk.inc (pc := 63) 4 (fun v4_16 => [some (vr 152), some (vi a1), none, some (vi v3_15), some (vi v4_16)]) rfl (Nat.le_of_ble_eq_true rfl) rfl dX0_withdrawSet_63 (fun _ => rfl) (fun v4_16 hv4_16 => ?_)
            refine Rk.sp (G_goto (pc := 66) (tgt := 5) dX0_withdrawSet_66 rfl) ?_
            exact Rk.end_ (fun h => h ⟨hv3_15, hv4_16, hσ3⟩)
          · refine Rk.sp (G_aload_n (pc := 53) 0 rfl rfl dX0_withdrawSet_53) ?_
            refine Rk.sp (G_iload_w (pc := 54) 4 rfl dX0_withdrawSet_54) ?_
            refine Rk.cV (pc := 56) (Cl.v [vi v4_2] [] dX0_withdrawSet_56 ckX0_121 lb152 rfl rfl rfl (Nat.le_of_ble_eq_true rfl) (Nat.le_of_ble_eq_true rfl)) (k_Co_withdraw v4_2 σ3 hv4_2 hσ3) (fun σ17 hσ17 => ?_)
            refine Rk.sp (G_iload_n (pc := 59) 3 rfl rfl dX0_withdrawSet_59) ?_
            refine Rk.sp (G_iconst (pc := 60) dX0_withdrawSet_60) ?_
            refine Rk.sp (G_ishr (pc := 61) dX0_withdrawSet_61) ?_
            refine Rk.ist_n (pc := 62) 3 (fun v3_18 => [some (vr 152), some (vi a1), none, some (vi v3_18), some (vi v4_2)]) rfl (Nat.le_of_ble_eq_true rfl) rfl dX0_withdrawSet_62 (nmI (bShr_R _ _)) (fun _ => rfl) (fun v3_18 hv3_18 => ?_)
            refine Rk.inc (pc := 63) 4 (fun v4_19 => [some (vr 152), some (vi a1), none, some (vi v3_18), some (vi v4_19)]) rfl (Nat.le_of_ble_eq_true rfl) rfl dX0_withdrawSet_63 (fun _ => rfl) (fun v4_19 hv4_19 => ?_)
            refine Rk.sp (G_goto (pc := 66) (tgt := 5) dX0_withdrawSet_66 rfl) ?_
            exact Rk.end_ (fun h => h ⟨hv3_18, hv4_19, hσ17⟩)
      · refine Rk.inc (pc := 63) 4 (fun v4_20 => [some (vr 152), some (vi a1), none, some (vi v3_1), some (vi v4_20)]) rfl (Nat.le_of_ble_eq_true rfl) rfl dX0_withdrawSet_63 (fun _ => rfl) (fun v4_20 hv4_20 => ?_)
        refine Rk.sp (G_goto (pc := 66) (tgt := 5) dX0_withdrawSet_66 rfl) ?_
        exact Rk.end_ (fun h => h ⟨hv3_1, hv4_20, hσ3⟩)
  · exact Rk.end_ (fun h => G_return (pc := 69) rfl dX0_withdrawSet_69 (q_V h hσ3))
theorem k_Co_someoneCanRead {κ : Kx} {μ : Sg} (σ : Sg) (hok : okS σ) : CtRZ κ mX0_someoneCanRead 3 [vr 152] false μ σ (Co_someoneCanRead σ) := by
  intro r h
  refine con_of (by decide) (Nat.le_of_ble_eq_true rfl) 3 ?_
  refine (?_ : Rk κ mX0_someoneCanRead _ 0 [some (vr 152), none, none, none] [] (ms false μ σ) (Co_someoneCanRead σ) (fun a => a = r)) _ h rfl
  unfold Co_someoneCanRead
  refine Rk.sp (G_aload_n (pc := 0) 0 rfl rfl dX0_someoneCanRead_0) ?_
  refine Rk.gR (pc := 1) 1 flX0_9 cl0 rfl lb152 dX0_someoneCanRead_1 ?_
  refine Rk.sp (G_iconst (pc := 4) dX0_someoneCanRead_4) ?_
  refine Rk.sp (G_aload_n (pc := 5) 0 rfl rfl dX0_someoneCanRead_5) ?_
  refine Rk.gD (pc := 6) flX0_25 cl0 rfl lb152 dX0_someoneCanRead_6 (fun ht1 => ?_)
  refine Rk.cRI (pc := 9) (Cl.v [] [vi 0, vr 1] dX0_someoneCanRead_9 ckX0_84 ht1 rfl rfl rfl (Nat.le_of_ble_eq_true rfl) (Nat.le_of_ble_eq_true rfl)) (k_Ta_hour (σ 152 2).toNat σ ht1 hok) (fun r2 hr2 => ?_)
  refine Rk.cRZ (pc := 12) (Cl.v [vi 0, vi r2] [] dX0_someoneCanRead_12 ckX0_87 lb1 rfl rfl rfl (Nat.le_of_ble_eq_true rfl) (Nat.le_of_ble_eq_true rfl)) (k_Wo_reads 1 0 r2 σ lb1 (inRk 0 rfl) hr2 hok) (fun r3 hr3 => ?_)
  refine Rk.isa_n (pc := 15) 1 (L' := [some (vr 152), some (vi r3), none, none]) rfl (Nat.le_of_ble_eq_true rfl) rfl dX0_someoneCanRead_15 rfl ?_
  refine Rk.sp (G_aload_n (pc := 16) 0 rfl rfl dX0_someoneCanRead_16) ?_
  refine Rk.gR (pc := 17) 1 flX0_9 cl0 rfl lb152 dX0_someoneCanRead_17 ?_
  refine Rk.sp (G_iconst (pc := 20) dX0_someoneCanRead_20) ?_
  refine Rk.sp (G_aload_n (pc := 21) 0 rfl rfl dX0_someoneCanRead_21) ?_
  refine Rk.gD (pc := 22) flX0_25 cl0 rfl lb152 dX0_someoneCanRead_22 (fun ht4 => ?_)
  refine Rk.cRI (pc := 25) (Cl.v [] [vi 1, vr 1] dX0_someoneCanRead_25 ckX0_84 ht4 rfl rfl rfl (Nat.le_of_ble_eq_true rfl) (Nat.le_of_ble_eq_true rfl)) (k_Ta_hour (σ 152 2).toNat σ ht4 hok) (fun r5 hr5 => ?_)
  refine Rk.cRZ (pc := 28) (Cl.v [vi 1, vi r5] [] dX0_someoneCanRead_28 ckX0_87 lb1 rfl rfl rfl (Nat.le_of_ble_eq_true rfl) (Nat.le_of_ble_eq_true rfl)) (k_Wo_reads 1 1 r5 σ lb1 (inRk 1 rfl) hr5 hok) (fun r6 hr6 => ?_)
  refine Rk.isa_n (pc := 31) 2 (L' := [some (vr 152), some (vi r3), some (vi r6), none]) rfl (Nat.le_of_ble_eq_true rfl) rfl dX0_someoneCanRead_31 rfl ?_
  refine Rk.sp (G_iconst (pc := 32) dX0_someoneCanRead_32) ?_
  refine Rk.isa_n (pc := 33) 3 (L' := [some (vr 152), some (vi r3), some (vi r6), some (vi 0)]) rfl (Nat.le_of_ble_eq_true rfl) rfl dX0_someoneCanRead_33 rfl ?_
  refine Rk.loop (pc := 34) (B := (fun p => Co_someoneCanRead_34_b σ r3 r6 p)) (fun p => inR p) (fun p => [some (vr 152), some (vi r3), some (vi r6), some (vi p)]) (fun p => (ms false μ σ)) (fun p hp => ?_) 0 (inRk 0 rfl)
  revert hp; revert p; intro v3_7 hv3_7
  try dsimp only
  unfold Co_someoneCanRead_34_b
  refine Rk.sp (G_iload_n (pc := 34) 3 rfl rfl dX0_someoneCanRead_34) ?_
  refine Rk.sp (G_aload_n (pc := 35) 0 rfl rfl dX0_someoneCanRead_35) ?_
  refine Rk.gD (pc := 36) flX0_25 cl0 rfl lb152 dX0_someoneCanRead_36 (fun ht8 => ?_)
  refine Rk.gI (pc := 39) flX0_74 cl6 rfl ht8 dX0_someoneCanRead_39 ?_
  refine Rk.icmp_ge (pc := 42) (tgt := 96) dX0_someoneCanRead_42 (nmI hv3_7) (nmI (hok _ _)) rfl (fun hc9 => ?_) (fun hc9 => ?_)
  · refine Rk.sp (G_iload_n (pc := 45) 1 rfl rfl dX0_someoneCanRead_45) ?_
    refine Rk.sel (A := 53) (B := 96) (st' := []) ?_ ?_ ?_
    · refine Rk.if_ne (pc := 46) (tgt := 53) dX0_someoneCanRead_46 (nmI (inZ.R hr3)) rfl (fun hc10 => ?_) (fun hc10 => ?_)
      · refine Rk.sp (G_iload_n (pc := 49) 2 rfl rfl dX0_someoneCanRead_49) ?_
        refine Rk.if_eq (pc := 50) (tgt := 96) dX0_someoneCanRead_50 (nmI (inZ.R hr6)) rfl (fun hc11 => ?_) (fun hc11 => ?_)
        · exact Rk.end_ (fun h => h inZ0)
        · exact Rk.end_ (fun h => h inZ1)
      · exact Rk.end_ (fun h => h inZ1)
    · refine Rk.sp (G_iconst (pc := 96) dX0_someoneCanRead_96) ?_
      exact Rk.end_ (fun h => G_zreturn (pc := 97) rfl (nz inZ0) dX0_someoneCanRead_97 (q_RZ h inZ0))
    · refine Rk.sp (G_aload_n (pc := 53) 0 rfl rfl dX0_someoneCanRead_53) ?_
      refine Rk.gD (pc := 54) flX0_25 cl0 rfl lb152 dX0_someoneCanRead_54 (fun ht12 => ?_)
      refine Rk.sp (G_iload_n (pc := 57) 3 rfl rfl dX0_someoneCanRead_57) ?_
      refine Rk.cRZ (pc := 58) (Cl.v [vi v3_7] [] dX0_someoneCanRead_58 ckX0_91 ht12 rfl rfl rfl (Nat.le_of_ble_eq_true rfl) (Nat.le_of_ble_eq_true rfl)) (k_Ta_isOpen (σ 152 2).toNat v3_7 σ ht12 hv3_7 hok) (fun r13 hr13 => ?_)
      refine Rk.if_eq (pc := 61) (tgt := 90) dX0_someoneCanRead_61 (nmI (inZ.R hr13)) rfl (fun hc14 => ?_) (fun hc14 => ?_)
      · refine Rk.inc (pc := 90) 3 (fun v3_15 => [some (vr 152), some (vi r3), some (vi r6), some (vi v3_15)]) rfl (Nat.le_of_ble_eq_true rfl) rfl dX0_someoneCanRead_90 (fun _ => rfl) (fun v3_15 hv3_15 => ?_)
        refine Rk.sp (G_goto (pc := 93) (tgt := 34) dX0_someoneCanRead_93 rfl) ?_
        exact Rk.end_ (fun h => h hv3_15)
      · refine Rk.sp (G_aload_n (pc := 64) 0 rfl rfl dX0_someoneCanRead_64) ?_
        refine Rk.gD (pc := 65) flX0_25 cl0 rfl lb152 dX0_someoneCanRead_65 (fun ht16 => ?_)
        refine Rk.gR (pc := 68) ((σ 152 2).toNat + 4) flX0_95 cl6 rfl ht16 dX0_someoneCanRead_68 ?_
        refine Rk.sp (G_iload_n (pc := 71) 3 rfl rfl dX0_someoneCanRead_71) ?_
        refine Rk.al (pc := 72) (LBt ht16 4 (by decide)) dX0_someoneCanRead_72 (fun hi17 => ?_)
        refine Rk.sp (G_iconst (pc := 73) dX0_someoneCanRead_73) ?_
        refine Rk.icmp_ne (pc := 74) (tgt := 84) dX0_someoneCanRead_74 (nmI (hok _ _)) (nmI (inRk 1 rfl)) rfl (fun hc18 => ?_) (fun hc18 => ?_)
        · refine Rk.sp (G_iload_n (pc := 77) 1 rfl rfl dX0_someoneCanRead_77) ?_
          refine Rk.if_eq (pc := 78) (tgt := 90) dX0_someoneCanRead_78 (nmI (inZ.R hr3)) rfl (fun hc19 => ?_) (fun hc19 => ?_)
          · refine Rk.inc (pc := 90) 3 (fun v3_20 => [some (vr 152), some (vi r3), some (vi r6), some (vi v3_20)]) rfl (Nat.le_of_ble_eq_true rfl) rfl dX0_someoneCanRead_90 (fun _ => rfl) (fun v3_20 hv3_20 => ?_)
            refine Rk.sp (G_goto (pc := 93) (tgt := 34) dX0_someoneCanRead_93 rfl) ?_
            exact Rk.end_ (fun h => h hv3_20)
          · refine Rk.sp (G_goto (pc := 81) (tgt := 88) dX0_someoneCanRead_81 rfl) ?_
            refine Rk.sp (G_iconst (pc := 88) dX0_someoneCanRead_88) ?_
            exact Rk.end_ (fun h => G_zreturn (pc := 89) rfl (nz inZ1) dX0_someoneCanRead_89 (q_RZ h inZ1))
        · refine Rk.sp (G_iload_n (pc := 84) 2 rfl rfl dX0_someoneCanRead_84) ?_
          refine Rk.if_eq (pc := 85) (tgt := 90) dX0_someoneCanRead_85 (nmI (inZ.R hr6)) rfl (fun hc21 => ?_) (fun hc21 => ?_)
          · refine Rk.inc (pc := 90) 3 (fun v3_22 => [some (vr 152), some (vi r3), some (vi r6), some (vi v3_22)]) rfl (Nat.le_of_ble_eq_true rfl) rfl dX0_someoneCanRead_90 (fun _ => rfl) (fun v3_22 hv3_22 => ?_)
            refine Rk.sp (G_goto (pc := 93) (tgt := 34) dX0_someoneCanRead_93 rfl) ?_
            exact Rk.end_ (fun h => h hv3_22)
          · refine Rk.sp (G_iconst (pc := 88) dX0_someoneCanRead_88) ?_
            exact Rk.end_ (fun h => G_zreturn (pc := 89) rfl (nz inZ1) dX0_someoneCanRead_89 (q_RZ h inZ1))
  · refine Rk.sp (G_iconst (pc := 96) dX0_someoneCanRead_96) ?_
    exact Rk.end_ (fun h => G_zreturn (pc := 97) rfl (nz inZ0) dX0_someoneCanRead_97 (q_RZ h inZ0))
theorem k_Co_quietUntil {κ : Kx} {μ : Sg} (σ : Sg) (hok : okS σ) : CtRI κ mX0_quietUntil 4 [vr 152] false μ σ (Co_quietUntil σ) := by
  intro r h
  refine con_of (by decide) (Nat.le_of_ble_eq_true rfl) 5 ?_
  refine (?_ : Rk κ mX0_quietUntil _ 0 [some (vr 152), none, none, none, none, none] [] (ms false μ σ) (Co_quietUntil σ) (fun a => a = r)) _ h rfl
  unfold Co_quietUntil
  refine Rk.sp (G_aload_n (pc := 0) 0 rfl rfl dX0_quietUntil_0) ?_
  refine Rk.gD (pc := 1) flX0_25 cl0 rfl lb152 dX0_quietUntil_1 (fun ht1 => ?_)
  refine Rk.gI (pc := 4) flX0_37 cl6 rfl ht1 dX0_quietUntil_4 ?_
  refine Rk.ist_n (pc := 7) 1 (fun v1_2 => [some (vr 152), some (vi v1_2), none, none, none, none]) rfl (Nat.le_of_ble_eq_true rfl) rfl dX0_quietUntil_7 (nmI (hok _ _)) (fun _ => rfl) (fun v1_2 hv1_2 => ?_)
  refine Rk.sp (G_iload_n (pc := 8) 1 rfl rfl dX0_quietUntil_8) ?_
  refine Rk.sp (G_sipush (pc := 9) dX0_quietUntil_9 rfl) ?_
  refine Rk.sp (G_iload_n (pc := 12) 1 rfl rfl dX0_quietUntil_12) ?_
  refine Rk.sp (G_sipush (pc := 13) dX0_quietUntil_13 rfl) ?_
  refine Rk.sp (G_irem (pc := 16) dX0_quietUntil_16 (nmI hv1_2) (nmI (inRk 1440 rfl)) (by decide)) ?_
  refine Rk.sp (G_isub (pc := 17) dX0_quietUntil_17) ?_
  refine Rk.sp (G_sipush (pc := 18) dX0_quietUntil_18 rfl) ?_
  refine Rk.sp (G_irem (pc := 21) dX0_quietUntil_21 (nmW _) (nmI (inRk 1440 rfl)) (by decide)) ?_
  refine Rk.sp (G_iadd (pc := 22) dX0_quietUntil_22) ?_
  refine Rk.ist_n (pc := 23) 2 (fun v2_3 => [some (vr 152), some (vi v1_2), some (vi v2_3), none, none, none]) rfl (Nat.le_of_ble_eq_true rfl) rfl dX0_quietUntil_23 (nmW _) (fun _ => rfl) (fun v2_3 hv2_3 => ?_)
  refine Rk.sp (G_aload_n (pc := 24) 0 rfl rfl dX0_quietUntil_24) ?_
  refine Rk.gD (pc := 25) flX0_25 cl0 rfl lb152 dX0_quietUntil_25 (fun ht4 => ?_)
  refine Rk.gI (pc := 28) flX0_55 cl6 rfl ht4 dX0_quietUntil_28 ?_
  refine Rk.if_le (pc := 31) (tgt := 57) dX0_quietUntil_31 (nmI (hok _ _)) rfl (fun hc5 => ?_) (fun hc5 => ?_)
  · refine Rk.sp (G_aload_n (pc := 34) 0 rfl rfl dX0_quietUntil_34) ?_
    refine Rk.cRZ (pc := 35) (Cl.v [] [] dX0_quietUntil_35 ckX0_58 lb152 rfl rfl rfl (Nat.le_of_ble_eq_true rfl) (Nat.le_of_ble_eq_true rfl)) (k_Co_someoneCanRead σ hok) (fun r6 hr6 => ?_)
    refine Rk.if_eq (pc := 38) (tgt := 43) dX0_quietUntil_38 (nmI (inZ.R hr6)) rfl (fun hc7 => ?_) (fun hc7 => ?_)
    · refine Rk.sp (G_iload_n (pc := 43) 2 rfl rfl dX0_quietUntil_43) ?_
      refine Rk.sp (G_iload_n (pc := 44) 1 rfl rfl dX0_quietUntil_44) ?_
      refine Rk.sp (G_iload_n (pc := 45) 1 rfl rfl dX0_quietUntil_45) ?_
      refine Rk.sp (G_bipush (pc := 46) dX0_quietUntil_46 rfl) ?_
      refine Rk.sp (G_irem (pc := 48) dX0_quietUntil_48 (nmI hv1_2) (nmI (inRk 60 rfl)) (by decide)) ?_
      refine Rk.sp (G_isub (pc := 49) dX0_quietUntil_49) ?_
      refine Rk.sp (G_bipush (pc := 50) dX0_quietUntil_50 rfl) ?_
      refine Rk.sp (G_iadd (pc := 52) dX0_quietUntil_52) ?_
      refine Rk.sp (Go.n0 (nmW _)) ?_
      refine Rk.mmin (pc := 53) cmmX0_46 hv2_3 (wrR _) (Nat.le_of_ble_eq_true rfl) (Nat.le_of_ble_eq_true rfl) dX0_quietUntil_53 (fun r8 hr8 => ?_)
      refine Rk.isa_n (pc := 56) 2 (L' := [some (vr 152), some (vi v1_2), some (vi r8), none, none, none]) rfl (Nat.le_of_ble_eq_true rfl) rfl dX0_quietUntil_56 rfl ?_
      refine Rk.sp (G_aload_n (pc := 57) 0 rfl rfl dX0_quietUntil_57) ?_
      refine Rk.gR (pc := 58) 1 flX0_9 cl0 rfl lb152 dX0_quietUntil_58 ?_
      refine Rk.gR (pc := 61) 16 flX0_62 cl7 rfl lb1 dX0_quietUntil_61 ?_
      refine Rk.sp (G_iconst (pc := 64) dX0_quietUntil_64) ?_
      refine Rk.sp (fun k => G_aaload2 (pc := 65) 23 (lb16).1 ⟨by decide, by decide⟩ rfl dX0_quietUntil_65 k) ?_
      refine Rk.ast_n (pc := 66) 3 (L' := [some (vr 152), some (vi v1_2), some (vi r8), some (vr 23), none, none]) rfl (Nat.le_of_ble_eq_true rfl) rfl dX0_quietUntil_66 rfl ?_
      refine Rk.sp (G_iconst (pc := 67) dX0_quietUntil_67) ?_
      refine Rk.isa_w (pc := 68) 4 (L' := [some (vr 152), some (vi v1_2), some (vi r8), some (vr 23), some (vi 0), none]) (Nat.le_of_ble_eq_true rfl) rfl dX0_quietUntil_68 rfl ?_
      refine Rk.loop (pc := 70) (B := (fun p => Co_quietUntil_70_b σ v1_2 p.1 p.2)) (fun p => inR p.1 ∧ inR p.2) (fun p => [some (vr 152), some (vi v1_2), some (vi p.1), some (vr 23), some (vi p.2), none]) (fun p => (ms false μ σ)) (fun p hp => ?_) (r8, 0) ⟨hr8, (inRk 0 rfl)⟩
      obtain ⟨v2_9, v4_10⟩ := p
      obtain ⟨hv2_9, hv4_10⟩ := hp
      try dsimp only
      unfold Co_quietUntil_70_b
      refine Rk.sp (G_iload_w (pc := 70) 4 rfl dX0_quietUntil_70) ?_
      refine Rk.sp (G_aload_n (pc := 72) 3 rfl rfl dX0_quietUntil_72) ?_
      refine Rk.gI (pc := 73) flX0_66 cl5 rfl lb23 dX0_quietUntil_73 ?_
      refine Rk.icmp_ge (pc := 76) (tgt := 111) dX0_quietUntil_76 (nmI hv4_10) (nmI (hok _ _)) rfl (fun hc11 => ?_) (fun hc11 => ?_)
      · refine Rk.sp (G_aload_n (pc := 79) 3 rfl rfl dX0_quietUntil_79) ?_
        refine Rk.sp (G_iload_w (pc := 80) 4 rfl dX0_quietUntil_80) ?_
        refine Rk.sp (G_iconst (pc := 82) dX0_quietUntil_82) ?_
        refine Rk.cRI (pc := 83) (Cl.v [vi v4_10, vi 0] [] dX0_quietUntil_83 ckX0_71 lb23 rfl rfl rfl (Nat.le_of_ble_eq_true rfl) (Nat.le_of_ble_eq_true rfl)) (k_Sh_cell 23 v4_10 0 σ lb23 hv4_10 (inRk 0 rfl) hok) (fun r12 hr12 => ?_)
        refine Rk.isa_w (pc := 86) 5 (L' := [some (vr 152), some (vi v1_2), some (vi v2_9), some (vr 23), some (vi v4_10), some (vi r12)]) (Nat.le_of_ble_eq_true rfl) rfl dX0_quietUntil_86 rfl ?_
        refine Rk.sp (G_iload_w (pc := 88) 5 rfl dX0_quietUntil_88) ?_
        refine Rk.sp (G_iload_n (pc := 90) 1 rfl rfl dX0_quietUntil_90) ?_
        refine Rk.icmp_lt (pc := 91) (tgt := 103) dX0_quietUntil_91 (nmI hr12) (nmI hv1_2) rfl (fun hc13 => ?_) (fun hc13 => ?_)
        · refine Rk.sp (G_iload_n (pc := 103) 2 rfl rfl dX0_quietUntil_103) ?_
          refine Rk.isa_n (pc := 104) 2 (L' := [some (vr 152), some (vi v1_2), some (vi v2_9), some (vr 23), some (vi v4_10), some (vi r12)]) rfl (Nat.le_of_ble_eq_true rfl) rfl dX0_quietUntil_104 rfl ?_
          refine Rk.inc (pc := 105) 4 (fun v4_14 => [some (vr 152), some (vi v1_2), some (vi v2_9), some (vr 23), some (vi v4_14), some (vi r12)]) rfl (Nat.le_of_ble_eq_true rfl) rfl dX0_quietUntil_105 (fun _ => rfl) (fun v4_14 hv4_14 => ?_)
          refine Rk.sp (G_goto (pc := 108) (tgt := 70) dX0_quietUntil_108 rfl) ?_
          refine Rk.fg [true, true, true, true, true, false] (L' := [some (vr 152), some (vi v1_2), some (vi v2_9), some (vr 23), some (vi v4_14), none]) rfl ?_
          exact Rk.end_ (fun h => h ⟨hv2_9, hv4_14⟩)
        · refine Rk.sp (G_iload_n (pc := 94) 2 rfl rfl dX0_quietUntil_94) ?_
          refine Rk.sp (G_iload_w (pc := 95) 5 rfl dX0_quietUntil_95) ?_
          refine Rk.mmin (pc := 97) cmmX0_46 hv2_9 hr12 (Nat.le_of_ble_eq_true rfl) (Nat.le_of_ble_eq_true rfl) dX0_quietUntil_97 (fun r15 hr15 => ?_)
          refine Rk.sp (G_goto (pc := 100) (tgt := 104) dX0_quietUntil_100 rfl) ?_
          refine Rk.isa_n (pc := 104) 2 (L' := [some (vr 152), some (vi v1_2), some (vi r15), some (vr 23), some (vi v4_10), some (vi r12)]) rfl (Nat.le_of_ble_eq_true rfl) rfl dX0_quietUntil_104 rfl ?_
          refine Rk.inc (pc := 105) 4 (fun v4_16 => [some (vr 152), some (vi v1_2), some (vi r15), some (vr 23), some (vi v4_16), some (vi r12)]) rfl (Nat.le_of_ble_eq_true rfl) rfl dX0_quietUntil_105 (fun _ => rfl) (fun v4_16 hv4_16 => ?_)
          refine Rk.sp (G_goto (pc := 108) (tgt := 70) dX0_quietUntil_108 rfl) ?_
          refine Rk.fg [true, true, true, true, true, false] (L' := [some (vr 152), some (vi v1_2), some (vi r15), some (vr 23), some (vi v4_16), none]) rfl ?_
          exact Rk.end_ (fun h => h ⟨hr15, hv4_16⟩)
      · refine Rk.sp (G_iconst (pc := 111) dX0_quietUntil_111) ?_
        refine Rk.isa_w (pc := 112) 4 (L' := [some (vr 152), some (vi v1_2), some (vi v2_9), some (vr 23), some (vi 0), none]) (Nat.le_of_ble_eq_true rfl) rfl dX0_quietUntil_112 rfl ?_
        refine Rk.fg [true, true, true, false, true, false] (L' := [some (vr 152), some (vi v1_2), some (vi v2_9), none, some (vi 0), none]) rfl ?_
        refine Rk.loop (pc := 114) (B := (fun p => Co_quietUntil_114_b σ v1_2 p.1 p.2)) (fun p => inR p.1 ∧ inR p.2) (fun p => [some (vr 152), some (vi v1_2), some (vi p.1), none, some (vi p.2), none]) (fun p => (ms false μ σ)) (fun p hp => ?_) (v2_9, 0) ⟨hv2_9, (inRk 0 rfl)⟩
        obtain ⟨v2_17, v4_18⟩ := p
        obtain ⟨hv2_17, hv4_18⟩ := hp
        try dsimp only
        unfold Co_quietUntil_114_b
        refine Rk.sp (G_iload_w (pc := 114) 4 rfl dX0_quietUntil_114) ?_
        refine Rk.sp (G_aload_n (pc := 116) 0 rfl rfl dX0_quietUntil_116) ?_
        refine Rk.gD (pc := 117) flX0_25 cl0 rfl lb152 dX0_quietUntil_117 (fun ht19 => ?_)
        refine Rk.gI (pc := 120) flX0_74 cl6 rfl ht19 dX0_quietUntil_120 ?_
        refine Rk.icmp_ge (pc := 123) (tgt := 175) dX0_quietUntil_123 (nmI hv4_18) (nmI (hok _ _)) rfl (fun hc20 => ?_) (fun hc20 => ?_)
        · refine Rk.sp (G_aload_n (pc := 126) 0 rfl rfl dX0_quietUntil_126) ?_
          refine Rk.gD (pc := 127) flX0_25 cl0 rfl lb152 dX0_quietUntil_127 (fun ht21 => ?_)
          refine Rk.gI (pc := 130) flX0_77 cl6 rfl ht21 dX0_quietUntil_130 ?_
          refine Rk.if_le (pc := 133) (tgt := 175) dX0_quietUntil_133 (nmI (hok _ _)) rfl (fun hc22 => ?_) (fun hc22 => ?_)
          · refine Rk.sp (G_aload_n (pc := 136) 0 rfl rfl dX0_quietUntil_136) ?_
            refine Rk.gD (pc := 137) flX0_25 cl0 rfl lb152 dX0_quietUntil_137 (fun ht23 => ?_)
            refine Rk.gR (pc := 140) ((σ 152 2).toNat + 12) flX0_80 cl6 rfl ht23 dX0_quietUntil_140 ?_
            refine Rk.sp (G_iload_w (pc := 143) 4 rfl dX0_quietUntil_143) ?_
            refine Rk.al (pc := 145) (LBt ht23 12 (by decide)) dX0_quietUntil_145 (fun hi24 => ?_)
            refine Rk.sp (G_iload_n (pc := 146) 1 rfl rfl dX0_quietUntil_146) ?_
            refine Rk.icmp_lt (pc := 147) (tgt := 167) dX0_quietUntil_147 (nmI (hok _ _)) (nmI hv1_2) rfl (fun hc25 => ?_) (fun hc25 => ?_)
            · refine Rk.sp (G_iload_n (pc := 167) 2 rfl rfl dX0_quietUntil_167) ?_
              refine Rk.isa_n (pc := 168) 2 (L' := [some (vr 152), some (vi v1_2), some (vi v2_17), none, some (vi v4_18), none]) rfl (Nat.le_of_ble_eq_true rfl) rfl dX0_quietUntil_168 rfl ?_
              refine Rk.inc (pc := 169) 4 (fun v4_26 => [some (vr 152), some (vi v1_2), some (vi v2_17), none, some (vi v4_26), none]) rfl (Nat.le_of_ble_eq_true rfl) rfl dX0_quietUntil_169 (fun _ => rfl) (fun v4_26 hv4_26 => ?_)
              refine Rk.sp (G_goto (pc := 172) (tgt := 114) dX0_quietUntil_172 rfl) ?_
              exact Rk.end_ (fun h => h ⟨hv2_17, hv4_26⟩)
            · refine Rk.sp (G_iload_n (pc := 150) 2 rfl rfl dX0_quietUntil_150) ?_
              refine Rk.sp (G_aload_n (pc := 151) 0 rfl rfl dX0_quietUntil_151) ?_
              refine Rk.gD (pc := 152) flX0_25 cl0 rfl lb152 dX0_quietUntil_152 (fun ht27 => ?_)
              refine Rk.gR (pc := 155) ((σ 152 2).toNat + 12) flX0_80 cl6 rfl ht27 dX0_quietUntil_155 ?_
              refine Rk.sp (G_iload_w (pc := 158) 4 rfl dX0_quietUntil_158) ?_
              refine Rk.al (pc := 160) (LBt ht27 12 (by decide)) dX0_quietUntil_160 (fun hi28 => ?_)
              refine Rk.mmin (pc := 161) cmmX0_46 hv2_17 (hok _ _) (Nat.le_of_ble_eq_true rfl) (Nat.le_of_ble_eq_true rfl) dX0_quietUntil_161 (fun r29 hr29 => ?_)
              refine Rk.sp (G_goto (pc := 164) (tgt := 168) dX0_quietUntil_164 rfl) ?_
              refine Rk.isa_n (pc := 168) 2 (L' := [some (vr 152), some (vi v1_2), some (vi r29), none, some (vi v4_18), none]) rfl (Nat.le_of_ble_eq_true rfl) rfl dX0_quietUntil_168 rfl ?_
              refine Rk.inc (pc := 169) 4 (fun v4_30 => [some (vr 152), some (vi v1_2), some (vi r29), none, some (vi v4_30), none]) rfl (Nat.le_of_ble_eq_true rfl) rfl dX0_quietUntil_169 (fun _ => rfl) (fun v4_30 hv4_30 => ?_)
              refine Rk.sp (G_goto (pc := 172) (tgt := 114) dX0_quietUntil_172 rfl) ?_
              exact Rk.end_ (fun h => h ⟨hr29, hv4_30⟩)
          · refine Rk.sp (G_iload_n (pc := 175) 2 rfl rfl dX0_quietUntil_175) ?_
            exact Rk.end_ (fun h => G_ireturn (pc := 176) rfl dX0_quietUntil_176 (q_RI h hv2_17))
        · refine Rk.sp (G_iload_n (pc := 175) 2 rfl rfl dX0_quietUntil_175) ?_
          exact Rk.end_ (fun h => G_ireturn (pc := 176) rfl dX0_quietUntil_176 (q_RI h hv2_17))
    · refine Rk.sp (G_iload_n (pc := 41) 1 rfl rfl dX0_quietUntil_41) ?_
      exact Rk.end_ (fun h => G_ireturn (pc := 42) rfl dX0_quietUntil_42 (q_RI h hv1_2))
  · refine Rk.sp (G_aload_n (pc := 57) 0 rfl rfl dX0_quietUntil_57) ?_
    refine Rk.gR (pc := 58) 1 flX0_9 cl0 rfl lb152 dX0_quietUntil_58 ?_
    refine Rk.gR (pc := 61) 16 flX0_62 cl7 rfl lb1 dX0_quietUntil_61 ?_
    refine Rk.sp (G_iconst (pc := 64) dX0_quietUntil_64) ?_
    refine Rk.sp (fun k => G_aaload2 (pc := 65) 23 (lb16).1 ⟨by decide, by decide⟩ rfl dX0_quietUntil_65 k) ?_
    refine Rk.ast_n (pc := 66) 3 (L' := [some (vr 152), some (vi v1_2), some (vi v2_3), some (vr 23), none, none]) rfl (Nat.le_of_ble_eq_true rfl) rfl dX0_quietUntil_66 rfl ?_
    refine Rk.sp (G_iconst (pc := 67) dX0_quietUntil_67) ?_
    refine Rk.isa_w (pc := 68) 4 (L' := [some (vr 152), some (vi v1_2), some (vi v2_3), some (vr 23), some (vi 0), none]) (Nat.le_of_ble_eq_true rfl) rfl dX0_quietUntil_68 rfl ?_
    refine Rk.loop (pc := 70) (B := (fun p => Co_quietUntil_70_b σ v1_2 p.1 p.2)) (fun p => inR p.1 ∧ inR p.2) (fun p => [some (vr 152), some (vi v1_2), some (vi p.1), some (vr 23), some (vi p.2), none]) (fun p => (ms false μ σ)) (fun p hp => ?_) (v2_3, 0) ⟨hv2_3, (inRk 0 rfl)⟩
    obtain ⟨v2_31, v4_32⟩ := p
    obtain ⟨hv2_31, hv4_32⟩ := hp
    try dsimp only
    unfold Co_quietUntil_70_b
    refine Rk.sp (G_iload_w (pc := 70) 4 rfl dX0_quietUntil_70) ?_
    refine Rk.sp (G_aload_n (pc := 72) 3 rfl rfl dX0_quietUntil_72) ?_
    refine Rk.gI (pc := 73) flX0_66 cl5 rfl lb23 dX0_quietUntil_73 ?_
    refine Rk.icmp_ge (pc := 76) (tgt := 111) dX0_quietUntil_76 (nmI hv4_32) (nmI (hok _ _)) rfl (fun hc33 => ?_) (fun hc33 => ?_)
    · refine Rk.sp (G_aload_n (pc := 79) 3 rfl rfl dX0_quietUntil_79) ?_
      refine Rk.sp (G_iload_w (pc := 80) 4 rfl dX0_quietUntil_80) ?_
      refine Rk.sp (G_iconst (pc := 82) dX0_quietUntil_82) ?_
      refine Rk.cRI (pc := 83) (Cl.v [vi v4_32, vi 0] [] dX0_quietUntil_83 ckX0_71 lb23 rfl rfl rfl (Nat.le_of_ble_eq_true rfl) (Nat.le_of_ble_eq_true rfl)) (k_Sh_cell 23 v4_32 0 σ lb23 hv4_32 (inRk 0 rfl) hok) (fun r34 hr34 => ?_)
      refine Rk.isa_w (pc := 86) 5 (L' := [some (vr 152), some (vi v1_2), some (vi v2_31), some (vr 23), some (vi v4_32), some (vi r34)]) (Nat.le_of_ble_eq_true rfl) rfl dX0_quietUntil_86 rfl ?_
      refine Rk.sp (G_iload_w (pc := 88) 5 rfl dX0_quietUntil_88) ?_
      refine Rk.sp (G_iload_n (pc := 90) 1 rfl rfl dX0_quietUntil_90) ?_
      refine Rk.icmp_lt (pc := 91) (tgt := 103) dX0_quietUntil_91 (nmI hr34) (nmI hv1_2) rfl (fun hc35 => ?_) (fun hc35 => ?_)
      · refine Rk.sp (G_iload_n (pc := 103) 2 rfl rfl dX0_quietUntil_103) ?_
        refine Rk.isa_n (pc := 104) 2 (L' := [some (vr 152), some (vi v1_2), some (vi v2_31), some (vr 23), some (vi v4_32), some (vi r34)]) rfl (Nat.le_of_ble_eq_true rfl) rfl dX0_quietUntil_104 rfl ?_
        refine Rk.inc (pc := 105) 4 (fun v4_36 => [some (vr 152), some (vi v1_2), some (vi v2_31), some (vr 23), some (vi v4_36), some (vi r34)]) rfl (Nat.le_of_ble_eq_true rfl) rfl dX0_quietUntil_105 (fun _ => rfl) (fun v4_36 hv4_36 => ?_)
        refine Rk.sp (G_goto (pc := 108) (tgt := 70) dX0_quietUntil_108 rfl) ?_
        refine Rk.fg [true, true, true, true, true, false] (L' := [some (vr 152), some (vi v1_2), some (vi v2_31), some (vr 23), some (vi v4_36), none]) rfl ?_
        exact Rk.end_ (fun h => h ⟨hv2_31, hv4_36⟩)
      · refine Rk.sp (G_iload_n (pc := 94) 2 rfl rfl dX0_quietUntil_94) ?_
        refine Rk.sp (G_iload_w (pc := 95) 5 rfl dX0_quietUntil_95) ?_
        refine Rk.mmin (pc := 97) cmmX0_46 hv2_31 hr34 (Nat.le_of_ble_eq_true rfl) (Nat.le_of_ble_eq_true rfl) dX0_quietUntil_97 (fun r37 hr37 => ?_)
        refine Rk.sp (G_goto (pc := 100) (tgt := 104) dX0_quietUntil_100 rfl) ?_
        refine Rk.isa_n (pc := 104) 2 (L' := [some (vr 152), some (vi v1_2), some (vi r37), some (vr 23), some (vi v4_32), some (vi r34)]) rfl (Nat.le_of_ble_eq_true rfl) rfl dX0_quietUntil_104 rfl ?_
        refine Rk.inc (pc := 105) 4 (fun v4_38 => [some (vr 152), some (vi v1_2), some (vi r37), some (vr 23), some (vi v4_38), some (vi r34)]) rfl (Nat.le_of_ble_eq_true rfl) rfl dX0_quietUntil_105 (fun _ => rfl) (fun v4_38 hv4_38 => ?_)
        refine Rk.sp (G_goto (pc := 108) (tgt := 70) dX0_quietUntil_108 rfl) ?_
        refine Rk.fg [true, true, true, true, true, false] (L' := [some (vr 152), some (vi v1_2), some (vi r37), some (vr 23), some (vi v4_38), none]) rfl ?_
        exact Rk.end_ (fun h => h ⟨hr37, hv4_38⟩)
    · refine Rk.sp (G_iconst (pc := 111) dX0_quietUntil_111) ?_
      refine Rk.isa_w (pc := 112) 4 (L' := [some (vr 152), some (vi v1_2), some (vi v2_31), some (vr 23), some (vi 0), none]) (Nat.le_of_ble_eq_true rfl) rfl dX0_quietUntil_112 rfl ?_
      refine Rk.fg [true, true, true, false, true, false] (L' := [some (vr 152), some (vi v1_2), some (vi v2_31), none, some (vi 0), none]) rfl ?_
      refine Rk.loop (pc := 114) (B := (fun p => Co_quietUntil_114_b σ v1_2 p.1 p.2)) (fun p => inR p.1 ∧ inR p.2) (fun p => [some (vr 152), some (vi v1_2), some (vi p.1), none, some (vi p.2), none]) (fun p => (ms false μ σ)) (fun p hp => ?_) (v2_31, 0) ⟨hv2_31, (inRk 0 rfl)⟩
      obtain ⟨v2_39, v4_40⟩ := p
      obtain ⟨hv2_39, hv4_40⟩ := hp
      try dsimp only
      unfold Co_quietUntil_114_b
      refine Rk.sp (G_iload_w (pc := 114) 4 rfl dX0_quietUntil_114) ?_
      refine Rk.sp (G_aload_n (pc := 116) 0 rfl rfl dX0_quietUntil_116) ?_
      refine Rk.gD (pc := 117) flX0_25 cl0 rfl lb152 dX0_quietUntil_117 (fun ht41 => ?_)
      refine Rk.gI (pc := 120) flX0_74 cl6 rfl ht41 dX0_quietUntil_120 ?_
      refine Rk.icmp_ge (pc := 123) (tgt := 175) dX0_quietUntil_123 (nmI hv4_40) (nmI (hok _ _)) rfl (fun hc42 => ?_) (fun hc42 => ?_)
      · refine Rk.sp (G_aload_n (pc := 126) 0 rfl rfl dX0_quietUntil_126) ?_
        refine Rk.gD (pc := 127) flX0_25 cl0 rfl lb152 dX0_quietUntil_127 (fun ht43 => ?_)
        refine Rk.gI (pc := 130) flX0_77 cl6 rfl ht43 dX0_quietUntil_130 ?_
        refine Rk.if_le (pc := 133) (tgt := 175) dX0_quietUntil_133 (nmI (hok _ _)) rfl (fun hc44 => ?_) (fun hc44 => ?_)
        · refine Rk.sp (G_aload_n (pc := 136) 0 rfl rfl dX0_quietUntil_136) ?_
          refine Rk.gD (pc := 137) flX0_25 cl0 rfl lb152 dX0_quietUntil_137 (fun ht45 => ?_)
          refine Rk.gR (pc := 140) ((σ 152 2).toNat + 12) flX0_80 cl6 rfl ht45 dX0_quietUntil_140 ?_
          refine Rk.sp (G_iload_w (pc := 143) 4 rfl dX0_quietUntil_143) ?_
          refine Rk.al (pc := 145) (LBt ht45 12 (by decide)) dX0_quietUntil_145 (fun hi46 => ?_)
          refine Rk.sp (G_iload_n (pc := 146) 1 rfl rfl dX0_quietUntil_146) ?_
          refine Rk.icmp_lt (pc := 147) (tgt := 167) dX0_quietUntil_147 (nmI (hok _ _)) (nmI hv1_2) rfl (fun hc47 => ?_) (fun hc47 => ?_)
          · refine Rk.sp (G_iload_n (pc := 167) 2 rfl rfl dX0_quietUntil_167) ?_
            refine Rk.isa_n (pc := 168) 2 (L' := [some (vr 152), some (vi v1_2), some (vi v2_39), none, some (vi v4_40), none]) rfl (Nat.le_of_ble_eq_true rfl) rfl dX0_quietUntil_168 rfl ?_
            refine Rk.inc (pc := 169) 4 (fun v4_48 => [some (vr 152), some (vi v1_2), some (vi v2_39), none, some (vi v4_48), none]) rfl (Nat.le_of_ble_eq_true rfl) rfl dX0_quietUntil_169 (fun _ => rfl) (fun v4_48 hv4_48 => ?_)
            refine Rk.sp (G_goto (pc := 172) (tgt := 114) dX0_quietUntil_172 rfl) ?_
            exact Rk.end_ (fun h => h ⟨hv2_39, hv4_48⟩)
          · refine Rk.sp (G_iload_n (pc := 150) 2 rfl rfl dX0_quietUntil_150) ?_
            refine Rk.sp (G_aload_n (pc := 151) 0 rfl rfl dX0_quietUntil_151) ?_
            refine Rk.gD (pc := 152) flX0_25 cl0 rfl lb152 dX0_quietUntil_152 (fun ht49 => ?_)
            refine Rk.gR (pc := 155) ((σ 152 2).toNat + 12) flX0_80 cl6 rfl ht49 dX0_quietUntil_155 ?_
            refine Rk.sp (G_iload_w (pc := 158) 4 rfl dX0_quietUntil_158) ?_
            refine Rk.al (pc := 160) (LBt ht49 12 (by decide)) dX0_quietUntil_160 (fun hi50 => ?_)
            refine Rk.mmin (pc := 161) cmmX0_46 hv2_39 (hok _ _) (Nat.le_of_ble_eq_true rfl) (Nat.le_of_ble_eq_true rfl) dX0_quietUntil_161 (fun r51 hr51 => ?_)
            refine Rk.sp (G_goto (pc := 164) (tgt := 168) dX0_quietUntil_164 rfl) ?_
            refine Rk.isa_n (pc := 168) 2 (L' := [some (vr 152), some (vi v1_2), some (vi r51), none, some (vi v4_40), none]) rfl (Nat.le_of_ble_eq_true rfl) rfl dX0_quietUntil_168 rfl ?_
            refine Rk.inc (pc := 169) 4 (fun v4_52 => [some (vr 152), some (vi v1_2), some (vi r51), none, some (vi v4_52), none]) rfl (Nat.le_of_ble_eq_true rfl) rfl dX0_quietUntil_169 (fun _ => rfl) (fun v4_52 hv4_52 => ?_)
            refine Rk.sp (G_goto (pc := 172) (tgt := 114) dX0_quietUntil_172 rfl) ?_
            exact Rk.end_ (fun h => h ⟨hr51, hv4_52⟩)
        · refine Rk.sp (G_iload_n (pc := 175) 2 rfl rfl dX0_quietUntil_175) ?_
          exact Rk.end_ (fun h => G_ireturn (pc := 176) rfl dX0_quietUntil_176 (q_RI h hv2_39))
      · refine Rk.sp (G_iload_n (pc := 175) 2 rfl rfl dX0_quietUntil_175) ?_
        exact Rk.end_ (fun h => G_ireturn (pc := 176) rfl dX0_quietUntil_176 (q_RI h hv2_39))
theorem k_Ta_isFull {κ : Kx} {μ : Sg} (t0 : Nat) (σ : Sg) (ht0 : LB false t0 (1, 6)) (hok : okS σ) : CtRZ κ mX6_isFull 0 [vr t0] false μ σ (Ta_isFull t0 σ) := by
  intro r h
  refine con_of (by decide) (Nat.le_of_ble_eq_true rfl) 0 ?_
  refine (?_ : Rk κ mX6_isFull _ 0 [some (vr t0)] [] (ms false μ σ) (Ta_isFull t0 σ) (fun a => a = r)) _ h rfl
  unfold Ta_isFull
  refine Rk.sp (G_aload_n (pc := 0) 0 rfl rfl dX6_isFull_0) ?_
  refine Rk.gI (pc := 1) flX6_55 cl6 rfl ht0 dX6_isFull_1 ?_
  refine Rk.sp (G_bipush (pc := 4) dX6_isFull_4 rfl) ?_
  refine Rk.icmp_lt (pc := 6) (tgt := 13) dX6_isFull_6 (nmI (hok _ _)) (nmI (inRk 60 rfl)) rfl (fun hc1 => ?_) (fun hc1 => ?_)
  · refine Rk.sp (G_iconst (pc := 13) dX6_isFull_13) ?_
    exact Rk.end_ (fun h => G_zreturn (pc := 14) rfl (nz inZ0) dX6_isFull_14 (q_RZ h inZ0))
  · refine Rk.sp (G_iconst (pc := 9) dX6_isFull_9) ?_
    refine Rk.sp (G_goto (pc := 10) (tgt := 14) dX6_isFull_10 rfl) ?_
    exact Rk.end_ (fun h => G_zreturn (pc := 14) rfl (nz inZ1) dX6_isFull_14 (q_RZ h inZ1))
theorem k_Ta_add {κ : Kx} {μ : Sg} (t0 : Nat) (a1 : Int) (a2 : Int) (a3 : Int) (a4 : Int) (a5 : Int) (σ : Sg) (ht0 : LB false t0 (1, 6)) (ha1 : inR a1) (ha2 : inR a2) (ha3 : inR a3) (ha4 : inR a4) (ha5 : inR a5) (hok : okS σ) : CtI κ mX6_add 1 [vr t0, vi a1, vi a2, vi a3, vi a4, vi a5] false μ σ (Ta_add t0 a1 a2 a3 a4 a5 σ) := by
  intro r τ h
  refine con_of (by decide) (Nat.le_of_ble_eq_true rfl) 1 ?_
  refine (?_ : Rk κ mX6_add _ 0 [some (vr t0), some (vi a1), some (vi a2), some (vi a3), some (vi a4), some (vi a5), none] [] (ms false μ σ) (Ta_add t0 a1 a2 a3 a4 a5 σ) (fun a => a = (r, τ))) _ h rfl
  unfold Ta_add
  refine Rk.sp (G_aload_n (pc := 0) 0 rfl rfl dX6_add_0) ?_
  refine Rk.cRZ (pc := 1) (Cl.v [] [] dX6_add_1 ckX6_73 ht0 rfl rfl rfl (Nat.le_of_ble_eq_true rfl) (Nat.le_of_ble_eq_true rfl)) (k_Ta_isFull t0 σ ht0 hok) (fun r1 hr1 => ?_)
  refine Rk.if_eq (pc := 4) (tgt := 9) dX6_add_4 (nmI (inZ.R hr1)) rfl (fun hc2 => ?_) (fun hc2 => ?_)
  · refine Rk.sp (G_aload_n (pc := 9) 0 rfl rfl dX6_add_9) ?_
    refine Rk.gI (pc := 10) flX6_55 cl6 rfl ht0 dX6_add_10 ?_
    refine Rk.ist_w (pc := 13) 6 (fun v6_3 => [some (vr t0), some (vi a1), some (vi a2), some (vi a3), some (vi a4), some (vi a5), some (vi v6_3)]) (Nat.le_of_ble_eq_true rfl) rfl dX6_add_13 (nmI (hok _ _)) (fun _ => rfl) (fun v6_3 hv6_3 => ?_)
    refine Rk.sp (G_aload_n (pc := 15) 0 rfl rfl dX6_add_15) ?_
    refine Rk.gR (pc := 16) (t0 + 4) flX6_21 cl6 rfl ht0 dX6_add_16 ?_
    refine Rk.sp (G_iload_w (pc := 19) 6 rfl dX6_add_19) ?_
    refine Rk.sp (G_iload_n (pc := 21) 1 rfl rfl dX6_add_21) ?_
    refine Rk.as (pc := 22) hok (nmI ha1) (LBt ht0 4 (by decide)) dX6_add_22 (fun hi5 σ4 hσ4 => ?_)
    refine Rk.sp (G_aload_n (pc := 23) 0 rfl rfl dX6_add_23) ?_
    refine Rk.gR (pc := 24) (t0 + 5) flX6_24 cl6 rfl ht0 dX6_add_24 ?_
    refine Rk.sp (G_iload_w (pc := 27) 6 rfl dX6_add_27) ?_
    refine Rk.sp (G_aload_n (pc := 29) 0 rfl rfl dX6_add_29) ?_
    refine Rk.gI (pc := 30) flX6_48 cl6 rfl ht0 dX6_add_30 ?_
    refine Rk.as (pc := 33) hσ4 (nmI (hσ4 _ _)) (LBt ht0 5 (by decide)) dX6_add_33 (fun hi7 σ6 hσ6 => ?_)
    refine Rk.sp (G_aload_n (pc := 34) 0 rfl rfl dX6_add_34) ?_
    refine Rk.gR (pc := 35) (t0 + 6) flX6_27 cl6 rfl ht0 dX6_add_35 ?_
    refine Rk.sp (G_iload_w (pc := 38) 6 rfl dX6_add_38) ?_
    refine Rk.sp (G_iconst (pc := 40) dX6_add_40) ?_
    refine Rk.as (pc := 41) hσ6 (nmI (inRk (-1) rfl)) (LBt ht0 6 (by decide)) dX6_add_41 (fun hi9 σ8 hσ8 => ?_)
    refine Rk.sp (G_aload_n (pc := 42) 0 rfl rfl dX6_add_42) ?_
    refine Rk.gR (pc := 43) (t0 + 7) flX6_30 cl6 rfl ht0 dX6_add_43 ?_
    refine Rk.sp (G_iload_w (pc := 46) 6 rfl dX6_add_46) ?_
    refine Rk.sp (G_iload_n (pc := 48) 2 rfl rfl dX6_add_48) ?_
    refine Rk.as (pc := 49) hσ8 (nmI ha2) (LBt ht0 7 (by decide)) dX6_add_49 (fun hi11 σ10 hσ10 => ?_)
    refine Rk.sp (G_aload_n (pc := 50) 0 rfl rfl dX6_add_50) ?_
    refine Rk.gR (pc := 51) (t0 + 8) flX6_33 cl6 rfl ht0 dX6_add_51 ?_
    refine Rk.sp (G_iload_w (pc := 54) 6 rfl dX6_add_54) ?_
    refine Rk.sp (G_iload_n (pc := 56) 3 rfl rfl dX6_add_56) ?_
    refine Rk.as (pc := 57) hσ10 (nmI ha3) (LBt ht0 8 (by decide)) dX6_add_57 (fun hi13 σ12 hσ12 => ?_)
    refine Rk.sp (G_aload_n (pc := 58) 0 rfl rfl dX6_add_58) ?_
    refine Rk.gR (pc := 59) (t0 + 9) flX6_36 cl6 rfl ht0 dX6_add_59 ?_
    refine Rk.sp (G_iload_w (pc := 62) 6 rfl dX6_add_62) ?_
    refine Rk.sp (G_iload_w (pc := 64) 4 rfl dX6_add_64) ?_
    refine Rk.as (pc := 66) hσ12 (nmI ha4) (LBt ht0 9 (by decide)) dX6_add_66 (fun hi15 σ14 hσ14 => ?_)
    refine Rk.sp (G_aload_n (pc := 67) 0 rfl rfl dX6_add_67) ?_
    refine Rk.gR (pc := 68) (t0 + 10) flX6_39 cl6 rfl ht0 dX6_add_68 ?_
    refine Rk.sp (G_iload_w (pc := 71) 6 rfl dX6_add_71) ?_
    refine Rk.sp (G_iload_w (pc := 73) 5 rfl dX6_add_73) ?_
    refine Rk.as (pc := 75) hσ14 (nmI ha5) (LBt ht0 10 (by decide)) dX6_add_75 (fun hi17 σ16 hσ16 => ?_)
    refine Rk.sp (G_aload_n (pc := 76) 0 rfl rfl dX6_add_76) ?_
    refine Rk.gR (pc := 77) (t0 + 11) flX6_42 cl6 rfl ht0 dX6_add_77 ?_
    refine Rk.sp (G_iload_w (pc := 80) 6 rfl dX6_add_80) ?_
    refine Rk.sp (G_iconst (pc := 82) dX6_add_82) ?_
    refine Rk.as (pc := 83) hσ16 (nmI (inRk 0 rfl)) (LBt ht0 11 (by decide)) dX6_add_83 (fun hi19 σ18 hσ18 => ?_)
    refine Rk.sp (G_aload_n (pc := 84) 0 rfl rfl dX6_add_84) ?_
    refine Rk.gR (pc := 85) (t0 + 12) flX6_45 cl6 rfl ht0 dX6_add_85 ?_
    refine Rk.sp (G_iload_w (pc := 88) 6 rfl dX6_add_88) ?_
    refine Rk.sp (G_iconst (pc := 90) dX6_add_90) ?_
    refine Rk.as (pc := 91) hσ18 (nmI (inRk (-1) rfl)) (LBt ht0 12 (by decide)) dX6_add_91 (fun hi21 σ20 hσ20 => ?_)
    refine Rk.sp (G_aload_n (pc := 92) 0 rfl rfl dX6_add_92) ?_
    refine Rk.sp (G_dup (pc := 93) dX6_add_93 (fun _ h => by cases h)) ?_
    refine Rk.gI (pc := 94) flX6_55 cl6 rfl ht0 dX6_add_94 ?_
    refine Rk.sp (G_iconst (pc := 97) dX6_add_97) ?_
    refine Rk.sp (G_iadd (pc := 98) dX6_add_98) ?_
    refine Rk.pI (pc := 99) hσ20 (nmW _) flX6_55 cl6 rfl rfl ht0 dX6_add_99 (fun σ22 hσ22 => ?_)
    refine Rk.sp (G_aload_n (pc := 102) 0 rfl rfl dX6_add_102) ?_
    refine Rk.sp (G_dup (pc := 103) dX6_add_103 (fun _ h => by cases h)) ?_
    refine Rk.gI (pc := 104) flX6_61 cl6 rfl ht0 dX6_add_104 ?_
    refine Rk.sp (G_iconst (pc := 107) dX6_add_107) ?_
    refine Rk.sp (G_iadd (pc := 108) dX6_add_108) ?_
    refine Rk.pI (pc := 109) hσ22 (nmW _) flX6_61 cl6 rfl rfl ht0 dX6_add_109 (fun σ23 hσ23 => ?_)
    refine Rk.sp (G_iload_w (pc := 112) 6 rfl dX6_add_112) ?_
    exact Rk.end_ (fun h => G_ireturn (pc := 114) rfl dX6_add_114 (q_I h hv6_3 hσ23))
  · refine Rk.sp (G_iconst (pc := 7) dX6_add_7) ?_
    exact Rk.end_ (fun h => G_ireturn (pc := 8) rfl dX6_add_8 (q_I h (inRk (-1) rfl) hok))
theorem k_Co_utter {κ : Kx} {μ : Sg} (a1 : Int) (a2 : Int) (a3 : Int) (a4 : Int) (σ : Sg) (ha1 : inR a1) (ha2 : inR a2) (ha3 : inR a3) (ha4 : inR a4) (hok : okS σ) : CtI κ mX0_utter 2 [vr 152, vi a1, vi a2, vi a3, vi a4] false μ σ (Co_utter a1 a2 a3 a4 σ) := by
  intro r τ h
  refine con_of (by decide) (Nat.le_of_ble_eq_true rfl) 1 ?_
  refine (?_ : Rk κ mX0_utter _ 0 [some (vr 152), some (vi a1), some (vi a2), some (vi a3), some (vi a4), none] [] (ms false μ σ) (Co_utter a1 a2 a3 a4 σ) (fun a => a = (r, τ))) _ h rfl
  unfold Co_utter
  refine Rk.sp (G_aload_n (pc := 0) 0 rfl rfl dX0_utter_0) ?_
  refine Rk.gD (pc := 1) flX0_25 cl0 rfl lb152 dX0_utter_1 (fun ht1 => ?_)
  refine Rk.sp (G_iload_n (pc := 4) 1 rfl rfl dX0_utter_4) ?_
  refine Rk.sp (G_iload_n (pc := 5) 2 rfl rfl dX0_utter_5) ?_
  refine Rk.sp (G_iload_n (pc := 6) 3 rfl rfl dX0_utter_6) ?_
  refine Rk.sp (G_iload_w (pc := 7) 4 rfl dX0_utter_7) ?_
  refine Rk.sp (G_iconst (pc := 9) dX0_utter_9) ?_
  refine Rk.cI (pc := 10) (Cl.v [vi a1, vi a2, vi a3, vi a4, vi (-1)] [] dX0_utter_10 ckX0_110 ht1 rfl rfl rfl (Nat.le_of_ble_eq_true rfl) (Nat.le_of_ble_eq_true rfl)) (k_Ta_add (σ 152 2).toNat a1 a2 a3 a4 (-1) σ ht1 ha1 ha2 ha3 ha4 (inRk (-1) rfl) hok) (fun r2 σ3 hr2 hσ3 => ?_)
  refine Rk.isa_w (pc := 13) 5 (L' := [some (vr 152), some (vi a1), some (vi a2), some (vi a3), some (vi a4), some (vi r2)]) (Nat.le_of_ble_eq_true rfl) rfl dX0_utter_13 rfl ?_
  refine Rk.sp (G_iload_w (pc := 15) 5 rfl dX0_utter_15) ?_
  refine Rk.sp (G_iconst (pc := 17) dX0_utter_17) ?_
  refine Rk.icmp_eq (pc := 18) (tgt := 29) dX0_utter_18 (nmI hr2) (nmI (inRk (-1) rfl)) rfl (fun hc4 => ?_) (fun hc4 => ?_)
  · refine Rk.sp (G_iload_w (pc := 29) 5 rfl dX0_utter_29) ?_
    exact Rk.end_ (fun h => G_ireturn (pc := 31) rfl dX0_utter_31 (q_I h hr2 hσ3))
  · refine Rk.sp (G_aload_n (pc := 21) 0 rfl rfl dX0_utter_21) ?_
    refine Rk.sp (G_iconst (pc := 22) dX0_utter_22) ?_
    refine Rk.sp (G_iload_n (pc := 23) 1 rfl rfl dX0_utter_23) ?_
    refine Rk.sp (G_iload_w (pc := 24) 5 rfl dX0_utter_24) ?_
    refine Rk.cV (pc := 26) (Cl.v [vi 0, vi a1, vi r2] [] dX0_utter_26 ckX0_114 lb152 rfl rfl rfl (Nat.le_of_ble_eq_true rfl) (Nat.le_of_ble_eq_true rfl)) (k_Co_note 0 a1 r2 σ3 (inRk 0 rfl) ha1 hr2 hσ3) (fun σ5 hσ5 => ?_)
    refine Rk.sp (G_iload_w (pc := 29) 5 rfl dX0_utter_29) ?_
    exact Rk.end_ (fun h => G_ireturn (pc := 31) rfl dX0_utter_31 (q_I h hr2 hσ5))
theorem k_Ta_latestOpenOf {κ : Kx} {μ : Sg} (t0 : Nat) (a1 : Int) (σ : Sg) (ht0 : LB false t0 (1, 6)) (ha1 : inR a1) (hok : okS σ) : CtRI κ mX6_latestOpenOf 1 [vr t0, vi a1] false μ σ (Ta_latestOpenOf t0 a1 σ) := by
  intro r h
  refine con_of (by decide) (Nat.le_of_ble_eq_true rfl) 1 ?_
  refine (?_ : Rk κ mX6_latestOpenOf _ 0 [some (vr t0), some (vi a1), none] [] (ms false μ σ) (Ta_latestOpenOf t0 a1 σ) (fun a => a = r)) _ h rfl
  unfold Ta_latestOpenOf
  refine Rk.sp (G_aload_n (pc := 0) 0 rfl rfl dX6_latestOpenOf_0) ?_
  refine Rk.gI (pc := 1) flX6_55 cl6 rfl ht0 dX6_latestOpenOf_1 ?_
  refine Rk.sp (G_iconst (pc := 4) dX6_latestOpenOf_4) ?_
  refine Rk.sp (G_isub (pc := 5) dX6_latestOpenOf_5) ?_
  refine Rk.ist_n (pc := 6) 2 (fun v2_1 => [some (vr t0), some (vi a1), some (vi v2_1)]) rfl (Nat.le_of_ble_eq_true rfl) rfl dX6_latestOpenOf_6 (nmW _) (fun _ => rfl) (fun v2_1 hv2_1 => ?_)
  refine Rk.loop (pc := 7) (B := (fun p => Ta_latestOpenOf_7_b σ t0 a1 p)) (fun p => inR p) (fun p => [some (vr t0), some (vi a1), some (vi p)]) (fun p => (ms false μ σ)) (fun p hp => ?_) v2_1 hv2_1
  revert hp; revert p; intro v2_2 hv2_2
  try dsimp only
  unfold Ta_latestOpenOf_7_b
  refine Rk.sp (G_iload_n (pc := 7) 2 rfl rfl dX6_latestOpenOf_7) ?_
  refine Rk.if_lt (pc := 8) (tgt := 37) dX6_latestOpenOf_8 (nmI hv2_2) rfl (fun hc3 => ?_) (fun hc3 => ?_)
  · refine Rk.sp (G_iconst (pc := 37) dX6_latestOpenOf_37) ?_
    exact Rk.end_ (fun h => G_ireturn (pc := 38) rfl dX6_latestOpenOf_38 (q_RI h (inRk (-1) rfl)))
  · refine Rk.sp (G_aload_n (pc := 11) 0 rfl rfl dX6_latestOpenOf_11) ?_
    refine Rk.gR (pc := 12) (t0 + 4) flX6_21 cl6 rfl ht0 dX6_latestOpenOf_12 ?_
    refine Rk.sp (G_iload_n (pc := 15) 2 rfl rfl dX6_latestOpenOf_15) ?_
    refine Rk.al (pc := 16) (LBt ht0 4 (by decide)) dX6_latestOpenOf_16 (fun hi4 => ?_)
    refine Rk.sp (G_iload_n (pc := 17) 1 rfl rfl dX6_latestOpenOf_17) ?_
    refine Rk.icmp_ne (pc := 18) (tgt := 31) dX6_latestOpenOf_18 (nmI (hok _ _)) (nmI ha1) rfl (fun hc5 => ?_) (fun hc5 => ?_)
    · refine Rk.sp (G_aload_n (pc := 21) 0 rfl rfl dX6_latestOpenOf_21) ?_
      refine Rk.sp (G_iload_n (pc := 22) 2 rfl rfl dX6_latestOpenOf_22) ?_
      refine Rk.cRZ (pc := 23) (Cl.v [vi v2_2] [] dX6_latestOpenOf_23 ckX6_77 ht0 rfl rfl rfl (Nat.le_of_ble_eq_true rfl) (Nat.le_of_ble_eq_true rfl)) (k_Ta_isOpen t0 v2_2 σ ht0 hv2_2 hok) (fun r6 hr6 => ?_)
      refine Rk.if_eq (pc := 26) (tgt := 31) dX6_latestOpenOf_26 (nmI (inZ.R hr6)) rfl (fun hc7 => ?_) (fun hc7 => ?_)
      · refine Rk.inc (pc := 31) 2 (fun v2_8 => [some (vr t0), some (vi a1), some (vi v2_8)]) rfl (Nat.le_of_ble_eq_true rfl) rfl dX6_latestOpenOf_31 (fun _ => rfl) (fun v2_8 hv2_8 => ?_)
        refine Rk.sp (G_goto (pc := 34) (tgt := 7) dX6_latestOpenOf_34 rfl) ?_
        exact Rk.end_ (fun h => h hv2_8)
      · refine Rk.sp (G_iload_n (pc := 29) 2 rfl rfl dX6_latestOpenOf_29) ?_
        exact Rk.end_ (fun h => G_ireturn (pc := 30) rfl dX6_latestOpenOf_30 (q_RI h hv2_2))
    · refine Rk.inc (pc := 31) 2 (fun v2_9 => [some (vr t0), some (vi a1), some (vi v2_9)]) rfl (Nat.le_of_ble_eq_true rfl) rfl dX6_latestOpenOf_31 (fun _ => rfl) (fun v2_9 hv2_9 => ?_)
      refine Rk.sp (G_goto (pc := 34) (tgt := 7) dX6_latestOpenOf_34 rfl) ?_
      exact Rk.end_ (fun h => h hv2_9)
theorem k_Co_followSayings {κ : Kx} {μ : Sg} (σ : Sg) (hok : okS σ) : CtV κ mX0_followSayings 3 [vr 152] false μ σ (Co_followSayings σ) := by
  intro τ h
  refine con_of (by decide) (Nat.le_of_ble_eq_true rfl) 4 ?_
  refine (?_ : Rk κ mX0_followSayings _ 0 [some (vr 152), none, none, none, none] [] (ms false μ σ) (Co_followSayings σ) (fun a => a = τ)) _ h rfl
  unfold Co_followSayings
  refine Rk.sp (G_aload_n (pc := 0) 0 rfl rfl dX0_followSayings_0) ?_
  refine Rk.gR (pc := 1) 1 flX0_9 cl0 rfl lb152 dX0_followSayings_1 ?_
  refine Rk.gR (pc := 4) 16 flX0_62 cl7 rfl lb1 dX0_followSayings_4 ?_
  refine Rk.sp (G_iconst (pc := 7) dX0_followSayings_7) ?_
  refine Rk.sp (fun k => G_aaload2 (pc := 8) 23 (lb16).1 ⟨by decide, by decide⟩ rfl dX0_followSayings_8 k) ?_
  refine Rk.ast_n (pc := 9) 1 (L' := [some (vr 152), some (vr 23), none, none, none]) rfl (Nat.le_of_ble_eq_true rfl) rfl dX0_followSayings_9 rfl ?_
  refine Rk.sp (G_iconst (pc := 10) dX0_followSayings_10) ?_
  refine Rk.isa_n (pc := 11) 2 (L' := [some (vr 152), some (vr 23), some (vi 0), none, none]) rfl (Nat.le_of_ble_eq_true rfl) rfl dX0_followSayings_11 rfl ?_
  refine Rk.loop (pc := 12) (B := (fun p => Co_followSayings_12_b p.1 p.2)) (fun p => inR p.1 ∧ okS p.2) (fun p => [some (vr 152), some (vr 23), some (vi p.1), none, none]) (fun p => (ms false μ p.2)) (fun p hp => ?_) (0, σ) ⟨(inRk 0 rfl), hok⟩
  obtain ⟨v2_1, σ2⟩ := p
  obtain ⟨hv2_1, hσ2⟩ := hp
  try dsimp only
  unfold Co_followSayings_12_b
  refine Rk.sp (G_iload_n (pc := 12) 2 rfl rfl dX0_followSayings_12) ?_
  refine Rk.sp (G_aload_n (pc := 13) 1 rfl rfl dX0_followSayings_13) ?_
  refine Rk.gI (pc := 14) flX0_66 cl5 rfl lb23 dX0_followSayings_14 ?_
  refine Rk.icmp_ge (pc := 17) (tgt := 110) dX0_followSayings_17 (nmI hv2_1) (nmI (hσ2 _ _)) rfl (fun hc3 => ?_) (fun hc3 => ?_)
  · refine Rk.sp (G_aload_n (pc := 20) 1 rfl rfl dX0_followSayings_20) ?_
    refine Rk.sp (G_iload_n (pc := 21) 2 rfl rfl dX0_followSayings_21) ?_
    refine Rk.sp (G_iconst (pc := 22) dX0_followSayings_22) ?_
    refine Rk.cRI (pc := 23) (Cl.v [vi v2_1, vi 0] [] dX0_followSayings_23 ckX0_71 lb23 rfl rfl rfl (Nat.le_of_ble_eq_true rfl) (Nat.le_of_ble_eq_true rfl)) (k_Sh_cell 23 v2_1 0 σ2 lb23 hv2_1 (inRk 0 rfl) hσ2) (fun r4 hr4 => ?_)
    refine Rk.sp (G_aload_n (pc := 26) 0 rfl rfl dX0_followSayings_26) ?_
    refine Rk.gD (pc := 27) flX0_25 cl0 rfl lb152 dX0_followSayings_27 (fun ht5 => ?_)
    refine Rk.gI (pc := 30) flX0_37 cl6 rfl ht5 dX0_followSayings_30 ?_
    refine Rk.icmp_eq (pc := 33) (tgt := 39) dX0_followSayings_33 (nmI hr4) (nmI (hσ2 _ _)) rfl (fun hc6 => ?_) (fun hc6 => ?_)
    · refine Rk.sp (G_aload_n (pc := 39) 1 rfl rfl dX0_followSayings_39) ?_
      refine Rk.sp (G_iload_n (pc := 40) 2 rfl rfl dX0_followSayings_40) ?_
      refine Rk.sp (G_iconst (pc := 41) dX0_followSayings_41) ?_
      refine Rk.cRI (pc := 42) (Cl.v [vi v2_1, vi 1] [] dX0_followSayings_42 ckX0_71 lb23 rfl rfl rfl (Nat.le_of_ble_eq_true rfl) (Nat.le_of_ble_eq_true rfl)) (k_Sh_cell 23 v2_1 1 σ2 lb23 hv2_1 (inRk 1 rfl) hσ2) (fun r7 hr7 => ?_)
      refine Rk.isa_n (pc := 45) 3 (L' := [some (vr 152), some (vr 23), some (vi v2_1), some (vi r7), none]) rfl (Nat.le_of_ble_eq_true rfl) rfl dX0_followSayings_45 rfl ?_
      refine Rk.sp (G_aload_n (pc := 46) 1 rfl rfl dX0_followSayings_46) ?_
      refine Rk.sp (G_iload_n (pc := 47) 2 rfl rfl dX0_followSayings_47) ?_
      refine Rk.sp (G_iconst (pc := 48) dX0_followSayings_48) ?_
      refine Rk.cRI (pc := 49) (Cl.v [vi v2_1, vi 2] [] dX0_followSayings_49 ckX0_71 lb23 rfl rfl rfl (Nat.le_of_ble_eq_true rfl) (Nat.le_of_ble_eq_true rfl)) (k_Sh_cell 23 v2_1 2 σ2 lb23 hv2_1 (inRk 2 rfl) hσ2) (fun r8 hr8 => ?_)
      refine Rk.if_ne (pc := 52) (tgt := 82) dX0_followSayings_52 (nmI hr8) rfl (fun hc9 => ?_) (fun hc9 => ?_)
      · refine Rk.sp (G_aload_n (pc := 55) 0 rfl rfl dX0_followSayings_55) ?_
        refine Rk.sp (G_iload_n (pc := 56) 3 rfl rfl dX0_followSayings_56) ?_
        refine Rk.sp (G_aload_n (pc := 57) 1 rfl rfl dX0_followSayings_57) ?_
        refine Rk.sp (G_iload_n (pc := 58) 2 rfl rfl dX0_followSayings_58) ?_
        refine Rk.sp (G_iconst (pc := 59) dX0_followSayings_59) ?_
        refine Rk.cRI (pc := 60) (Cl.v [vi v2_1, vi 3] [vi r7, vr 152] dX0_followSayings_60 ckX0_71 lb23 rfl rfl rfl (Nat.le_of_ble_eq_true rfl) (Nat.le_of_ble_eq_true rfl)) (k_Sh_cell 23 v2_1 3 σ2 lb23 hv2_1 (inRk 3 rfl) hσ2) (fun r10 hr10 => ?_)
        refine Rk.sp (G_aload_n (pc := 63) 1 rfl rfl dX0_followSayings_63) ?_
        refine Rk.sp (G_iload_n (pc := 64) 2 rfl rfl dX0_followSayings_64) ?_
        refine Rk.sp (G_iconst (pc := 65) dX0_followSayings_65) ?_
        refine Rk.cRI (pc := 66) (Cl.v [vi v2_1, vi 4] [vi r10, vi r7, vr 152] dX0_followSayings_66 ckX0_71 lb23 rfl rfl rfl (Nat.le_of_ble_eq_true rfl) (Nat.le_of_ble_eq_true rfl)) (k_Sh_cell 23 v2_1 4 σ2 lb23 hv2_1 (inRk 4 rfl) hσ2) (fun r11 hr11 => ?_)
        refine Rk.sp (G_aload_n (pc := 69) 1 rfl rfl dX0_followSayings_69) ?_
        refine Rk.sp (G_iload_n (pc := 70) 2 rfl rfl dX0_followSayings_70) ?_
        refine Rk.sp (G_iconst (pc := 71) dX0_followSayings_71) ?_
        refine Rk.cRI (pc := 72) (Cl.v [vi v2_1, vi 5] [vi r11, vi r10, vi r7, vr 152] dX0_followSayings_72 ckX0_71 lb23 rfl rfl rfl (Nat.le_of_ble_eq_true rfl) (Nat.le_of_ble_eq_true rfl)) (k_Sh_cell 23 v2_1 5 σ2 lb23 hv2_1 (inRk 5 rfl) hσ2) (fun r12 hr12 => ?_)
        refine Rk.cI (pc := 75) (Cl.v [vi r7, vi r10, vi r11, vi r12] [] dX0_followSayings_75 ckX0_134 lb152 rfl rfl rfl (Nat.le_of_ble_eq_true rfl) (Nat.le_of_ble_eq_true rfl)) (k_Co_utter r7 r10 r11 r12 σ2 hr7 hr10 hr11 hr12 hσ2) (fun r13 σ14 hr13 hσ14 => ?_)
        refine Rk.sp (G_pop (pc := 78) dX0_followSayings_78 (fun _ h => by cases h)) ?_
        refine Rk.sp (G_goto (pc := 79) (tgt := 104) dX0_followSayings_79 rfl) ?_
        refine Rk.inc (pc := 104) 2 (fun v2_15 => [some (vr 152), some (vr 23), some (vi v2_15), some (vi r7), none]) rfl (Nat.le_of_ble_eq_true rfl) rfl dX0_followSayings_104 (fun _ => rfl) (fun v2_15 hv2_15 => ?_)
        refine Rk.sp (G_goto (pc := 107) (tgt := 12) dX0_followSayings_107 rfl) ?_
        refine Rk.fg [true, true, true, false, false] (L' := [some (vr 152), some (vr 23), some (vi v2_15), none, none]) rfl ?_
        exact Rk.end_ (fun h => h ⟨hv2_15, hσ14⟩)
      · refine Rk.sp (G_aload_n (pc := 82) 0 rfl rfl dX0_followSayings_82) ?_
        refine Rk.gD (pc := 83) flX0_25 cl0 rfl lb152 dX0_followSayings_83 (fun ht16 => ?_)
        refine Rk.sp (G_iload_n (pc := 86) 3 rfl rfl dX0_followSayings_86) ?_
        refine Rk.cRI (pc := 87) (Cl.v [vi r7] [] dX0_followSayings_87 ckX0_138 ht16 rfl rfl rfl (Nat.le_of_ble_eq_true rfl) (Nat.le_of_ble_eq_true rfl)) (k_Ta_latestOpenOf (σ2 152 2).toNat r7 σ2 ht16 hr7 hσ2) (fun r17 hr17 => ?_)
        refine Rk.isa_w (pc := 90) 4 (L' := [some (vr 152), some (vr 23), some (vi v2_1), some (vi r7), some (vi r17)]) (Nat.le_of_ble_eq_true rfl) rfl dX0_followSayings_90 rfl ?_
        refine Rk.sp (G_iload_w (pc := 92) 4 rfl dX0_followSayings_92) ?_
        refine Rk.sp (G_iconst (pc := 94) dX0_followSayings_94) ?_
        refine Rk.icmp_eq (pc := 95) (tgt := 104) dX0_followSayings_95 (nmI hr17) (nmI (inRk (-1) rfl)) rfl (fun hc18 => ?_) (fun hc18 => ?_)
        · refine Rk.inc (pc := 104) 2 (fun v2_19 => [some (vr 152), some (vr 23), some (vi v2_19), some (vi r7), some (vi r17)]) rfl (Nat.le_of_ble_eq_true rfl) rfl dX0_followSayings_104 (fun _ => rfl) (fun v2_19 hv2_19 => ?_)
          refine Rk.sp (G_goto (pc := 107) (tgt := 12) dX0_followSayings_107 rfl) ?_
          refine Rk.fg [true, true, true, false, false] (L' := [some (vr 152), some (vr 23), some (vi v2_19), none, none]) rfl ?_
          exact Rk.end_ (fun h => h ⟨hv2_19, hσ2⟩)
        · refine Rk.sp (G_aload_n (pc := 98) 0 rfl rfl dX0_followSayings_98) ?_
          refine Rk.sp (G_iload_w (pc := 99) 4 rfl dX0_followSayings_99) ?_
          refine Rk.cV (pc := 101) (Cl.v [vi r17] [] dX0_followSayings_101 ckX0_121 lb152 rfl rfl rfl (Nat.le_of_ble_eq_true rfl) (Nat.le_of_ble_eq_true rfl)) (k_Co_withdraw r17 σ2 hr17 hσ2) (fun σ20 hσ20 => ?_)
          refine Rk.inc (pc := 104) 2 (fun v2_21 => [some (vr 152), some (vr 23), some (vi v2_21), some (vi r7), some (vi r17)]) rfl (Nat.le_of_ble_eq_true rfl) rfl dX0_followSayings_104 (fun _ => rfl) (fun v2_21 hv2_21 => ?_)
          refine Rk.sp (G_goto (pc := 107) (tgt := 12) dX0_followSayings_107 rfl) ?_
          refine Rk.fg [true, true, true, false, false] (L' := [some (vr 152), some (vr 23), some (vi v2_21), none, none]) rfl ?_
          exact Rk.end_ (fun h => h ⟨hv2_21, hσ20⟩)
    · refine Rk.sp (G_goto (pc := 36) (tgt := 104) dX0_followSayings_36 rfl) ?_
      refine Rk.inc (pc := 104) 2 (fun v2_22 => [some (vr 152), some (vr 23), some (vi v2_22), none, none]) rfl (Nat.le_of_ble_eq_true rfl) rfl dX0_followSayings_104 (fun _ => rfl) (fun v2_22 hv2_22 => ?_)
      refine Rk.sp (G_goto (pc := 107) (tgt := 12) dX0_followSayings_107 rfl) ?_
      exact Rk.end_ (fun h => h ⟨hv2_22, hσ2⟩)
  · exact Rk.end_ (fun h => G_return (pc := 110) rfl dX0_followSayings_110 (q_V h hσ2))
theorem k_Co_draw {κ : Kx} {μ : Sg} (a1 : Int) (σ : Sg) (ha1 : inR a1) (hok : okS σ) : CtI κ mX0_draw 0 [vr 152, vi a1] false μ σ (Co_draw a1 σ) := by
  intro r τ h
  refine con_of (by decide) (Nat.le_of_ble_eq_true rfl) 0 ?_
  refine (?_ : Rk κ mX0_draw _ 0 [some (vr 152), some (vi a1)] [] (ms false μ σ) (Co_draw a1 σ) (fun a => a = (r, τ))) _ h rfl
  unfold Co_draw
  refine Rk.sp (G_aload_n (pc := 0) 0 rfl rfl dX0_draw_0) ?_
  refine Rk.gD (pc := 1) flX0_25 cl0 rfl lb152 dX0_draw_1 (fun ht1 => ?_)
  refine Rk.sp (G_aload_n (pc := 4) 0 rfl rfl dX0_draw_4) ?_
  refine Rk.gD (pc := 5) flX0_25 cl0 rfl lb152 dX0_draw_5 (fun ht2 => ?_)
  refine Rk.gI (pc := 8) flX0_185 cl6 rfl ht2 dX0_draw_8 ?_
  refine Rk.sp (G_ldc (pc := 11) (n := 1664525) dX0_draw_11 conX0_188 (by decide)) ?_
  refine Rk.sp (G_imul (pc := 13) dX0_draw_13) ?_
  refine Rk.sp (G_ldc (pc := 14) (n := 1013904223) dX0_draw_14 conX0_189 (by decide)) ?_
  refine Rk.sp (G_iadd (pc := 16) dX0_draw_16) ?_
  refine Rk.pI (pc := 17) hok (nmW _) flX0_185 cl6 rfl rfl ht1 dX0_draw_17 (fun σ3 hσ3 => ?_)
  refine Rk.sp (G_iload_n (pc := 20) 1 rfl rfl dX0_draw_20) ?_
  refine Rk.if_le (pc := 21) (tgt := 39) dX0_draw_21 (nmI ha1) rfl (fun hc4 => ?_) (fun hc4 => ?_)
  · refine Rk.sp (G_aload_n (pc := 24) 0 rfl rfl dX0_draw_24) ?_
    refine Rk.gD (pc := 25) flX0_25 cl0 rfl lb152 dX0_draw_25 (fun ht5 => ?_)
    refine Rk.gI (pc := 28) flX0_185 cl6 rfl ht5 dX0_draw_28 ?_
    refine Rk.sp (G_bipush (pc := 31) dX0_draw_31 rfl) ?_
    refine Rk.sp (G_iushr (pc := 33) dX0_draw_33) ?_
    refine Rk.sp (G_iload_n (pc := 34) 1 rfl rfl dX0_draw_34) ?_
    refine Rk.qnz (fun hz6 => ?_)
    refine Rk.sp (G_irem (pc := 35) dX0_draw_35 (nmI (bUsh_R _ _)) (nmI ha1) hz6) ?_
    refine Rk.sp (G_goto (pc := 36) (tgt := 40) dX0_draw_36 rfl) ?_
    exact Rk.end_ (fun h => G_ireturn (pc := 40) rfl dX0_draw_40 (q_I h (tmodR (bUsh_R _ _)) hσ3))
  · refine Rk.sp (G_iconst (pc := 39) dX0_draw_39) ?_
    exact Rk.end_ (fun h => G_ireturn (pc := 40) rfl dX0_draw_40 (q_I h (inRk 0 rfl) hσ3))
theorem k_Co_readOne {κ : Kx} {μ : Sg} (a1 : Int) (σ : Sg) (ha1 : inR a1) (hok : okS σ) : CtV κ mX0_readOne 3 [vr 152, vi a1] false μ σ (Co_readOne a1 σ) := by
  intro τ h
  refine con_of (by decide) (Nat.le_of_ble_eq_true rfl) 4 ?_
  refine (?_ : Rk κ mX0_readOne _ 0 [some (vr 152), some (vi a1), none, none, none, none] [] (ms false μ σ) (Co_readOne a1 σ) (fun a => a = τ)) _ h rfl
  unfold Co_readOne
  refine Rk.sp (G_iconst (pc := 0) dX0_readOne_0) ?_
  refine Rk.sp (G_aload_n (pc := 1) 0 rfl rfl dX0_readOne_1) ?_
  refine Rk.gD (pc := 2) flX0_25 cl0 rfl lb152 dX0_readOne_2 (fun ht1 => ?_)
  refine Rk.gR (pc := 5) ((σ 152 2).toNat + 4) flX0_95 cl6 rfl ht1 dX0_readOne_5 ?_
  refine Rk.sp (G_iload_n (pc := 8) 1 rfl rfl dX0_readOne_8) ?_
  refine Rk.al (pc := 9) (LBt ht1 4 (by decide)) dX0_readOne_9 (fun hi2 => ?_)
  refine Rk.sp (G_isub (pc := 10) dX0_readOne_10) ?_
  refine Rk.ist_n (pc := 11) 2 (fun v2_3 => [some (vr 152), some (vi a1), some (vi v2_3), none, none, none]) rfl (Nat.le_of_ble_eq_true rfl) rfl dX0_readOne_11 (nmW _) (fun _ => rfl) (fun v2_3 hv2_3 => ?_)
  refine Rk.sp (G_aload_n (pc := 12) 0 rfl rfl dX0_readOne_12) ?_
  refine Rk.gR (pc := 13) 1 flX0_9 cl0 rfl lb152 dX0_readOne_13 ?_
  refine Rk.gR (pc := 16) 16 flX0_62 cl7 rfl lb1 dX0_readOne_16 ?_
  refine Rk.sp (G_iconst (pc := 19) dX0_readOne_19) ?_
  refine Rk.sp (fun k => G_aaload2 (pc := 20) 17 (lb16).1 ⟨by decide, by decide⟩ rfl dX0_readOne_20 k) ?_
  refine Rk.ast_n (pc := 21) 3 (L' := [some (vr 152), some (vi a1), some (vi v2_3), some (vr 17), none, none]) rfl (Nat.le_of_ble_eq_true rfl) rfl dX0_readOne_21 rfl ?_
  refine Rk.sp (G_aload_n (pc := 22) 0 rfl rfl dX0_readOne_22) ?_
  refine Rk.gD (pc := 23) flX0_25 cl0 rfl lb152 dX0_readOne_23 (fun ht4 => ?_)
  refine Rk.gR (pc := 26) ((σ 152 2).toNat + 6) flX0_148 cl6 rfl ht4 dX0_readOne_26 ?_
  refine Rk.sp (G_iload_n (pc := 29) 1 rfl rfl dX0_readOne_29) ?_
  refine Rk.sp (G_aload_n (pc := 30) 0 rfl rfl dX0_readOne_30) ?_
  refine Rk.gD (pc := 31) flX0_25 cl0 rfl lb152 dX0_readOne_31 (fun ht5 => ?_)
  refine Rk.gI (pc := 34) flX0_37 cl6 rfl ht5 dX0_readOne_34 ?_
  refine Rk.as (pc := 37) hok (nmI (hok _ _)) (LBt ht4 6 (by decide)) dX0_readOne_37 (fun hi7 σ6 hσ6 => ?_)
  refine Rk.sp (G_aload_n (pc := 38) 0 rfl rfl dX0_readOne_38) ?_
  refine Rk.gD (pc := 39) flX0_25 cl0 rfl lb152 dX0_readOne_39 (fun ht8 => ?_)
  refine Rk.sp (G_dup (pc := 42) dX0_readOne_42 (fun _ h => by cases h)) ?_
  refine Rk.gI (pc := 43) flX0_55 cl6 rfl ht8 dX0_readOne_43 ?_
  refine Rk.sp (G_iconst (pc := 46) dX0_readOne_46) ?_
  refine Rk.sp (G_isub (pc := 47) dX0_readOne_47) ?_
  refine Rk.pI (pc := 48) hσ6 (nmW _) flX0_55 cl6 rfl rfl ht8 dX0_readOne_48 (fun σ9 hσ9 => ?_)
  refine Rk.sp (G_aload_n (pc := 51) 0 rfl rfl dX0_readOne_51) ?_
  refine Rk.sp (G_iconst (pc := 52) dX0_readOne_52) ?_
  refine Rk.sp (G_iload_n (pc := 53) 2 rfl rfl dX0_readOne_53) ?_
  refine Rk.sp (G_iload_n (pc := 54) 1 rfl rfl dX0_readOne_54) ?_
  refine Rk.cV (pc := 55) (Cl.v [vi 1, vi v2_3, vi a1] [] dX0_readOne_55 ckX0_114 lb152 rfl rfl rfl (Nat.le_of_ble_eq_true rfl) (Nat.le_of_ble_eq_true rfl)) (k_Co_note 1 v2_3 a1 σ9 (inRk 1 rfl) hv2_3 ha1 hσ9) (fun σ10 hσ10 => ?_)
  refine Rk.sp (G_aload_n (pc := 58) 0 rfl rfl dX0_readOne_58) ?_
  refine Rk.gR (pc := 59) 149 flX0_15 cl0 rfl lb152 dX0_readOne_59 ?_
  refine Rk.sp (G_aload_n (pc := 62) 0 rfl rfl dX0_readOne_62) ?_
  refine Rk.gR (pc := 63) 1 flX0_9 cl0 rfl lb152 dX0_readOne_63 ?_
  refine Rk.sp (G_aload_n (pc := 66) 0 rfl rfl dX0_readOne_66) ?_
  refine Rk.gD (pc := 67) flX0_25 cl0 rfl lb152 dX0_readOne_67 (fun ht11 => ?_)
  refine Rk.sp (G_iload_n (pc := 70) 2 rfl rfl dX0_readOne_70) ?_
  refine Rk.cV (pc := 71) (Cl.v [vr 1, vr (σ10 152 2).toNat, vi v2_3] [] dX0_readOne_71 ckX0_151 lb149 rfl rfl rfl (Nat.le_of_ble_eq_true rfl) (Nat.le_of_ble_eq_true rfl)) (k_Ju_sit 1 (σ10 152 2).toNat v2_3 σ10 lb1 ht11 hv2_3 hσ10) (fun σ12 hσ12 => ?_)
  refine Rk.sp (G_aload_n (pc := 74) 0 rfl rfl dX0_readOne_74) ?_
  refine Rk.gR (pc := 75) 149 flX0_15 cl0 rfl lb152 dX0_readOne_75 ?_
  refine Rk.sp (G_aload_n (pc := 78) 0 rfl rfl dX0_readOne_78) ?_
  refine Rk.gD (pc := 79) flX0_25 cl0 rfl lb152 dX0_readOne_79 (fun ht13 => ?_)
  refine Rk.gR (pc := 82) ((σ12 152 2).toNat + 7) flX0_157 cl6 rfl ht13 dX0_readOne_82 ?_
  refine Rk.sp (G_iload_n (pc := 85) 1 rfl rfl dX0_readOne_85) ?_
  refine Rk.al (pc := 86) (LBt ht13 7 (by decide)) dX0_readOne_86 (fun hi14 => ?_)
  refine Rk.sp (G_aload_n (pc := 87) 0 rfl rfl dX0_readOne_87) ?_
  refine Rk.gD (pc := 88) flX0_25 cl0 rfl lb152 dX0_readOne_88 (fun ht15 => ?_)
  refine Rk.gR (pc := 91) ((σ12 152 2).toNat + 8) flX0_160 cl6 rfl ht15 dX0_readOne_91 ?_
  refine Rk.sp (G_iload_n (pc := 94) 1 rfl rfl dX0_readOne_94) ?_
  refine Rk.al (pc := 95) (LBt ht15 8 (by decide)) dX0_readOne_95 (fun hi16 => ?_)
  refine Rk.sp (G_aload_n (pc := 96) 0 rfl rfl dX0_readOne_96) ?_
  refine Rk.gD (pc := 97) flX0_25 cl0 rfl lb152 dX0_readOne_97 (fun ht17 => ?_)
  refine Rk.gR (pc := 100) ((σ12 152 2).toNat + 9) flX0_163 cl6 rfl ht17 dX0_readOne_100 ?_
  refine Rk.sp (G_iload_n (pc := 103) 1 rfl rfl dX0_readOne_103) ?_
  refine Rk.al (pc := 104) (LBt ht17 9 (by decide)) dX0_readOne_104 (fun hi18 => ?_)
  refine Rk.cV (pc := 105) (Cl.v [vi (σ12 ((σ12 152 2).toNat + 7) (a1).toNat), vi (σ12 ((σ12 152 2).toNat + 8) (a1).toNat), vi (σ12 ((σ12 152 2).toNat + 9) (a1).toNat)] [] dX0_readOne_105 ckX0_166 lb149 rfl rfl rfl (Nat.le_of_ble_eq_true rfl) (Nat.le_of_ble_eq_true rfl)) (k_Ju_lay (σ12 ((σ12 152 2).toNat + 7) (a1).toNat) (σ12 ((σ12 152 2).toNat + 8) (a1).toNat) (σ12 ((σ12 152 2).toNat + 9) (a1).toNat) σ12 (hσ12 _ _) (hσ12 _ _) (hσ12 _ _) hσ12) (fun σ19 hσ19 => ?_)
  refine Rk.sp (G_aload_n (pc := 108) 0 rfl rfl dX0_readOne_108) ?_
  refine Rk.gD (pc := 109) flX0_25 cl0 rfl lb152 dX0_readOne_109 (fun ht20 => ?_)
  refine Rk.gR (pc := 112) ((σ19 152 2).toNat + 1) flX0_107 cl6 rfl ht20 dX0_readOne_112 ?_
  refine Rk.sp (G_iload_n (pc := 115) 2 rfl rfl dX0_readOne_115) ?_
  refine Rk.al (pc := 116) (LBt2 ht20 1 (by decide)) dX0_readOne_116 (fun hi21 => ?_)
  refine Rk.sp (G_aload_n (pc := 117) 0 rfl rfl dX0_readOne_117) ?_
  refine Rk.gR (pc := 118) 149 flX0_15 cl0 rfl lb152 dX0_readOne_118 ?_
  refine Rk.sp (G_aload_n (pc := 121) 3 rfl rfl dX0_readOne_121) ?_
  refine Rk.sp (G_iconst (pc := 122) dX0_readOne_122) ?_
  refine Rk.cI (pc := 123) (Cl.v [vr 17, vi 3] [vi (σ19 ((σ19 152 2).toNat + 1) (v2_3).toNat)] dX0_readOne_123 ckX0_169 lb149 rfl rfl rfl (Nat.le_of_ble_eq_true rfl) (Nat.le_of_ble_eq_true rfl)) (k_Ju_tells 17 3 σ19 lb17 (inRk 3 rfl) hσ19) (fun r22 σ23 hr22 hσ23 => ?_)
  refine Rk.sp (G_iadd (pc := 126) dX0_readOne_126) ?_
  refine Rk.ist_w (pc := 127) 4 (fun v4_24 => [some (vr 152), some (vi a1), some (vi v2_3), some (vr 17), some (vi v4_24), none]) (Nat.le_of_ble_eq_true rfl) rfl dX0_readOne_127 (nmW _) (fun _ => rfl) (fun v4_24 hv4_24 => ?_)
  refine Rk.sp (G_aload_n (pc := 129) 0 rfl rfl dX0_readOne_129) ?_
  refine Rk.gD (pc := 130) flX0_25 cl0 rfl lb152 dX0_readOne_130 (fun ht25 => ?_)
  refine Rk.gR (pc := 133) ((σ23 152 2).toNat + 1) flX0_107 cl6 rfl ht25 dX0_readOne_133 ?_
  refine Rk.sp (G_iload_n (pc := 136) 2 rfl rfl dX0_readOne_136) ?_
  refine Rk.sp (G_iconst (pc := 137) dX0_readOne_137) ?_
  refine Rk.sp (G_bipush (pc := 138) dX0_readOne_138 rfl) ?_
  refine Rk.sp (G_iload_w (pc := 140) 4 rfl dX0_readOne_140) ?_
  refine Rk.mmin (pc := 142) cmmX0_46 (inRk 99 rfl) hv4_24 (Nat.le_of_ble_eq_true rfl) (Nat.le_of_ble_eq_true rfl) dX0_readOne_142 (fun r26 hr26 => ?_)
  refine Rk.mmax (pc := 145) cmmX0_125 (inRk 0 rfl) hr26 (Nat.le_of_ble_eq_true rfl) (Nat.le_of_ble_eq_true rfl) dX0_readOne_145 (fun r27 hr27 => ?_)
  refine Rk.as (pc := 148) hσ23 (nmI hr27) (LBt2 ht25 1 (by decide)) dX0_readOne_148 (fun hi29 σ28 hσ28 => ?_)
  refine Rk.sp (G_aload_n (pc := 149) 0 rfl rfl dX0_readOne_149) ?_
  refine Rk.gR (pc := 150) 149 flX0_15 cl0 rfl lb152 dX0_readOne_150 ?_
  refine Rk.gR (pc := 153) 150 flX0_173 cl2 rfl lb149 dX0_readOne_153 ?_
  refine Rk.sp (G_iconst (pc := 156) dX0_readOne_156) ?_
  refine Rk.sp (G_aload_n (pc := 157) 0 rfl rfl dX0_readOne_157) ?_
  refine Rk.gD (pc := 158) flX0_25 cl0 rfl lb152 dX0_readOne_158 (fun ht30 => ?_)
  refine Rk.gR (pc := 161) ((σ28 152 2).toNat + 1) flX0_107 cl6 rfl ht30 dX0_readOne_161 ?_
  refine Rk.sp (G_iload_n (pc := 164) 2 rfl rfl dX0_readOne_164) ?_
  refine Rk.al (pc := 165) (LBt2 ht30 1 (by decide)) dX0_readOne_165 (fun hi31 => ?_)
  refine Rk.asc (pc := 166) hσ28 (nmI (hσ28 _ _)) 1 rfl (Nat.le_of_ble_eq_true rfl) lb150 dX0_readOne_166 (fun σ32 hσ32 => ?_)
  refine Rk.sp (G_aload_n (pc := 167) 0 rfl rfl dX0_readOne_167) ?_
  refine Rk.gR (pc := 168) 149 flX0_15 cl0 rfl lb152 dX0_readOne_168 ?_
  refine Rk.sp (G_aload_n (pc := 171) 3 rfl rfl dX0_readOne_171) ?_
  refine Rk.sp (G_iconst (pc := 172) dX0_readOne_172) ?_
  refine Rk.cI (pc := 173) (Cl.v [vr 17, vi 4] [] dX0_readOne_173 ckX0_169 lb149 rfl rfl rfl (Nat.le_of_ble_eq_true rfl) (Nat.le_of_ble_eq_true rfl)) (k_Ju_tells 17 4 σ32 lb17 (inRk 4 rfl) hσ32) (fun r33 σ34 hr33 hσ34 => ?_)
  refine Rk.isa_w (pc := 176) 5 (L' := [some (vr 152), some (vi a1), some (vi v2_3), some (vr 17), some (vi v4_24), some (vi r33)]) (Nat.le_of_ble_eq_true rfl) rfl dX0_readOne_176 rfl ?_
  refine Rk.sp (G_aload_n (pc := 178) 0 rfl rfl dX0_readOne_178) ?_
  refine Rk.gI (pc := 179) flX0_30 cl0 rfl lb152 dX0_readOne_179 ?_
  refine Rk.if_eq (pc := 182) (tgt := 196) dX0_readOne_182 (nmI (hσ34 _ _)) rfl (fun hc35 => ?_) (fun hc35 => ?_)
  · refine Rk.sp (G_aload_n (pc := 196) 0 rfl rfl dX0_readOne_196) ?_
    refine Rk.sp (G_sipush (pc := 197) dX0_readOne_197 rfl) ?_
    refine Rk.cI (pc := 200) (Cl.v [vi 1000] [] dX0_readOne_200 ckX0_176 lb152 rfl rfl rfl (Nat.le_of_ble_eq_true rfl) (Nat.le_of_ble_eq_true rfl)) (k_Co_draw 1000 σ34 (inRk 1000 rfl) hσ34) (fun r36 σ37 hr36 hσ37 => ?_)
    refine Rk.sp (G_iload_w (pc := 203) 5 rfl dX0_readOne_203) ?_
    refine Rk.icmp_ge (pc := 205) (tgt := 262) dX0_readOne_205 (nmI hr36) (nmI hr33) rfl (fun hc38 => ?_) (fun hc38 => ?_)
    · refine Rk.sp (G_aload_n (pc := 208) 0 rfl rfl dX0_readOne_208) ?_
      refine Rk.gD (pc := 209) flX0_25 cl0 rfl lb152 dX0_readOne_209 (fun ht39 => ?_)
      refine Rk.gR (pc := 212) ((σ37 152 2).toNat + 12) flX0_80 cl6 rfl ht39 dX0_readOne_212 ?_
      refine Rk.sp (G_iload_n (pc := 215) 1 rfl rfl dX0_readOne_215) ?_
      refine Rk.sp (G_aload_n (pc := 216) 0 rfl rfl dX0_readOne_216) ?_
      refine Rk.gD (pc := 217) flX0_25 cl0 rfl lb152 dX0_readOne_217 (fun ht40 => ?_)
      refine Rk.gI (pc := 220) flX0_37 cl6 rfl ht40 dX0_readOne_220 ?_
      refine Rk.sp (G_iload_n (pc := 223) 2 rfl rfl dX0_readOne_223) ?_
      refine Rk.sp (G_aload_n (pc := 224) 0 rfl rfl dX0_readOne_224) ?_
      refine Rk.gI (pc := 225) flX0_26 cl0 rfl lb152 dX0_readOne_225 ?_
      refine Rk.join (P := fun p => inR p.1 ∧ okS p.2) (pcj := 247) (fun p => [some (vr 152), none, none, none, none, none]) (fun p => [vi p.1, vi (σ37 (σ37 152 2).toNat 0), vi a1, vr ((σ37 152 2).toNat + 12)]) (fun p => (ms false μ p.2)) ?_ (fun p hp => ?_)
      · refine Rk.icmp_ne (pc := 228) (tgt := 238) dX0_readOne_228 (nmI hv2_3) (nmI (hσ37 _ _)) rfl (fun hc41 => ?_) (fun hc41 => ?_)
        · refine Rk.sp (G_aload_n (pc := 231) 0 rfl rfl dX0_readOne_231) ?_
          refine Rk.gI (pc := 232) flX0_34 cl0 rfl lb152 dX0_readOne_232 ?_
          refine Rk.sp (G_goto (pc := 235) (tgt := 247) dX0_readOne_235 rfl) ?_
          refine Rk.fg [true, false, false, false, false, false] (L' := [some (vr 152), none, none, none, none, none]) rfl ?_
          exact Rk.end_ (fun h => h ⟨(hσ37 _ _), hσ37⟩)
        · refine Rk.sp (G_aload_n (pc := 238) 0 rfl rfl dX0_readOne_238) ?_
          refine Rk.gR (pc := 239) 149 flX0_15 cl0 rfl lb152 dX0_readOne_239 ?_
          refine Rk.sp (G_aload_n (pc := 242) 3 rfl rfl dX0_readOne_242) ?_
          refine Rk.sp (G_iconst (pc := 243) dX0_readOne_243) ?_
          refine Rk.cI (pc := 244) (Cl.v [vr 17, vi 0] [vi (σ37 (σ37 152 2).toNat 0), vi a1, vr ((σ37 152 2).toNat + 12)] dX0_readOne_244 ckX0_169 lb149 rfl rfl rfl (Nat.le_of_ble_eq_true rfl) (Nat.le_of_ble_eq_true rfl)) (k_Ju_tells 17 0 σ37 lb17 (inRk 0 rfl) hσ37) (fun r44 σ45 hr44 hσ45 => ?_)
          refine Rk.fg [true, false, false, false, false, false] (L' := [some (vr 152), none, none, none, none, none]) rfl ?_
          exact Rk.end_ (fun h => h ⟨hr44, hσ45⟩)
      · obtain ⟨t42, σ43⟩ := p
        obtain ⟨ht42, hσ43⟩ := hp
        try dsimp only
        refine Rk.sp (G_iadd (pc := 247) dX0_readOne_247) ?_
        refine Rk.as (pc := 248) hσ43 (nmW _) (LBt ht39 12 (by decide)) dX0_readOne_248 (fun hi47 σ46 hσ46 => ?_)
        refine Rk.sp (G_aload_n (pc := 249) 0 rfl rfl dX0_readOne_249) ?_
        refine Rk.gD (pc := 250) flX0_25 cl0 rfl lb152 dX0_readOne_250 (fun ht48 => ?_)
        refine Rk.sp (G_dup (pc := 253) dX0_readOne_253 (fun _ h => by cases h)) ?_
        refine Rk.gI (pc := 254) flX0_77 cl6 rfl ht48 dX0_readOne_254 ?_
        refine Rk.sp (G_iconst (pc := 257) dX0_readOne_257) ?_
        refine Rk.sp (G_iadd (pc := 258) dX0_readOne_258) ?_
        refine Rk.pI (pc := 259) hσ46 (nmW _) flX0_77 cl6 rfl rfl ht48 dX0_readOne_259 (fun σ49 hσ49 => ?_)
        exact Rk.end_ (fun h => G_return (pc := 262) rfl dX0_readOne_262 (q_V h hσ49))
    · exact Rk.end_ (fun h => G_return (pc := 262) rfl dX0_readOne_262 (q_V h hσ37))
  · refine Rk.sp (G_iload_w (pc := 185) 5 rfl dX0_readOne_185) ?_
    refine Rk.sp (G_sipush (pc := 187) dX0_readOne_187 rfl) ?_
    refine Rk.icmp_lt (pc := 190) (tgt := 262) dX0_readOne_190 (nmI hr33) (nmI (inRk 500 rfl)) rfl (fun hc50 => ?_) (fun hc50 => ?_)
    · exact Rk.end_ (fun h => G_return (pc := 262) rfl dX0_readOne_262 (q_V h hσ34))
    · refine Rk.sp (G_goto (pc := 193) (tgt := 208) dX0_readOne_193 rfl) ?_
      refine Rk.sp (G_aload_n (pc := 208) 0 rfl rfl dX0_readOne_208) ?_
      refine Rk.gD (pc := 209) flX0_25 cl0 rfl lb152 dX0_readOne_209 (fun ht51 => ?_)
      refine Rk.gR (pc := 212) ((σ34 152 2).toNat + 12) flX0_80 cl6 rfl ht51 dX0_readOne_212 ?_
      refine Rk.sp (G_iload_n (pc := 215) 1 rfl rfl dX0_readOne_215) ?_
      refine Rk.sp (G_aload_n (pc := 216) 0 rfl rfl dX0_readOne_216) ?_
      refine Rk.gD (pc := 217) flX0_25 cl0 rfl lb152 dX0_readOne_217 (fun ht52 => ?_)
      refine Rk.gI (pc := 220) flX0_37 cl6 rfl ht52 dX0_readOne_220 ?_
      refine Rk.sp (G_iload_n (pc := 223) 2 rfl rfl dX0_readOne_223) ?_
      refine Rk.sp (G_aload_n (pc := 224) 0 rfl rfl dX0_readOne_224) ?_
      refine Rk.gI (pc := 225) flX0_26 cl0 rfl lb152 dX0_readOne_225 ?_
      refine Rk.join (P := fun p => inR p.1 ∧ okS p.2) (pcj := 247) (fun p => [some (vr 152), none, none, none, none, none]) (fun p => [vi p.1, vi (σ34 (σ34 152 2).toNat 0), vi a1, vr ((σ34 152 2).toNat + 12)]) (fun p => (ms false μ p.2)) ?_ (fun p hp => ?_)
      · refine Rk.icmp_ne (pc := 228) (tgt := 238) dX0_readOne_228 (nmI hv2_3) (nmI (hσ34 _ _)) rfl (fun hc53 => ?_) (fun hc53 => ?_)
        · refine Rk.sp (G_aload_n (pc := 231) 0 rfl rfl dX0_readOne_231) ?_
          refine Rk.gI (pc := 232) flX0_34 cl0 rfl lb152 dX0_readOne_232 ?_
          refine Rk.sp (G_goto (pc := 235) (tgt := 247) dX0_readOne_235 rfl) ?_
          refine Rk.fg [true, false, false, false, false, false] (L' := [some (vr 152), none, none, none, none, none]) rfl ?_
          exact Rk.end_ (fun h => h ⟨(hσ34 _ _), hσ34⟩)
        · refine Rk.sp (G_aload_n (pc := 238) 0 rfl rfl dX0_readOne_238) ?_
          refine Rk.gR (pc := 239) 149 flX0_15 cl0 rfl lb152 dX0_readOne_239 ?_
          refine Rk.sp (G_aload_n (pc := 242) 3 rfl rfl dX0_readOne_242) ?_
          refine Rk.sp (G_iconst (pc := 243) dX0_readOne_243) ?_
          refine Rk.cI (pc := 244) (Cl.v [vr 17, vi 0] [vi (σ34 (σ34 152 2).toNat 0), vi a1, vr ((σ34 152 2).toNat + 12)] dX0_readOne_244 ckX0_169 lb149 rfl rfl rfl (Nat.le_of_ble_eq_true rfl) (Nat.le_of_ble_eq_true rfl)) (k_Ju_tells 17 0 σ34 lb17 (inRk 0 rfl) hσ34) (fun r56 σ57 hr56 hσ57 => ?_)
          refine Rk.fg [true, false, false, false, false, false] (L' := [some (vr 152), none, none, none, none, none]) rfl ?_
          exact Rk.end_ (fun h => h ⟨hr56, hσ57⟩)
      · obtain ⟨t54, σ55⟩ := p
        obtain ⟨ht54, hσ55⟩ := hp
        try dsimp only
        refine Rk.sp (G_iadd (pc := 247) dX0_readOne_247) ?_
        refine Rk.as (pc := 248) hσ55 (nmW _) (LBt ht51 12 (by decide)) dX0_readOne_248 (fun hi59 σ58 hσ58 => ?_)
        refine Rk.sp (G_aload_n (pc := 249) 0 rfl rfl dX0_readOne_249) ?_
        refine Rk.gD (pc := 250) flX0_25 cl0 rfl lb152 dX0_readOne_250 (fun ht60 => ?_)
        refine Rk.sp (G_dup (pc := 253) dX0_readOne_253 (fun _ h => by cases h)) ?_
        refine Rk.gI (pc := 254) flX0_77 cl6 rfl ht60 dX0_readOne_254 ?_
        refine Rk.sp (G_iconst (pc := 257) dX0_readOne_257) ?_
        refine Rk.sp (G_iadd (pc := 258) dX0_readOne_258) ?_
        refine Rk.pI (pc := 259) hσ58 (nmW _) flX0_77 cl6 rfl rfl ht60 dX0_readOne_259 (fun σ61 hσ61 => ?_)
        exact Rk.end_ (fun h => G_return (pc := 262) rfl dX0_readOne_262 (q_V h hσ61))
theorem k_Co_readMessages {κ : Kx} {μ : Sg} (σ : Sg) (hok : okS σ) : CtV κ mX0_readMessages 4 [vr 152] false μ σ (Co_readMessages σ) := by
  intro τ h
  refine con_of (by decide) (Nat.le_of_ble_eq_true rfl) 4 ?_
  refine (?_ : Rk κ mX0_readMessages _ 0 [some (vr 152), none, none, none, none] [] (ms false μ σ) (Co_readMessages σ) (fun a => a = τ)) _ h rfl
  unfold Co_readMessages
  refine Rk.sp (G_aload_n (pc := 0) 0 rfl rfl dX0_readMessages_0) ?_
  refine Rk.gR (pc := 1) 1 flX0_9 cl0 rfl lb152 dX0_readMessages_1 ?_
  refine Rk.sp (G_iconst (pc := 4) dX0_readMessages_4) ?_
  refine Rk.sp (G_aload_n (pc := 5) 0 rfl rfl dX0_readMessages_5) ?_
  refine Rk.gD (pc := 6) flX0_25 cl0 rfl lb152 dX0_readMessages_6 (fun ht1 => ?_)
  refine Rk.cRI (pc := 9) (Cl.v [] [vi 0, vr 1] dX0_readMessages_9 ckX0_84 ht1 rfl rfl rfl (Nat.le_of_ble_eq_true rfl) (Nat.le_of_ble_eq_true rfl)) (k_Ta_hour (σ 152 2).toNat σ ht1 hok) (fun r2 hr2 => ?_)
  refine Rk.cRZ (pc := 12) (Cl.v [vi 0, vi r2] [] dX0_readMessages_12 ckX0_87 lb1 rfl rfl rfl (Nat.le_of_ble_eq_true rfl) (Nat.le_of_ble_eq_true rfl)) (k_Wo_reads 1 0 r2 σ lb1 (inRk 0 rfl) hr2 hok) (fun r3 hr3 => ?_)
  refine Rk.isa_n (pc := 15) 1 (L' := [some (vr 152), some (vi r3), none, none, none]) rfl (Nat.le_of_ble_eq_true rfl) rfl dX0_readMessages_15 rfl ?_
  refine Rk.sp (G_aload_n (pc := 16) 0 rfl rfl dX0_readMessages_16) ?_
  refine Rk.gR (pc := 17) 1 flX0_9 cl0 rfl lb152 dX0_readMessages_17 ?_
  refine Rk.sp (G_iconst (pc := 20) dX0_readMessages_20) ?_
  refine Rk.sp (G_aload_n (pc := 21) 0 rfl rfl dX0_readMessages_21) ?_
  refine Rk.gD (pc := 22) flX0_25 cl0 rfl lb152 dX0_readMessages_22 (fun ht4 => ?_)
  refine Rk.cRI (pc := 25) (Cl.v [] [vi 1, vr 1] dX0_readMessages_25 ckX0_84 ht4 rfl rfl rfl (Nat.le_of_ble_eq_true rfl) (Nat.le_of_ble_eq_true rfl)) (k_Ta_hour (σ 152 2).toNat σ ht4 hok) (fun r5 hr5 => ?_)
  refine Rk.cRZ (pc := 28) (Cl.v [vi 1, vi r5] [] dX0_readMessages_28 ckX0_87 lb1 rfl rfl rfl (Nat.le_of_ble_eq_true rfl) (Nat.le_of_ble_eq_true rfl)) (k_Wo_reads 1 1 r5 σ lb1 (inRk 1 rfl) hr5 hok) (fun r6 hr6 => ?_)
  refine Rk.isa_n (pc := 31) 2 (L' := [some (vr 152), some (vi r3), some (vi r6), none, none]) rfl (Nat.le_of_ble_eq_true rfl) rfl dX0_readMessages_31 rfl ?_
  refine Rk.sp (G_iconst (pc := 32) dX0_readMessages_32) ?_
  refine Rk.isa_n (pc := 33) 3 (L' := [some (vr 152), some (vi r3), some (vi r6), some (vi 0), none]) rfl (Nat.le_of_ble_eq_true rfl) rfl dX0_readMessages_33 rfl ?_
  refine Rk.loop (pc := 34) (B := (fun p => Co_readMessages_34_b r3 r6 p.1 p.2)) (fun p => inR p.1 ∧ okS p.2) (fun p => [some (vr 152), some (vi r3), some (vi r6), some (vi p.1), none]) (fun p => (ms false μ p.2)) (fun p hp => ?_) (0, σ) ⟨(inRk 0 rfl), hok⟩
  obtain ⟨v3_7, σ8⟩ := p
  obtain ⟨hv3_7, hσ8⟩ := hp
  try dsimp only
  unfold Co_readMessages_34_b
  refine Rk.sp (G_iload_n (pc := 34) 3 rfl rfl dX0_readMessages_34) ?_
  refine Rk.sp (G_aload_n (pc := 35) 0 rfl rfl dX0_readMessages_35) ?_
  refine Rk.gD (pc := 36) flX0_25 cl0 rfl lb152 dX0_readMessages_36 (fun ht9 => ?_)
  refine Rk.gI (pc := 39) flX0_74 cl6 rfl ht9 dX0_readMessages_39 ?_
  refine Rk.icmp_ge (pc := 42) (tgt := 119) dX0_readMessages_42 (nmI hv3_7) (nmI (hσ8 _ _)) rfl (fun hc10 => ?_) (fun hc10 => ?_)
  · refine Rk.sp (G_iload_n (pc := 45) 1 rfl rfl dX0_readMessages_45) ?_
    refine Rk.sel (A := 53) (B := 119) (st' := []) ?_ ?_ ?_
    · refine Rk.if_ne (pc := 46) (tgt := 53) dX0_readMessages_46 (nmI (inZ.R hr3)) rfl (fun hc11 => ?_) (fun hc11 => ?_)
      · refine Rk.sp (G_iload_n (pc := 49) 2 rfl rfl dX0_readMessages_49) ?_
        refine Rk.if_eq (pc := 50) (tgt := 119) dX0_readMessages_50 (nmI (inZ.R hr6)) rfl (fun hc12 => ?_) (fun hc12 => ?_)
        · exact Rk.end_ (fun h => h inZ0)
        · exact Rk.end_ (fun h => h inZ1)
      · exact Rk.end_ (fun h => h inZ1)
    · exact Rk.end_ (fun h => G_return (pc := 119) rfl dX0_readMessages_119 (q_V h hσ8))
    · refine Rk.sp (G_aload_n (pc := 53) 0 rfl rfl dX0_readMessages_53) ?_
      refine Rk.gD (pc := 54) flX0_25 cl0 rfl lb152 dX0_readMessages_54 (fun ht13 => ?_)
      refine Rk.gR (pc := 57) ((σ8 152 2).toNat + 4) flX0_95 cl6 rfl ht13 dX0_readMessages_57 ?_
      refine Rk.sp (G_iload_n (pc := 60) 3 rfl rfl dX0_readMessages_60) ?_
      refine Rk.al (pc := 61) (LBt ht13 4 (by decide)) dX0_readMessages_61 (fun hi14 => ?_)
      refine Rk.sp (G_iconst (pc := 62) dX0_readMessages_62) ?_
      refine Rk.join (P := fun p => inR p) (pcj := 71) (fun p => [some (vr 152), some (vi r3), some (vi r6), some (vi v3_7), none]) (fun p => [vi p]) (fun p => (ms false μ σ8)) ?_ (fun p hp => ?_)
      · refine Rk.icmp_ne (pc := 63) (tgt := 70) dX0_readMessages_63 (nmI (hσ8 _ _)) (nmI (inRk 1 rfl)) rfl (fun hc15 => ?_) (fun hc15 => ?_)
        · refine Rk.sp (G_iload_n (pc := 66) 1 rfl rfl dX0_readMessages_66) ?_
          refine Rk.sp (G_goto (pc := 67) (tgt := 71) dX0_readMessages_67 rfl) ?_
          exact Rk.end_ (fun h => h (inZ.R hr3))
        · refine Rk.sp (G_iload_n (pc := 70) 2 rfl rfl dX0_readMessages_70) ?_
          exact Rk.end_ (fun h => h (inZ.R hr6))
      · revert hp; revert p; intro t16 ht16
        try dsimp only
        refine Rk.isa_w (pc := 71) 4 (L' := [some (vr 152), some (vi r3), some (vi r6), some (vi v3_7), some (vi t16)]) (Nat.le_of_ble_eq_true rfl) rfl dX0_readMessages_71 rfl ?_
        refine Rk.sp (G_iload_w (pc := 73) 4 rfl dX0_readMessages_73) ?_
        refine Rk.if_eq (pc := 75) (tgt := 113) dX0_readMessages_75 (nmI ht16) rfl (fun hc17 => ?_) (fun hc17 => ?_)
        · refine Rk.inc (pc := 113) 3 (fun v3_18 => [some (vr 152), some (vi r3), some (vi r6), some (vi v3_18), some (vi t16)]) rfl (Nat.le_of_ble_eq_true rfl) rfl dX0_readMessages_113 (fun _ => rfl) (fun v3_18 hv3_18 => ?_)
          refine Rk.sp (G_goto (pc := 116) (tgt := 34) dX0_readMessages_116 rfl) ?_
          refine Rk.fg [true, true, true, true, false] (L' := [some (vr 152), some (vi r3), some (vi r6), some (vi v3_18), none]) rfl ?_
          exact Rk.end_ (fun h => h ⟨hv3_18, hσ8⟩)
        · refine Rk.sp (G_aload_n (pc := 78) 0 rfl rfl dX0_readMessages_78) ?_
          refine Rk.gD (pc := 79) flX0_25 cl0 rfl lb152 dX0_readMessages_79 (fun ht19 => ?_)
          refine Rk.sp (G_iload_n (pc := 82) 3 rfl rfl dX0_readMessages_82) ?_
          refine Rk.cRZ (pc := 83) (Cl.v [vi v3_7] [] dX0_readMessages_83 ckX0_91 ht19 rfl rfl rfl (Nat.le_of_ble_eq_true rfl) (Nat.le_of_ble_eq_true rfl)) (k_Ta_isOpen (σ8 152 2).toNat v3_7 σ8 ht19 hv3_7 hσ8) (fun r20 hr20 => ?_)
          refine Rk.if_eq (pc := 86) (tgt := 113) dX0_readMessages_86 (nmI (inZ.R hr20)) rfl (fun hc21 => ?_) (fun hc21 => ?_)
          · refine Rk.inc (pc := 113) 3 (fun v3_22 => [some (vr 152), some (vi r3), some (vi r6), some (vi v3_22), some (vi t16)]) rfl (Nat.le_of_ble_eq_true rfl) rfl dX0_readMessages_113 (fun _ => rfl) (fun v3_22 hv3_22 => ?_)
            refine Rk.sp (G_goto (pc := 116) (tgt := 34) dX0_readMessages_116 rfl) ?_
            refine Rk.fg [true, true, true, true, false] (L' := [some (vr 152), some (vi r3), some (vi r6), some (vi v3_22), none]) rfl ?_
            exact Rk.end_ (fun h => h ⟨hv3_22, hσ8⟩)
          · refine Rk.sp (G_aload_n (pc := 89) 0 rfl rfl dX0_readMessages_89) ?_
            refine Rk.gD (pc := 90) flX0_25 cl0 rfl lb152 dX0_readMessages_90 (fun ht23 => ?_)
            refine Rk.gR (pc := 93) ((σ8 152 2).toNat + 5) flX0_142 cl6 rfl ht23 dX0_readMessages_93 ?_
            refine Rk.sp (G_iload_n (pc := 96) 3 rfl rfl dX0_readMessages_96) ?_
            refine Rk.al (pc := 97) (LBt ht23 5 (by decide)) dX0_readMessages_97 (fun hi24 => ?_)
            refine Rk.sp (G_aload_n (pc := 98) 0 rfl rfl dX0_readMessages_98) ?_
            refine Rk.gD (pc := 99) flX0_25 cl0 rfl lb152 dX0_readMessages_99 (fun ht25 => ?_)
            refine Rk.gI (pc := 102) flX0_37 cl6 rfl ht25 dX0_readMessages_102 ?_
            refine Rk.icmp_ge (pc := 105) (tgt := 113) dX0_readMessages_105 (nmI (hσ8 _ _)) (nmI (hσ8 _ _)) rfl (fun hc26 => ?_) (fun hc26 => ?_)
            · refine Rk.sp (G_aload_n (pc := 108) 0 rfl rfl dX0_readMessages_108) ?_
              refine Rk.sp (G_iload_n (pc := 109) 3 rfl rfl dX0_readMessages_109) ?_
              refine Rk.cV (pc := 110) (Cl.v [vi v3_7] [] dX0_readMessages_110 ckX0_145 lb152 rfl rfl rfl (Nat.le_of_ble_eq_true rfl) (Nat.le_of_ble_eq_true rfl)) (k_Co_readOne v3_7 σ8 hv3_7 hσ8) (fun σ27 hσ27 => ?_)
              refine Rk.inc (pc := 113) 3 (fun v3_28 => [some (vr 152), some (vi r3), some (vi r6), some (vi v3_28), some (vi t16)]) rfl (Nat.le_of_ble_eq_true rfl) rfl dX0_readMessages_113 (fun _ => rfl) (fun v3_28 hv3_28 => ?_)
              refine Rk.sp (G_goto (pc := 116) (tgt := 34) dX0_readMessages_116 rfl) ?_
              refine Rk.fg [true, true, true, true, false] (L' := [some (vr 152), some (vi r3), some (vi r6), some (vi v3_28), none]) rfl ?_
              exact Rk.end_ (fun h => h ⟨hv3_28, hσ27⟩)
            · refine Rk.inc (pc := 113) 3 (fun v3_29 => [some (vr 152), some (vi r3), some (vi r6), some (vi v3_29), some (vi t16)]) rfl (Nat.le_of_ble_eq_true rfl) rfl dX0_readMessages_113 (fun _ => rfl) (fun v3_29 hv3_29 => ?_)
              refine Rk.sp (G_goto (pc := 116) (tgt := 34) dX0_readMessages_116 rfl) ?_
              refine Rk.fg [true, true, true, true, false] (L' := [some (vr 152), some (vi r3), some (vi r6), some (vi v3_29), none]) rfl ?_
              exact Rk.end_ (fun h => h ⟨hv3_29, hσ8⟩)
  · exact Rk.end_ (fun h => G_return (pc := 119) rfl dX0_readMessages_119 (q_V h hσ8))
theorem k_Co_answerOne {κ : Kx} {μ : Sg} (a1 : Int) (σ : Sg) (ha1 : inR a1) (hok : okS σ) : CtV κ mX0_answerOne 3 [vr 152, vi a1] false μ σ (Co_answerOne a1 σ) := by
  intro τ h
  refine con_of (by decide) (Nat.le_of_ble_eq_true rfl) 5 ?_
  refine (?_ : Rk κ mX0_answerOne _ 0 [some (vr 152), some (vi a1), none, none, none, none, none] [] (ms false μ σ) (Co_answerOne a1 σ) (fun a => a = τ)) _ h rfl
  unfold Co_answerOne
  refine Rk.sp (G_iconst (pc := 0) dX0_answerOne_0) ?_
  refine Rk.sp (G_aload_n (pc := 1) 0 rfl rfl dX0_answerOne_1) ?_
  refine Rk.gD (pc := 2) flX0_25 cl0 rfl lb152 dX0_answerOne_2 (fun ht1 => ?_)
  refine Rk.gR (pc := 5) ((σ 152 2).toNat + 4) flX0_95 cl6 rfl ht1 dX0_answerOne_5 ?_
  refine Rk.sp (G_iload_n (pc := 8) 1 rfl rfl dX0_answerOne_8) ?_
  refine Rk.al (pc := 9) (LBt ht1 4 (by decide)) dX0_answerOne_9 (fun hi2 => ?_)
  refine Rk.sp (G_isub (pc := 10) dX0_answerOne_10) ?_
  refine Rk.ist_n (pc := 11) 2 (fun v2_3 => [some (vr 152), some (vi a1), some (vi v2_3), none, none, none, none]) rfl (Nat.le_of_ble_eq_true rfl) rfl dX0_answerOne_11 (nmW _) (fun _ => rfl) (fun v2_3 hv2_3 => ?_)
  refine Rk.sp (G_aload_n (pc := 12) 0 rfl rfl dX0_answerOne_12) ?_
  refine Rk.gR (pc := 13) 1 flX0_9 cl0 rfl lb152 dX0_answerOne_13 ?_
  refine Rk.gR (pc := 16) 16 flX0_62 cl7 rfl lb1 dX0_answerOne_16 ?_
  refine Rk.sp (G_iconst (pc := 19) dX0_answerOne_19) ?_
  refine Rk.sp (fun k => G_aaload2 (pc := 20) 17 (lb16).1 ⟨by decide, by decide⟩ rfl dX0_answerOne_20 k) ?_
  refine Rk.ast_n (pc := 21) 3 (L' := [some (vr 152), some (vi a1), some (vi v2_3), some (vr 17), none, none, none]) rfl (Nat.le_of_ble_eq_true rfl) rfl dX0_answerOne_21 rfl ?_
  refine Rk.sp (G_aload_n (pc := 22) 0 rfl rfl dX0_answerOne_22) ?_
  refine Rk.gR (pc := 23) 149 flX0_15 cl0 rfl lb152 dX0_answerOne_23 ?_
  refine Rk.sp (G_aload_n (pc := 26) 0 rfl rfl dX0_answerOne_26) ?_
  refine Rk.gR (pc := 27) 1 flX0_9 cl0 rfl lb152 dX0_answerOne_27 ?_
  refine Rk.sp (G_aload_n (pc := 30) 0 rfl rfl dX0_answerOne_30) ?_
  refine Rk.gD (pc := 31) flX0_25 cl0 rfl lb152 dX0_answerOne_31 (fun ht4 => ?_)
  refine Rk.sp (G_iload_n (pc := 34) 2 rfl rfl dX0_answerOne_34) ?_
  refine Rk.cV (pc := 35) (Cl.v [vr 1, vr (σ 152 2).toNat, vi v2_3] [] dX0_answerOne_35 ckX0_151 lb149 rfl rfl rfl (Nat.le_of_ble_eq_true rfl) (Nat.le_of_ble_eq_true rfl)) (k_Ju_sit 1 (σ 152 2).toNat v2_3 σ lb1 ht4 hv2_3 hok) (fun σ5 hσ5 => ?_)
  refine Rk.sp (G_aload_n (pc := 38) 0 rfl rfl dX0_answerOne_38) ?_
  refine Rk.gR (pc := 39) 149 flX0_15 cl0 rfl lb152 dX0_answerOne_39 ?_
  refine Rk.sp (G_aload_n (pc := 42) 0 rfl rfl dX0_answerOne_42) ?_
  refine Rk.gD (pc := 43) flX0_25 cl0 rfl lb152 dX0_answerOne_43 (fun ht6 => ?_)
  refine Rk.gR (pc := 46) ((σ5 152 2).toNat + 7) flX0_157 cl6 rfl ht6 dX0_answerOne_46 ?_
  refine Rk.sp (G_iload_n (pc := 49) 1 rfl rfl dX0_answerOne_49) ?_
  refine Rk.al (pc := 50) (LBt ht6 7 (by decide)) dX0_answerOne_50 (fun hi7 => ?_)
  refine Rk.sp (G_aload_n (pc := 51) 0 rfl rfl dX0_answerOne_51) ?_
  refine Rk.gD (pc := 52) flX0_25 cl0 rfl lb152 dX0_answerOne_52 (fun ht8 => ?_)
  refine Rk.gR (pc := 55) ((σ5 152 2).toNat + 8) flX0_160 cl6 rfl ht8 dX0_answerOne_55 ?_
  refine Rk.sp (G_iload_n (pc := 58) 1 rfl rfl dX0_answerOne_58) ?_
  refine Rk.al (pc := 59) (LBt ht8 8 (by decide)) dX0_answerOne_59 (fun hi9 => ?_)
  refine Rk.sp (G_aload_n (pc := 60) 0 rfl rfl dX0_answerOne_60) ?_
  refine Rk.gD (pc := 61) flX0_25 cl0 rfl lb152 dX0_answerOne_61 (fun ht10 => ?_)
  refine Rk.gR (pc := 64) ((σ5 152 2).toNat + 9) flX0_163 cl6 rfl ht10 dX0_answerOne_64 ?_
  refine Rk.sp (G_iload_n (pc := 67) 1 rfl rfl dX0_answerOne_67) ?_
  refine Rk.al (pc := 68) (LBt ht10 9 (by decide)) dX0_answerOne_68 (fun hi11 => ?_)
  refine Rk.cV (pc := 69) (Cl.v [vi (σ5 ((σ5 152 2).toNat + 7) (a1).toNat), vi (σ5 ((σ5 152 2).toNat + 8) (a1).toNat), vi (σ5 ((σ5 152 2).toNat + 9) (a1).toNat)] [] dX0_answerOne_69 ckX0_166 lb149 rfl rfl rfl (Nat.le_of_ble_eq_true rfl) (Nat.le_of_ble_eq_true rfl)) (k_Ju_lay (σ5 ((σ5 152 2).toNat + 7) (a1).toNat) (σ5 ((σ5 152 2).toNat + 8) (a1).toNat) (σ5 ((σ5 152 2).toNat + 9) (a1).toNat) σ5 (hσ5 _ _) (hσ5 _ _) (hσ5 _ _) hσ5) (fun σ12 hσ12 => ?_)
  refine Rk.sp (G_aload_n (pc := 72) 0 rfl rfl dX0_answerOne_72) ?_
  refine Rk.gR (pc := 73) 149 flX0_15 cl0 rfl lb152 dX0_answerOne_73 ?_
  refine Rk.sp (G_aload_n (pc := 76) 3 rfl rfl dX0_answerOne_76) ?_
  refine Rk.sp (G_iconst (pc := 77) dX0_answerOne_77) ?_
  refine Rk.cI (pc := 78) (Cl.v [vr 17, vi 1] [] dX0_answerOne_78 ckX0_169 lb149 rfl rfl rfl (Nat.le_of_ble_eq_true rfl) (Nat.le_of_ble_eq_true rfl)) (k_Ju_tells 17 1 σ12 lb17 (inRk 1 rfl) hσ12) (fun r13 σ14 hr13 hσ14 => ?_)
  refine Rk.isa_w (pc := 81) 4 (L' := [some (vr 152), some (vi a1), some (vi v2_3), some (vr 17), some (vi r13), none, none]) (Nat.le_of_ble_eq_true rfl) rfl dX0_answerOne_81 rfl ?_
  refine Rk.sp (G_aload_n (pc := 83) 0 rfl rfl dX0_answerOne_83) ?_
  refine Rk.gR (pc := 84) 149 flX0_15 cl0 rfl lb152 dX0_answerOne_84 ?_
  refine Rk.sp (G_aload_n (pc := 87) 3 rfl rfl dX0_answerOne_87) ?_
  refine Rk.sp (G_iconst (pc := 88) dX0_answerOne_88) ?_
  refine Rk.cI (pc := 89) (Cl.v [vr 17, vi 2] [] dX0_answerOne_89 ckX0_169 lb149 rfl rfl rfl (Nat.le_of_ble_eq_true rfl) (Nat.le_of_ble_eq_true rfl)) (k_Ju_tells 17 2 σ14 lb17 (inRk 2 rfl) hσ14) (fun r15 σ16 hr15 hσ16 => ?_)
  refine Rk.isa_w (pc := 92) 5 (L' := [some (vr 152), some (vi a1), some (vi v2_3), some (vr 17), some (vi r13), some (vi r15), none]) (Nat.le_of_ble_eq_true rfl) rfl dX0_answerOne_92 rfl ?_
  refine Rk.sp (G_aload_n (pc := 94) 0 rfl rfl dX0_answerOne_94) ?_
  refine Rk.gD (pc := 95) flX0_25 cl0 rfl lb152 dX0_answerOne_95 (fun ht17 => ?_)
  refine Rk.sp (G_iload_n (pc := 98) 2 rfl rfl dX0_answerOne_98) ?_
  refine Rk.sp (G_iload_w (pc := 99) 4 rfl dX0_answerOne_99) ?_
  refine Rk.sp (G_iload_w (pc := 101) 5 rfl dX0_answerOne_101) ?_
  refine Rk.sp (G_aload_n (pc := 103) 0 rfl rfl dX0_answerOne_103) ?_
  refine Rk.gD (pc := 104) flX0_25 cl0 rfl lb152 dX0_answerOne_104 (fun ht18 => ?_)
  refine Rk.gR (pc := 107) ((σ16 152 2).toNat + 1) flX0_107 cl6 rfl ht18 dX0_answerOne_107 ?_
  refine Rk.sp (G_iload_n (pc := 110) 2 rfl rfl dX0_answerOne_110) ?_
  refine Rk.al (pc := 111) (LBt2 ht18 1 (by decide)) dX0_answerOne_111 (fun hi19 => ?_)
  refine Rk.sp (G_bipush (pc := 112) dX0_answerOne_112 rfl) ?_
  refine Rk.join (P := fun p => inR p) (pcj := 122) (fun p => [some (vr 152), some (vi a1), some (vi v2_3), none, none, none, none]) (fun p => [vi p, vi r15, vi r13, vi v2_3, vr (σ16 152 2).toNat]) (fun p => (ms false μ σ16)) ?_ (fun p hp => ?_)
  · refine Rk.icmp_lt (pc := 114) (tgt := 121) dX0_answerOne_114 (nmI (hσ16 _ _)) (nmI (inRk 50 rfl)) rfl (fun hc20 => ?_) (fun hc20 => ?_)
    · refine Rk.sp (G_iconst (pc := 121) dX0_answerOne_121) ?_
      refine Rk.fg [true, true, true, false, false, false, false] (L' := [some (vr 152), some (vi a1), some (vi v2_3), none, none, none, none]) rfl ?_
      exact Rk.end_ (fun h => h (inRk 0 rfl))
    · refine Rk.sp (G_iconst (pc := 117) dX0_answerOne_117) ?_
      refine Rk.sp (G_goto (pc := 118) (tgt := 122) dX0_answerOne_118 rfl) ?_
      refine Rk.fg [true, true, true, false, false, false, false] (L' := [some (vr 152), some (vi a1), some (vi v2_3), none, none, none, none]) rfl ?_
      exact Rk.end_ (fun h => h (inRk 1 rfl))
  · revert hp; revert p; intro t21 ht21
    try dsimp only
    refine Rk.sp (G_iload_n (pc := 122) 1 rfl rfl dX0_answerOne_122) ?_
    refine Rk.cI (pc := 123) (Cl.v [vi v2_3, vi r13, vi r15, vi t21, vi a1] [] dX0_answerOne_123 ckX0_110 ht17 rfl rfl rfl (Nat.le_of_ble_eq_true rfl) (Nat.le_of_ble_eq_true rfl)) (k_Ta_add (σ16 152 2).toNat v2_3 r13 r15 t21 a1 σ16 ht17 hv2_3 hr13 hr15 ht21 ha1 hσ16) (fun r22 σ23 hr22 hσ23 => ?_)
    refine Rk.isa_w (pc := 126) 6 (L' := [some (vr 152), some (vi a1), some (vi v2_3), none, none, none, some (vi r22)]) (Nat.le_of_ble_eq_true rfl) rfl dX0_answerOne_126 rfl ?_
    refine Rk.sp (G_iload_w (pc := 128) 6 rfl dX0_answerOne_128) ?_
    refine Rk.sp (G_iconst (pc := 130) dX0_answerOne_130) ?_
    refine Rk.icmp_eq (pc := 131) (tgt := 176) dX0_answerOne_131 (nmI hr22) (nmI (inRk (-1) rfl)) rfl (fun hc24 => ?_) (fun hc24 => ?_)
    · exact Rk.end_ (fun h => G_return (pc := 176) rfl dX0_answerOne_176 (q_V h hσ23))
    · refine Rk.sp (G_aload_n (pc := 134) 0 rfl rfl dX0_answerOne_134) ?_
      refine Rk.gD (pc := 135) flX0_25 cl0 rfl lb152 dX0_answerOne_135 (fun ht25 => ?_)
      refine Rk.gR (pc := 138) ((σ23 152 2).toNat + 2) flX0_182 cl6 rfl ht25 dX0_answerOne_138 ?_
      refine Rk.sp (G_iconst (pc := 141) dX0_answerOne_141) ?_
      refine Rk.sp (G_iload_n (pc := 142) 2 rfl rfl dX0_answerOne_142) ?_
      refine Rk.sp (G_isub (pc := 143) dX0_answerOne_143) ?_
      refine Rk.sp (G_sipush (pc := 144) dX0_answerOne_144 rfl) ?_
      refine Rk.sp (G_aload_n (pc := 147) 0 rfl rfl dX0_answerOne_147) ?_
      refine Rk.gD (pc := 148) flX0_25 cl0 rfl lb152 dX0_answerOne_148 (fun ht26 => ?_)
      refine Rk.gI (pc := 151) flX0_37 cl6 rfl ht26 dX0_answerOne_151 ?_
      refine Rk.sp (G_aload_n (pc := 154) 0 rfl rfl dX0_answerOne_154) ?_
      refine Rk.gD (pc := 155) flX0_25 cl0 rfl lb152 dX0_answerOne_155 (fun ht27 => ?_)
      refine Rk.gR (pc := 158) ((σ23 152 2).toNat + 5) flX0_142 cl6 rfl ht27 dX0_answerOne_158 ?_
      refine Rk.sp (G_iload_n (pc := 161) 1 rfl rfl dX0_answerOne_161) ?_
      refine Rk.al (pc := 162) (LBt ht27 5 (by decide)) dX0_answerOne_162 (fun hi28 => ?_)
      refine Rk.sp (G_isub (pc := 163) dX0_answerOne_163) ?_
      refine Rk.sp (Go.n0 (nmW _)) ?_
      refine Rk.mmin (pc := 164) cmmX0_46 (inRk 9999 rfl) (wrR _) (Nat.le_of_ble_eq_true rfl) (Nat.le_of_ble_eq_true rfl) dX0_answerOne_164 (fun r29 hr29 => ?_)
      refine Rk.as (pc := 167) hσ23 (nmI hr29) (LBt2 ht25 2 (by decide)) dX0_answerOne_167 (fun hi31 σ30 hσ30 => ?_)
      refine Rk.sp (G_aload_n (pc := 168) 0 rfl rfl dX0_answerOne_168) ?_
      refine Rk.sp (G_iconst (pc := 169) dX0_answerOne_169) ?_
      refine Rk.sp (G_iload_n (pc := 170) 2 rfl rfl dX0_answerOne_170) ?_
      refine Rk.sp (G_iload_w (pc := 171) 6 rfl dX0_answerOne_171) ?_
      refine Rk.cV (pc := 173) (Cl.v [vi 2, vi v2_3, vi r22] [] dX0_answerOne_173 ckX0_114 lb152 rfl rfl rfl (Nat.le_of_ble_eq_true rfl) (Nat.le_of_ble_eq_true rfl)) (k_Co_note 2 v2_3 r22 σ30 (inRk 2 rfl) hv2_3 hr22 hσ30) (fun σ32 hσ32 => ?_)
      exact Rk.end_ (fun h => G_return (pc := 176) rfl dX0_answerOne_176 (q_V h hσ32))
theorem k_Co_answerMessages {κ : Kx} {μ : Sg} (σ : Sg) (hok : okS σ) : CtV κ mX0_answerMessages 4 [vr 152] false μ σ (Co_answerMessages σ) := by
  intro τ h
  refine con_of (by decide) (Nat.le_of_ble_eq_true rfl) 2 ?_
  refine (?_ : Rk κ mX0_answerMessages _ 0 [some (vr 152), none, none] [] (ms false μ σ) (Co_answerMessages σ) (fun a => a = τ)) _ h rfl
  unfold Co_answerMessages
  refine Rk.sp (G_aload_n (pc := 0) 0 rfl rfl dX0_answerMessages_0) ?_
  refine Rk.gD (pc := 1) flX0_25 cl0 rfl lb152 dX0_answerMessages_1 (fun ht1 => ?_)
  refine Rk.gI (pc := 4) flX0_74 cl6 rfl ht1 dX0_answerMessages_4 ?_
  refine Rk.ist_n (pc := 7) 1 (fun v1_2 => [some (vr 152), some (vi v1_2), none]) rfl (Nat.le_of_ble_eq_true rfl) rfl dX0_answerMessages_7 (nmI (hok _ _)) (fun _ => rfl) (fun v1_2 hv1_2 => ?_)
  refine Rk.sp (G_iconst (pc := 8) dX0_answerMessages_8) ?_
  refine Rk.isa_n (pc := 9) 2 (L' := [some (vr 152), some (vi v1_2), some (vi 0)]) rfl (Nat.le_of_ble_eq_true rfl) rfl dX0_answerMessages_9 rfl ?_
  refine Rk.loop (pc := 10) (B := (fun p => Co_answerMessages_10_b v1_2 p.1 p.2)) (fun p => inR p.1 ∧ okS p.2) (fun p => [some (vr 152), some (vi v1_2), some (vi p.1)]) (fun p => (ms false μ p.2)) (fun p hp => ?_) (0, σ) ⟨(inRk 0 rfl), hok⟩
  obtain ⟨v2_3, σ4⟩ := p
  obtain ⟨hv2_3, hσ4⟩ := hp
  try dsimp only
  unfold Co_answerMessages_10_b
  refine Rk.sp (G_iload_n (pc := 10) 2 rfl rfl dX0_answerMessages_10) ?_
  refine Rk.sp (G_iload_n (pc := 11) 1 rfl rfl dX0_answerMessages_11) ?_
  refine Rk.icmp_ge (pc := 12) (tgt := 68) dX0_answerMessages_12 (nmI hv2_3) (nmI hv1_2) rfl (fun hc5 => ?_) (fun hc5 => ?_)
  · refine Rk.sp (G_aload_n (pc := 15) 0 rfl rfl dX0_answerMessages_15) ?_
    refine Rk.gD (pc := 16) flX0_25 cl0 rfl lb152 dX0_answerMessages_16 (fun ht6 => ?_)
    refine Rk.gR (pc := 19) ((σ4 152 2).toNat + 12) flX0_80 cl6 rfl ht6 dX0_answerMessages_19 ?_
    refine Rk.sp (G_iload_n (pc := 22) 2 rfl rfl dX0_answerMessages_22) ?_
    refine Rk.al (pc := 23) (LBt ht6 12 (by decide)) dX0_answerMessages_23 (fun hi7 => ?_)
    refine Rk.sp (G_aload_n (pc := 24) 0 rfl rfl dX0_answerMessages_24) ?_
    refine Rk.gD (pc := 25) flX0_25 cl0 rfl lb152 dX0_answerMessages_25 (fun ht8 => ?_)
    refine Rk.gI (pc := 28) flX0_37 cl6 rfl ht8 dX0_answerMessages_28 ?_
    refine Rk.icmp_ne (pc := 31) (tgt := 62) dX0_answerMessages_31 (nmI (hσ4 _ _)) (nmI (hσ4 _ _)) rfl (fun hc9 => ?_) (fun hc9 => ?_)
    · refine Rk.sp (G_aload_n (pc := 34) 0 rfl rfl dX0_answerMessages_34) ?_
      refine Rk.gD (pc := 35) flX0_25 cl0 rfl lb152 dX0_answerMessages_35 (fun ht10 => ?_)
      refine Rk.gR (pc := 38) ((σ4 152 2).toNat + 12) flX0_80 cl6 rfl ht10 dX0_answerMessages_38 ?_
      refine Rk.sp (G_iload_n (pc := 41) 2 rfl rfl dX0_answerMessages_41) ?_
      refine Rk.sp (G_iconst (pc := 42) dX0_answerMessages_42) ?_
      refine Rk.as (pc := 43) hσ4 (nmI (inRk (-1) rfl)) (LBt ht10 12 (by decide)) dX0_answerMessages_43 (fun hi12 σ11 hσ11 => ?_)
      refine Rk.sp (G_aload_n (pc := 44) 0 rfl rfl dX0_answerMessages_44) ?_
      refine Rk.gD (pc := 45) flX0_25 cl0 rfl lb152 dX0_answerMessages_45 (fun ht13 => ?_)
      refine Rk.sp (G_dup (pc := 48) dX0_answerMessages_48 (fun _ h => by cases h)) ?_
      refine Rk.gI (pc := 49) flX0_77 cl6 rfl ht13 dX0_answerMessages_49 ?_
      refine Rk.sp (G_iconst (pc := 52) dX0_answerMessages_52) ?_
      refine Rk.sp (G_isub (pc := 53) dX0_answerMessages_53) ?_
      refine Rk.pI (pc := 54) hσ11 (nmW _) flX0_77 cl6 rfl rfl ht13 dX0_answerMessages_54 (fun σ14 hσ14 => ?_)
      refine Rk.sp (G_aload_n (pc := 57) 0 rfl rfl dX0_answerMessages_57) ?_
      refine Rk.sp (G_iload_n (pc := 58) 2 rfl rfl dX0_answerMessages_58) ?_
      refine Rk.cV (pc := 59) (Cl.v [vi v2_3] [] dX0_answerMessages_59 ckX0_179 lb152 rfl rfl rfl (Nat.le_of_ble_eq_true rfl) (Nat.le_of_ble_eq_true rfl)) (k_Co_answerOne v2_3 σ14 hv2_3 hσ14) (fun σ15 hσ15 => ?_)
      refine Rk.inc (pc := 62) 2 (fun v2_16 => [some (vr 152), some (vi v1_2), some (vi v2_16)]) rfl (Nat.le_of_ble_eq_true rfl) rfl dX0_answerMessages_62 (fun _ => rfl) (fun v2_16 hv2_16 => ?_)
      refine Rk.sp (G_goto (pc := 65) (tgt := 10) dX0_answerMessages_65 rfl) ?_
      exact Rk.end_ (fun h => h ⟨hv2_16, hσ15⟩)
    · refine Rk.inc (pc := 62) 2 (fun v2_17 => [some (vr 152), some (vi v1_2), some (vi v2_17)]) rfl (Nat.le_of_ble_eq_true rfl) rfl dX0_answerMessages_62 (fun _ => rfl) (fun v2_17 hv2_17 => ?_)
      refine Rk.sp (G_goto (pc := 65) (tgt := 10) dX0_answerMessages_65 rfl) ?_
      exact Rk.end_ (fun h => h ⟨hv2_17, hσ4⟩)
  · exact Rk.end_ (fun h => G_return (pc := 68) rfl dX0_answerMessages_68 (q_V h hσ4))
theorem k_Co_pass {κ : Kx} {μ : Sg} (σ : Sg) (hok : okS σ) : CtV κ mX0_pass 5 [vr 152] false μ σ (Co_pass σ) := by
  intro τ h
  refine con_of (by decide) (Nat.le_of_ble_eq_true rfl) 0 ?_
  refine (?_ : Rk κ mX0_pass _ 0 [some (vr 152)] [] (ms false μ σ) (Co_pass σ) (fun a => a = τ)) _ h rfl
  unfold Co_pass
  refine Rk.sp (G_aload_n (pc := 0) 0 rfl rfl dX0_pass_0) ?_
  refine Rk.cV (pc := 1) (Cl.v [] [] dX0_pass_1 ckX0_98 lb152 rfl rfl rfl (Nat.le_of_ble_eq_true rfl) (Nat.le_of_ble_eq_true rfl)) (k_Co_followSayings σ hok) (fun σ1 hσ1 => ?_)
  refine Rk.sp (G_aload_n (pc := 4) 0 rfl rfl dX0_pass_4) ?_
  refine Rk.gD (pc := 5) flX0_25 cl0 rfl lb152 dX0_pass_5 (fun ht2 => ?_)
  refine Rk.gI (pc := 8) flX0_55 cl6 rfl ht2 dX0_pass_8 ?_
  refine Rk.join (P := fun p => okS p) (pcj := 18) (fun p => [some (vr 152)]) (fun p => []) (fun p => (ms false μ p)) ?_ (fun p hp => ?_)
  · refine Rk.if_le (pc := 11) (tgt := 18) dX0_pass_11 (nmI (hσ1 _ _)) rfl (fun hc3 => ?_) (fun hc3 => ?_)
    · refine Rk.sp (G_aload_n (pc := 14) 0 rfl rfl dX0_pass_14) ?_
      refine Rk.cV (pc := 15) (Cl.v [] [] dX0_pass_15 ckX0_101 lb152 rfl rfl rfl (Nat.le_of_ble_eq_true rfl) (Nat.le_of_ble_eq_true rfl)) (k_Co_readMessages σ1 hσ1) (fun σ5 hσ5 => ?_)
      exact Rk.end_ (fun h => h hσ5)
    · exact Rk.end_ (fun h => h hσ1)
  · revert hp; revert p; intro σ4 hσ4
    try dsimp only
    refine Rk.sp (G_aload_n (pc := 18) 0 rfl rfl dX0_pass_18) ?_
    refine Rk.gD (pc := 19) flX0_25 cl0 rfl lb152 dX0_pass_19 (fun ht6 => ?_)
    refine Rk.gI (pc := 22) flX0_77 cl6 rfl ht6 dX0_pass_22 ?_
    refine Rk.join (P := fun p => okS p) (pcj := 32) (fun p => [some (vr 152)]) (fun p => []) (fun p => (ms false μ p)) ?_ (fun p hp => ?_)
    · refine Rk.if_le (pc := 25) (tgt := 32) dX0_pass_25 (nmI (hσ4 _ _)) rfl (fun hc7 => ?_) (fun hc7 => ?_)
      · refine Rk.sp (G_aload_n (pc := 28) 0 rfl rfl dX0_pass_28) ?_
        refine Rk.cV (pc := 29) (Cl.v [] [] dX0_pass_29 ckX0_104 lb152 rfl rfl rfl (Nat.le_of_ble_eq_true rfl) (Nat.le_of_ble_eq_true rfl)) (k_Co_answerMessages σ4 hσ4) (fun σ9 hσ9 => ?_)
        exact Rk.end_ (fun h => h hσ9)
      · exact Rk.end_ (fun h => h hσ4)
    · revert hp; revert p; intro σ8 hσ8
      try dsimp only
      refine Rk.sp (G_aload_n (pc := 32) 0 rfl rfl dX0_pass_32) ?_
      refine Rk.gD (pc := 33) flX0_25 cl0 rfl lb152 dX0_pass_33 (fun ht10 => ?_)
      refine Rk.sp (G_dup (pc := 36) dX0_pass_36 (fun _ h => by cases h)) ?_
      refine Rk.gI (pc := 37) flX0_37 cl6 rfl ht10 dX0_pass_37 ?_
      refine Rk.sp (G_iconst (pc := 40) dX0_pass_40) ?_
      refine Rk.sp (G_iadd (pc := 41) dX0_pass_41) ?_
      refine Rk.pI (pc := 42) hσ8 (nmW _) flX0_37 cl6 rfl rfl ht10 dX0_pass_42 (fun σ11 hσ11 => ?_)
      refine Rk.sp (G_aload_n (pc := 45) 0 rfl rfl dX0_pass_45) ?_
      refine Rk.gD (pc := 46) flX0_25 cl0 rfl lb152 dX0_pass_46 (fun ht12 => ?_)
      refine Rk.gI (pc := 49) flX0_37 cl6 rfl ht12 dX0_pass_49 ?_
      refine Rk.sp (G_sipush (pc := 52) dX0_pass_52 rfl) ?_
      refine Rk.sp (G_irem (pc := 55) dX0_pass_55 (nmI (hσ11 _ _)) (nmI (inRk 1440 rfl)) (by decide)) ?_
      refine Rk.sp (G_sipush (pc := 56) dX0_pass_56 rfl) ?_
      refine Rk.icmp_ne (pc := 59) (tgt := 110) dX0_pass_59 (nmI (tmodR (hσ11 _ _))) (nmI (inRk 240 rfl)) rfl (fun hc13 => ?_) (fun hc13 => ?_)
      · refine Rk.sp (G_aload_n (pc := 62) 0 rfl rfl dX0_pass_62) ?_
        refine Rk.gD (pc := 63) flX0_25 cl0 rfl lb152 dX0_pass_63 (fun ht14 => ?_)
        refine Rk.gR (pc := 66) ((σ11 152 2).toNat + 1) flX0_107 cl6 rfl ht14 dX0_pass_66 ?_
        refine Rk.sp (G_iconst (pc := 69) dX0_pass_69) ?_
        refine Rk.sp (G_dup2 (pc := 70) dX0_pass_70 (fun _ h => by cases h) (fun _ h => by cases h)) ?_
        refine Rk.alc (pc := 71) 0 rfl (Nat.le_of_ble_eq_true rfl) (LBt2 ht14 1 (by decide)) dX0_pass_71 ?_
        refine Rk.sp (G_aload_n (pc := 72) 0 rfl rfl dX0_pass_72) ?_
        refine Rk.gD (pc := 73) flX0_25 cl0 rfl lb152 dX0_pass_73 (fun ht15 => ?_)
        refine Rk.gR (pc := 76) ((σ11 152 2).toNat + 1) flX0_107 cl6 rfl ht15 dX0_pass_76 ?_
        refine Rk.sp (G_iconst (pc := 79) dX0_pass_79) ?_
        refine Rk.alc (pc := 80) 0 rfl (Nat.le_of_ble_eq_true rfl) (LBt2 ht15 1 (by decide)) dX0_pass_80 ?_
        refine Rk.sp (G_bipush (pc := 81) dX0_pass_81 rfl) ?_
        refine Rk.sp (G_idiv (pc := 83) dX0_pass_83 (nmI (hσ11 _ _)) (nmI (inRk 10 rfl)) (by decide)) ?_
        refine Rk.sp (G_isub (pc := 84) dX0_pass_84) ?_
        refine Rk.asc (pc := 85) hσ11 (nmW _) 0 rfl (Nat.le_of_ble_eq_true rfl) (LBt2 ht14 1 (by decide)) dX0_pass_85 (fun σ16 hσ16 => ?_)
        refine Rk.sp (G_aload_n (pc := 86) 0 rfl rfl dX0_pass_86) ?_
        refine Rk.gD (pc := 87) flX0_25 cl0 rfl lb152 dX0_pass_87 (fun ht17 => ?_)
        refine Rk.gR (pc := 90) ((σ16 152 2).toNat + 1) flX0_107 cl6 rfl ht17 dX0_pass_90 ?_
        refine Rk.sp (G_iconst (pc := 93) dX0_pass_93) ?_
        refine Rk.sp (G_dup2 (pc := 94) dX0_pass_94 (fun _ h => by cases h) (fun _ h => by cases h)) ?_
        refine Rk.alc (pc := 95) 1 rfl (Nat.le_of_ble_eq_true rfl) (LBt2 ht17 1 (by decide)) dX0_pass_95 ?_
        refine Rk.sp (G_aload_n (pc := 96) 0 rfl rfl dX0_pass_96) ?_
        refine Rk.gD (pc := 97) flX0_25 cl0 rfl lb152 dX0_pass_97 (fun ht18 => ?_)
        refine Rk.gR (pc := 100) ((σ16 152 2).toNat + 1) flX0_107 cl6 rfl ht18 dX0_pass_100 ?_
        refine Rk.sp (G_iconst (pc := 103) dX0_pass_103) ?_
        refine Rk.alc (pc := 104) 1 rfl (Nat.le_of_ble_eq_true rfl) (LBt2 ht18 1 (by decide)) dX0_pass_104 ?_
        refine Rk.sp (G_bipush (pc := 105) dX0_pass_105 rfl) ?_
        refine Rk.sp (G_idiv (pc := 107) dX0_pass_107 (nmI (hσ16 _ _)) (nmI (inRk 10 rfl)) (by decide)) ?_
        refine Rk.sp (G_isub (pc := 108) dX0_pass_108) ?_
        refine Rk.asc (pc := 109) hσ16 (nmW _) 1 rfl (Nat.le_of_ble_eq_true rfl) (LBt2 ht17 1 (by decide)) dX0_pass_109 (fun σ19 hσ19 => ?_)
        exact Rk.end_ (fun h => G_return (pc := 110) rfl dX0_pass_110 (q_V h hσ19))
      · exact Rk.end_ (fun h => G_return (pc := 110) rfl dX0_pass_110 (q_V h hσ11))
theorem k_Co_go {κ : Kx} {μ : Sg} (a1 : Int) (σ : Sg) (ha1 : inR a1) (hok : okS σ) : CtV κ mX0_go 6 [vr 152, vi a1] false μ σ (Co_go a1 σ) := by
  intro τ h
  refine con_of (by decide) (Nat.le_of_ble_eq_true rfl) 2 ?_
  refine (?_ : Rk κ mX0_go _ 0 [some (vr 152), some (vi a1), none, none] [] (ms false μ σ) (Co_go a1 σ) (fun a => a = τ)) _ h rfl
  unfold Co_go
  refine Rk.sp (G_aload_n (pc := 0) 0 rfl rfl dX0_go_0) ?_
  refine Rk.gD (pc := 1) flX0_25 cl0 rfl lb152 dX0_go_1 (fun ht1 => ?_)
  refine Rk.gI (pc := 4) flX0_37 cl6 rfl ht1 dX0_go_4 ?_
  refine Rk.sp (G_iload_n (pc := 7) 1 rfl rfl dX0_go_7) ?_
  refine Rk.sp (G_iadd (pc := 8) dX0_go_8) ?_
  refine Rk.ist_n (pc := 9) 2 (fun v2_2 => [some (vr 152), some (vi a1), some (vi v2_2), none]) rfl (Nat.le_of_ble_eq_true rfl) rfl dX0_go_9 (nmW _) (fun _ => rfl) (fun v2_2 hv2_2 => ?_)
  refine Rk.sp (G_iconst (pc := 10) dX0_go_10) ?_
  refine Rk.isa_n (pc := 11) 3 (L' := [some (vr 152), some (vi a1), some (vi v2_2), some (vi 0)]) rfl (Nat.le_of_ble_eq_true rfl) rfl dX0_go_11 rfl ?_
  refine Rk.loop (pc := 12) (B := (fun p => Co_go_12_b a1 v2_2 p.1 p.2)) (fun p => inR p.1 ∧ okS p.2) (fun p => [some (vr 152), some (vi a1), some (vi v2_2), some (vi p.1)]) (fun p => (ms false μ p.2)) (fun p hp => ?_) (0, σ) ⟨(inRk 0 rfl), hok⟩
  obtain ⟨v3_3, σ4⟩ := p
  obtain ⟨hv3_3, hσ4⟩ := hp
  try dsimp only
  unfold Co_go_12_b
  refine Rk.sp (G_iload_n (pc := 12) 3 rfl rfl dX0_go_12) ?_
  refine Rk.sp (G_iload_n (pc := 13) 1 rfl rfl dX0_go_13) ?_
  refine Rk.icmp_ge (pc := 14) (tgt := 55) dX0_go_14 (nmI hv3_3) (nmI ha1) rfl (fun hc5 => ?_) (fun hc5 => ?_)
  · refine Rk.sp (G_aload_n (pc := 17) 0 rfl rfl dX0_go_17) ?_
    refine Rk.gD (pc := 18) flX0_25 cl0 rfl lb152 dX0_go_18 (fun ht6 => ?_)
    refine Rk.gI (pc := 21) flX0_37 cl6 rfl ht6 dX0_go_21 ?_
    refine Rk.sp (G_iload_n (pc := 24) 2 rfl rfl dX0_go_24) ?_
    refine Rk.icmp_ge (pc := 25) (tgt := 55) dX0_go_25 (nmI (hσ4 _ _)) (nmI hv2_2) rfl (fun hc7 => ?_) (fun hc7 => ?_)
    · refine Rk.sp (G_aload_n (pc := 28) 0 rfl rfl dX0_go_28) ?_
      refine Rk.gD (pc := 29) flX0_25 cl0 rfl lb152 dX0_go_29 (fun ht8 => ?_)
      refine Rk.sp (G_iload_n (pc := 32) 2 rfl rfl dX0_go_32) ?_
      refine Rk.sp (G_iconst (pc := 33) dX0_go_33) ?_
      refine Rk.sp (G_isub (pc := 34) dX0_go_34) ?_
      refine Rk.sp (G_aload_n (pc := 35) 0 rfl rfl dX0_go_35) ?_
      refine Rk.cRI (pc := 36) (Cl.v [] [vi (v2_2 - 1), vr (σ4 152 2).toNat] dX0_go_36 ckX0_42 lb152 rfl rfl rfl (Nat.le_of_ble_eq_true rfl) (Nat.le_of_ble_eq_true rfl)) (k_Co_quietUntil σ4 hσ4) (fun r9 hr9 => ?_)
      refine Rk.sp (Go.n1 (nmW _)) ?_
      refine Rk.mmin (pc := 39) cmmX0_46 (wrR _) hr9 (Nat.le_of_ble_eq_true rfl) (Nat.le_of_ble_eq_true rfl) dX0_go_39 (fun r10 hr10 => ?_)
      refine Rk.pI (pc := 42) hσ4 (nmI hr10) flX0_37 cl6 rfl rfl ht8 dX0_go_42 (fun σ11 hσ11 => ?_)
      refine Rk.sp (G_aload_n (pc := 45) 0 rfl rfl dX0_go_45) ?_
      refine Rk.cV (pc := 46) (Cl.v [] [] dX0_go_46 ckX0_52 lb152 rfl rfl rfl (Nat.le_of_ble_eq_true rfl) (Nat.le_of_ble_eq_true rfl)) (k_Co_pass σ11 hσ11) (fun σ12 hσ12 => ?_)
      refine Rk.inc (pc := 49) 3 (fun v3_13 => [some (vr 152), some (vi a1), some (vi v2_2), some (vi v3_13)]) rfl (Nat.le_of_ble_eq_true rfl) rfl dX0_go_49 (fun _ => rfl) (fun v3_13 hv3_13 => ?_)
      refine Rk.sp (G_goto (pc := 52) (tgt := 12) dX0_go_52 rfl) ?_
      exact Rk.end_ (fun h => h ⟨hv3_13, hσ12⟩)
    · exact Rk.end_ (fun h => G_return (pc := 55) rfl dX0_go_55 (q_V h hσ4))
  · exact Rk.end_ (fun h => G_return (pc := 55) rfl dX0_go_55 (q_V h hσ4))
theorem k_Ji_bitCount {κ : Kx} {b : Bool} {μ σ : Sg} (a1 : Int) (ha1 : inR a1) : CtRI κ mJ6_bitCount_0f7a4 0 [vi a1] b μ σ (Ji_bitCount a1) := by
  intro r h
  refine con_of (by decide) (Nat.le_of_ble_eq_true rfl) 0 ?_
  refine (?_ : Rk κ mJ6_bitCount_0f7a4 _ 0 [some (vi a1)] [] (ms b μ σ) (Ji_bitCount a1) (fun a => a = r)) _ h rfl
  unfold Ji_bitCount
  refine Rk.sp (G_iload_n (pc := 0) 0 rfl rfl dJ6_bitCount_0f7a4_0) ?_
  refine Rk.sp (G_iload_n (pc := 1) 0 rfl rfl dJ6_bitCount_0f7a4_1) ?_
  refine Rk.sp (G_iconst (pc := 2) dJ6_bitCount_0f7a4_2) ?_
  refine Rk.sp (G_iushr (pc := 3) dJ6_bitCount_0f7a4_3) ?_
  refine Rk.sp (G_ldcw (pc := 4) (n := 1431655765) dJ6_bitCount_0f7a4_4 conJ6_265 (by decide)) ?_
  refine Rk.sp (G_iand (pc := 7) dJ6_bitCount_0f7a4_7) ?_
  refine Rk.sp (G_isub (pc := 8) dJ6_bitCount_0f7a4_8) ?_
  refine Rk.ist_n (pc := 9) 0 (fun v0_1 => [some (vi v0_1)]) rfl (Nat.le_of_ble_eq_true rfl) rfl dJ6_bitCount_0f7a4_9 (nmW _) (fun _ => rfl) (fun v0_1 hv0_1 => ?_)
  refine Rk.sp (G_iload_n (pc := 10) 0 rfl rfl dJ6_bitCount_0f7a4_10) ?_
  refine Rk.sp (G_ldcw (pc := 11) (n := 858993459) dJ6_bitCount_0f7a4_11 conJ6_266 (by decide)) ?_
  refine Rk.sp (G_iand (pc := 14) dJ6_bitCount_0f7a4_14) ?_
  refine Rk.sp (G_iload_n (pc := 15) 0 rfl rfl dJ6_bitCount_0f7a4_15) ?_
  refine Rk.sp (G_iconst (pc := 16) dJ6_bitCount_0f7a4_16) ?_
  refine Rk.sp (G_iushr (pc := 17) dJ6_bitCount_0f7a4_17) ?_
  refine Rk.sp (G_ldcw (pc := 18) (n := 858993459) dJ6_bitCount_0f7a4_18 conJ6_266 (by decide)) ?_
  refine Rk.sp (G_iand (pc := 21) dJ6_bitCount_0f7a4_21) ?_
  refine Rk.sp (G_iadd (pc := 22) dJ6_bitCount_0f7a4_22) ?_
  refine Rk.ist_n (pc := 23) 0 (fun v0_2 => [some (vi v0_2)]) rfl (Nat.le_of_ble_eq_true rfl) rfl dJ6_bitCount_0f7a4_23 (nmW _) (fun _ => rfl) (fun v0_2 hv0_2 => ?_)
  refine Rk.sp (G_iload_n (pc := 24) 0 rfl rfl dJ6_bitCount_0f7a4_24) ?_
  refine Rk.sp (G_iload_n (pc := 25) 0 rfl rfl dJ6_bitCount_0f7a4_25) ?_
  refine Rk.sp (G_iconst (pc := 26) dJ6_bitCount_0f7a4_26) ?_
  refine Rk.sp (G_iushr (pc := 27) dJ6_bitCount_0f7a4_27) ?_
  refine Rk.sp (G_iadd (pc := 28) dJ6_bitCount_0f7a4_28) ?_
  refine Rk.sp (G_ldcw (pc := 29) (n := 252645135) dJ6_bitCount_0f7a4_29 conJ6_267 (by decide)) ?_
  refine Rk.sp (G_iand (pc := 32) dJ6_bitCount_0f7a4_32) ?_
  refine Rk.ist_n (pc := 33) 0 (fun v0_3 => [some (vi v0_3)]) rfl (Nat.le_of_ble_eq_true rfl) rfl dJ6_bitCount_0f7a4_33 (nmI (bAnd_R _ _)) (fun _ => rfl) (fun v0_3 hv0_3 => ?_)
  refine Rk.sp (G_iload_n (pc := 34) 0 rfl rfl dJ6_bitCount_0f7a4_34) ?_
  refine Rk.sp (G_iload_n (pc := 35) 0 rfl rfl dJ6_bitCount_0f7a4_35) ?_
  refine Rk.sp (G_bipush (pc := 36) dJ6_bitCount_0f7a4_36 rfl) ?_
  refine Rk.sp (G_iushr (pc := 38) dJ6_bitCount_0f7a4_38) ?_
  refine Rk.sp (G_iadd (pc := 39) dJ6_bitCount_0f7a4_39) ?_
  refine Rk.ist_n (pc := 40) 0 (fun v0_4 => [some (vi v0_4)]) rfl (Nat.le_of_ble_eq_true rfl) rfl dJ6_bitCount_0f7a4_40 (nmW _) (fun _ => rfl) (fun v0_4 hv0_4 => ?_)
  refine Rk.sp (G_iload_n (pc := 41) 0 rfl rfl dJ6_bitCount_0f7a4_41) ?_
  refine Rk.sp (G_iload_n (pc := 42) 0 rfl rfl dJ6_bitCount_0f7a4_42) ?_
  refine Rk.sp (G_bipush (pc := 43) dJ6_bitCount_0f7a4_43 rfl) ?_
  refine Rk.sp (G_iushr (pc := 45) dJ6_bitCount_0f7a4_45) ?_
  refine Rk.sp (G_iadd (pc := 46) dJ6_bitCount_0f7a4_46) ?_
  refine Rk.ist_n (pc := 47) 0 (fun v0_5 => [some (vi v0_5)]) rfl (Nat.le_of_ble_eq_true rfl) rfl dJ6_bitCount_0f7a4_47 (nmW _) (fun _ => rfl) (fun v0_5 hv0_5 => ?_)
  refine Rk.sp (G_iload_n (pc := 48) 0 rfl rfl dJ6_bitCount_0f7a4_48) ?_
  refine Rk.sp (G_bipush (pc := 49) dJ6_bitCount_0f7a4_49 rfl) ?_
  refine Rk.sp (G_iand (pc := 51) dJ6_bitCount_0f7a4_51) ?_
  exact Rk.end_ (fun h => G_ireturn (pc := 52) rfl dJ6_bitCount_0f7a4_52 (q_RI h (bAnd_R _ _)))
theorem k_Td_deletes {κ : Kx} {μ : Sg} (a1 : Int) (a2 : Int) (a3 : Int) (σ : Sg) (ha1 : inR a1) (ha2 : inR a2) (ha3 : inR a3) (hok : okS σ) : CtI κ mX8_deletes 7 [vr 0, vi a1, vi a2, vi a3] false μ σ (Td_deletes a1 a2 a3 σ) := by
  intro r τ h
  refine con_of (by decide) (Nat.le_of_ble_eq_true rfl) 6 ?_
  refine (?_ : Rk κ mX8_deletes _ 0 [some (vr 0), some (vi a1), some (vi a2), some (vi a3), none, none, none, none, none, none] [] (ms false μ σ) (Td_deletes a1 a2 a3 σ) (fun a => a = (r, τ))) _ h rfl
  unfold Td_deletes
  refine Rk.sp (G_iload_n (pc := 0) 1 rfl rfl dX8_deletes_0) ?_
  refine Rk.cRZ (pc := 1) (Cl.s [vi a1] [] dX8_deletes_1 ckX8_85 rfl rfl (Nat.le_of_ble_eq_true rfl) (Nat.le_of_ble_eq_true rfl)) (k_Td_isOne a1 ha1) (fun r1 hr1 => ?_)
  refine Rk.if_eq (pc := 4) (tgt := 27) dX8_deletes_4 (nmI (inZ.R hr1)) rfl (fun hc2 => ?_) (fun hc2 => ?_)
  · refine Rk.sp (G_iconst (pc := 27) dX8_deletes_27) ?_
    exact Rk.end_ (fun h => G_ireturn (pc := 28) rfl dX8_deletes_28 (q_I h (inRk (-1) rfl) hok))
  · refine Rk.sp (G_iload_n (pc := 7) 2 rfl rfl dX8_deletes_7) ?_
    refine Rk.sp (G_iconst (pc := 8) dX8_deletes_8) ?_
    refine Rk.sp (G_sipush (pc := 9) dX8_deletes_9 rfl) ?_
    refine Rk.cRZ (pc := 12) (Cl.s [vi a2, vi 1, vi 300] [] dX8_deletes_12 ckX8_81 rfl rfl (Nat.le_of_ble_eq_true rfl) (Nat.le_of_ble_eq_true rfl)) (k_Td_within a2 1 300 ha2 (inRk 1 rfl) (inRk 300 rfl)) (fun r3 hr3 => ?_)
    refine Rk.if_eq (pc := 15) (tgt := 27) dX8_deletes_15 (nmI (inZ.R hr3)) rfl (fun hc4 => ?_) (fun hc4 => ?_)
    · refine Rk.sp (G_iconst (pc := 27) dX8_deletes_27) ?_
      exact Rk.end_ (fun h => G_ireturn (pc := 28) rfl dX8_deletes_28 (q_I h (inRk (-1) rfl) hok))
    · refine Rk.sp (G_iload_n (pc := 18) 3 rfl rfl dX8_deletes_18) ?_
      refine Rk.sp (G_iconst (pc := 19) dX8_deletes_19) ?_
      refine Rk.sp (G_iconst (pc := 20) dX8_deletes_20) ?_
      refine Rk.cRZ (pc := 21) (Cl.s [vi a3, vi 0, vi 1] [] dX8_deletes_21 ckX8_81 rfl rfl (Nat.le_of_ble_eq_true rfl) (Nat.le_of_ble_eq_true rfl)) (k_Td_within a3 0 1 ha3 (inRk 0 rfl) (inRk 1 rfl)) (fun r5 hr5 => ?_)
      refine Rk.if_ne (pc := 24) (tgt := 29) dX8_deletes_24 (nmI (inZ.R hr5)) rfl (fun hc6 => ?_) (fun hc6 => ?_)
      · refine Rk.sp (G_iconst (pc := 27) dX8_deletes_27) ?_
        exact Rk.end_ (fun h => G_ireturn (pc := 28) rfl dX8_deletes_28 (q_I h (inRk (-1) rfl) hok))
      · refine Rk.sp (G_iconst (pc := 29) dX8_deletes_29) ?_
        refine Rk.sp (G_iconst (pc := 30) dX8_deletes_30) ?_
        refine Rk.sp (G_aload_n (pc := 31) 0 rfl rfl dX8_deletes_31) ?_
        refine Rk.gR (pc := 32) 1 flX8_12 cl8 rfl lb0 dX8_deletes_32 ?_
        refine Rk.gR (pc := 35) 2 flX8_71 cl7 rfl lb1 dX8_deletes_35 ?_
        refine Rk.sp (G_iload_n (pc := 38) 1 rfl rfl dX8_deletes_38) ?_
        refine Rk.cRI (pc := 39) (Cl.v [vi a1] [vi 4, vi 1] dX8_deletes_39 ckX8_309 lb2 rfl rfl rfl (Nat.le_of_ble_eq_true rfl) (Nat.le_of_ble_eq_true rfl)) (k_Ta_openOf 2 a1 σ lb2 ha1 hok) (fun r7 hr7 => ?_)
        refine Rk.mmin (pc := 42) cmmX8_141 (inRk 4 rfl) hr7 (Nat.le_of_ble_eq_true rfl) (Nat.le_of_ble_eq_true rfl) dX8_deletes_42 (fun r8 hr8 => ?_)
        refine Rk.sp (G_ishl (pc := 45) dX8_deletes_45) ?_
        refine Rk.ist_w (pc := 46) 4 (fun v4_9 => [some (vr 0), some (vi a1), some (vi a2), some (vi a3), some (vi v4_9), none, none, none, none, none]) (Nat.le_of_ble_eq_true rfl) rfl dX8_deletes_46 (nmI (bShl_R _ _)) (fun _ => rfl) (fun v4_9 hv4_9 => ?_)
        refine Rk.sp (G_sipush (pc := 48) dX8_deletes_48 rfl) ?_
        refine Rk.isa_w (pc := 51) 5 (L' := [some (vr 0), some (vi a1), some (vi a2), some (vi a3), some (vi v4_9), some (vi 1000), none, none, none, none]) (Nat.le_of_ble_eq_true rfl) rfl dX8_deletes_51 rfl ?_
        refine Rk.sp (G_iconst (pc := 53) dX8_deletes_53) ?_
        refine Rk.isa_w (pc := 54) 6 (L' := [some (vr 0), some (vi a1), some (vi a2), some (vi a3), some (vi v4_9), some (vi 1000), some (vi 0), none, none, none]) (Nat.le_of_ble_eq_true rfl) rfl dX8_deletes_54 rfl ?_
        refine Rk.sp (G_iconst (pc := 56) dX8_deletes_56) ?_
        refine Rk.isa_w (pc := 57) 7 (L' := [some (vr 0), some (vi a1), some (vi a2), some (vi a3), some (vi v4_9), some (vi 1000), some (vi 0), some (vi 0), none, none]) (Nat.le_of_ble_eq_true rfl) rfl dX8_deletes_57 rfl ?_
        refine Rk.loop (pc := 59) (B := (fun p => Td_deletes_59_b v4_9 a1 a2 a3 p.1 p.2.1 p.2.2.1 p.2.2.2)) (fun p => inR p.1 ∧ inR p.2.1 ∧ inR p.2.2.1 ∧ okS p.2.2.2) (fun p => [some (vr 0), some (vi a1), some (vi a2), some (vi a3), some (vi v4_9), some (vi p.1), some (vi p.2.1), some (vi p.2.2.1), none, none]) (fun p => (ms false μ p.2.2.2)) (fun p hp => ?_) (1000, 0, 0, σ) ⟨(inRk 1000 rfl), (inRk 0 rfl), (inRk 0 rfl), hok⟩
        obtain ⟨v5_10, v6_11, v7_12, σ13⟩ := p
        obtain ⟨hv5_10, hv6_11, hv7_12, hσ13⟩ := hp
        try dsimp only
        unfold Td_deletes_59_b
        refine Rk.sp (G_iload_w (pc := 59) 7 rfl dX8_deletes_59) ?_
        refine Rk.sp (G_iload_w (pc := 61) 4 rfl dX8_deletes_61) ?_
        refine Rk.icmp_ge (pc := 63) (tgt := 154) dX8_deletes_63 (nmI hv7_12) (nmI hv4_9) rfl (fun hc14 => ?_) (fun hc14 => ?_)
        · refine Rk.sp (G_aload_n (pc := 66) 0 rfl rfl dX8_deletes_66) ?_
          refine Rk.cV (pc := 67) (Cl.v [] [] dX8_deletes_67 ckX8_242 lb0 rfl rfl rfl (Nat.le_of_ble_eq_true rfl) (Nat.le_of_ble_eq_true rfl)) (k_Td_imagine σ13 hσ13) (fun σ15 hσ15 => ?_)
          refine Rk.sp (G_aload_n (pc := 70) 0 rfl rfl dX8_deletes_70) ?_
          refine Rk.gR (pc := 71) 152 flX8_45 cl8 rfl lb0 dX8_deletes_71 ?_
          refine Rk.sp (G_iload_n (pc := 74) 1 rfl rfl dX8_deletes_74) ?_
          refine Rk.sp (G_iload_w (pc := 75) 7 rfl dX8_deletes_75) ?_
          refine Rk.cV (pc := 77) (Cl.v [vi a1, vi v7_12] [] dX8_deletes_77 ckX8_312 lb152 rfl rfl rfl (Nat.le_of_ble_eq_true rfl) (Nat.le_of_ble_eq_true rfl)) (k_Co_withdrawSet a1 v7_12 σ15 ha1 hv7_12 hσ15) (fun σ16 hσ16 => ?_)
          refine Rk.sp (G_aload_n (pc := 80) 0 rfl rfl dX8_deletes_80) ?_
          refine Rk.gR (pc := 81) 152 flX8_45 cl8 rfl lb0 dX8_deletes_81 ?_
          refine Rk.sp (G_iload_n (pc := 84) 2 rfl rfl dX8_deletes_84) ?_
          refine Rk.cV (pc := 85) (Cl.v [vi a2] [] dX8_deletes_85 ckX8_147 lb152 rfl rfl rfl (Nat.le_of_ble_eq_true rfl) (Nat.le_of_ble_eq_true rfl)) (k_Co_go a2 σ16 ha2 hσ16) (fun σ17 hσ17 => ?_)
          refine Rk.sp (G_aload_n (pc := 88) 0 rfl rfl dX8_deletes_88) ?_
          refine Rk.gR (pc := 89) 153 flX8_52 cl8 rfl lb0 dX8_deletes_89 ?_
          refine Rk.gR (pc := 92) 154 flX8_95 cl6 rfl lb153 dX8_deletes_92 ?_
          refine Rk.sp (G_iconst (pc := 95) dX8_deletes_95) ?_
          refine Rk.sp (G_iload_n (pc := 96) 1 rfl rfl dX8_deletes_96) ?_
          refine Rk.sp (G_isub (pc := 97) dX8_deletes_97) ?_
          refine Rk.al (pc := 98) lb154 dX8_deletes_98 (fun hi18 => ?_)
          refine Rk.ist_w (pc := 99) 8 (fun v8_19 => [some (vr 0), some (vi a1), some (vi a2), some (vi a3), some (vi v4_9), some (vi v5_10), some (vi v6_11), some (vi v7_12), some (vi v8_19), none]) (Nat.le_of_ble_eq_true rfl) rfl dX8_deletes_99 (nmI (hσ17 _ _)) (fun _ => rfl) (fun v8_19 hv8_19 => ?_)
          refine Rk.sp (G_iload_w (pc := 101) 7 rfl dX8_deletes_101) ?_
          refine Rk.cRI (pc := 103) (Cl.s [vi v7_12] [] dX8_deletes_103 ckX8_316 rfl rfl (Nat.le_of_ble_eq_true rfl) (Nat.le_of_ble_eq_true rfl)) (k_Ji_bitCount v7_12 hv7_12) (fun r20 hr20 => ?_)
          refine Rk.sp (G_iload_w (pc := 106) 6 rfl dX8_deletes_106) ?_
          refine Rk.cRI (pc := 108) (Cl.s [vi v6_11] [vi r20] dX8_deletes_108 ckX8_316 rfl rfl (Nat.le_of_ble_eq_true rfl) (Nat.le_of_ble_eq_true rfl)) (k_Ji_bitCount v6_11 hv6_11) (fun r21 hr21 => ?_)
          refine Rk.join (P := fun p => inR p) (pcj := 119) (fun p => [some (vr 0), some (vi a1), some (vi a2), some (vi a3), some (vi v4_9), some (vi v5_10), some (vi v6_11), some (vi v7_12), some (vi v8_19), none]) (fun p => [vi p]) (fun p => (ms false μ σ17)) ?_ (fun p hp => ?_)
          · refine Rk.icmp_ge (pc := 111) (tgt := 118) dX8_deletes_111 (nmI hr20) (nmI hr21) rfl (fun hc22 => ?_) (fun hc22 => ?_)
            · refine Rk.sp (G_iconst (pc := 114) dX8_deletes_114) ?_
              refine Rk.sp (G_goto (pc := 115) (tgt := 119) dX8_deletes_115 rfl) ?_
              exact Rk.end_ (fun h => h (inRk 1 rfl))
            · refine Rk.sp (G_iconst (pc := 118) dX8_deletes_118) ?_
              exact Rk.end_ (fun h => h (inRk 0 rfl))
          · revert hp; revert p; intro t23 ht23
            try dsimp only
            refine Rk.isa_w (pc := 119) 9 (L' := [some (vr 0), some (vi a1), some (vi a2), some (vi a3), some (vi v4_9), some (vi v5_10), some (vi v6_11), some (vi v7_12), some (vi v8_19), some (vi t23)]) (Nat.le_of_ble_eq_true rfl) rfl dX8_deletes_119 rfl ?_
            refine Rk.sp (G_iload_w (pc := 121) 8 rfl dX8_deletes_121) ?_
            refine Rk.sp (G_iload_w (pc := 123) 5 rfl dX8_deletes_123) ?_
            refine Rk.icmp_lt (pc := 125) (tgt := 140) dX8_deletes_125 (nmI hv8_19) (nmI hv5_10) rfl (fun hc24 => ?_) (fun hc24 => ?_)
            · refine Rk.sp (G_iload_w (pc := 140) 8 rfl dX8_deletes_140) ?_
              refine Rk.isa_w (pc := 142) 5 (L' := [some (vr 0), some (vi a1), some (vi a2), some (vi a3), some (vi v4_9), some (vi v8_19), some (vi v6_11), some (vi v7_12), some (vi v8_19), some (vi t23)]) (Nat.le_of_ble_eq_true rfl) rfl dX8_deletes_142 rfl ?_
              refine Rk.sp (G_iload_w (pc := 144) 7 rfl dX8_deletes_144) ?_
              refine Rk.isa_w (pc := 146) 6 (L' := [some (vr 0), some (vi a1), some (vi a2), some (vi a3), some (vi v4_9), some (vi v8_19), some (vi v7_12), some (vi v7_12), some (vi v8_19), some (vi t23)]) (Nat.le_of_ble_eq_true rfl) rfl dX8_deletes_146 rfl ?_
              refine Rk.inc (pc := 148) 7 (fun v7_25 => [some (vr 0), some (vi a1), some (vi a2), some (vi a3), some (vi v4_9), some (vi v8_19), some (vi v7_12), some (vi v7_25), some (vi v8_19), some (vi t23)]) rfl (Nat.le_of_ble_eq_true rfl) rfl dX8_deletes_148 (fun _ => rfl) (fun v7_25 hv7_25 => ?_)
              refine Rk.sp (G_goto (pc := 151) (tgt := 59) dX8_deletes_151 rfl) ?_
              refine Rk.fg [true, true, true, true, true, true, true, true, false, false] (L' := [some (vr 0), some (vi a1), some (vi a2), some (vi a3), some (vi v4_9), some (vi v8_19), some (vi v7_12), some (vi v7_25), none, none]) rfl ?_
              exact Rk.end_ (fun h => h ⟨hv8_19, hv7_12, hv7_25, hσ17⟩)
            · refine Rk.sp (G_iload_w (pc := 128) 8 rfl dX8_deletes_128) ?_
              refine Rk.sp (G_iload_w (pc := 130) 5 rfl dX8_deletes_130) ?_
              refine Rk.icmp_ne (pc := 132) (tgt := 148) dX8_deletes_132 (nmI hv8_19) (nmI hv5_10) rfl (fun hc26 => ?_) (fun hc26 => ?_)
              · refine Rk.sp (G_iload_w (pc := 135) 9 rfl dX8_deletes_135) ?_
                refine Rk.if_eq (pc := 137) (tgt := 148) dX8_deletes_137 (nmI ht23) rfl (fun hc27 => ?_) (fun hc27 => ?_)
                · refine Rk.inc (pc := 148) 7 (fun v7_28 => [some (vr 0), some (vi a1), some (vi a2), some (vi a3), some (vi v4_9), some (vi v5_10), some (vi v6_11), some (vi v7_28), some (vi v8_19), some (vi t23)]) rfl (Nat.le_of_ble_eq_true rfl) rfl dX8_deletes_148 (fun _ => rfl) (fun v7_28 hv7_28 => ?_)
                  refine Rk.sp (G_goto (pc := 151) (tgt := 59) dX8_deletes_151 rfl) ?_
                  refine Rk.fg [true, true, true, true, true, true, true, true, false, false] (L' := [some (vr 0), some (vi a1), some (vi a2), some (vi a3), some (vi v4_9), some (vi v5_10), some (vi v6_11), some (vi v7_28), none, none]) rfl ?_
                  exact Rk.end_ (fun h => h ⟨hv5_10, hv6_11, hv7_28, hσ17⟩)
                · refine Rk.sp (G_iload_w (pc := 140) 8 rfl dX8_deletes_140) ?_
                  refine Rk.isa_w (pc := 142) 5 (L' := [some (vr 0), some (vi a1), some (vi a2), some (vi a3), some (vi v4_9), some (vi v8_19), some (vi v6_11), some (vi v7_12), some (vi v8_19), some (vi t23)]) (Nat.le_of_ble_eq_true rfl) rfl dX8_deletes_142 rfl ?_
                  refine Rk.sp (G_iload_w (pc := 144) 7 rfl dX8_deletes_144) ?_
                  refine Rk.isa_w (pc := 146) 6 (L' := [some (vr 0), some (vi a1), some (vi a2), some (vi a3), some (vi v4_9), some (vi v8_19), some (vi v7_12), some (vi v7_12), some (vi v8_19), some (vi t23)]) (Nat.le_of_ble_eq_true rfl) rfl dX8_deletes_146 rfl ?_
                  refine Rk.inc (pc := 148) 7 (fun v7_29 => [some (vr 0), some (vi a1), some (vi a2), some (vi a3), some (vi v4_9), some (vi v8_19), some (vi v7_12), some (vi v7_29), some (vi v8_19), some (vi t23)]) rfl (Nat.le_of_ble_eq_true rfl) rfl dX8_deletes_148 (fun _ => rfl) (fun v7_29 hv7_29 => ?_)
                  refine Rk.sp (G_goto (pc := 151) (tgt := 59) dX8_deletes_151 rfl) ?_
                  refine Rk.fg [true, true, true, true, true, true, true, true, false, false] (L' := [some (vr 0), some (vi a1), some (vi a2), some (vi a3), some (vi v4_9), some (vi v8_19), some (vi v7_12), some (vi v7_29), none, none]) rfl ?_
                  exact Rk.end_ (fun h => h ⟨hv8_19, hv7_12, hv7_29, hσ17⟩)
              · refine Rk.inc (pc := 148) 7 (fun v7_30 => [some (vr 0), some (vi a1), some (vi a2), some (vi a3), some (vi v4_9), some (vi v5_10), some (vi v6_11), some (vi v7_30), some (vi v8_19), some (vi t23)]) rfl (Nat.le_of_ble_eq_true rfl) rfl dX8_deletes_148 (fun _ => rfl) (fun v7_30 hv7_30 => ?_)
                refine Rk.sp (G_goto (pc := 151) (tgt := 59) dX8_deletes_151 rfl) ?_
                refine Rk.fg [true, true, true, true, true, true, true, true, false, false] (L' := [some (vr 0), some (vi a1), some (vi a2), some (vi a3), some (vi v4_9), some (vi v5_10), some (vi v6_11), some (vi v7_30), none, none]) rfl ?_
                exact Rk.end_ (fun h => h ⟨hv5_10, hv6_11, hv7_30, hσ17⟩)
        · refine Rk.sp (G_iload_n (pc := 154) 3 rfl rfl dX8_deletes_154) ?_
          refine Rk.if_ne (pc := 155) (tgt := 163) dX8_deletes_155 (nmI ha3) rfl (fun hc31 => ?_) (fun hc31 => ?_)
          · refine Rk.sp (G_iload_w (pc := 158) 5 rfl dX8_deletes_158) ?_
            refine Rk.sp (G_goto (pc := 160) (tgt := 165) dX8_deletes_160 rfl) ?_
            exact Rk.end_ (fun h => G_ireturn (pc := 165) rfl dX8_deletes_165 (q_I h hv5_10 hσ13))
          · refine Rk.sp (G_iload_w (pc := 163) 6 rfl dX8_deletes_163) ?_
            exact Rk.end_ (fun h => G_ireturn (pc := 165) rfl dX8_deletes_165 (q_I h hv6_11 hσ13))
theorem k_Gl_longestFall {κ : Kx} {μ : Sg} (a1 : Nat) (a2 : Int) (σ : Sg) (ha1 : LB false a1 (1, 6)) (ha2 : inR a2) (hok : okS σ) : CtI κ mX1_longestFall 1 [vr 166, vr a1, vi a2] false μ σ (Gl_longestFall a1 a2 σ) := by
  intro r τ h
  refine con_of (by decide) (Nat.le_of_ble_eq_true rfl) 5 ?_
  refine (?_ : Rk κ mX1_longestFall _ 0 [some (vr 166), some (vr a1), some (vi a2), none, none, none, none, none] [] (ms false μ σ) (Gl_longestFall a1 a2 σ) (fun a => a = (r, τ))) _ h rfl
  unfold Gl_longestFall
  refine Rk.sp (G_iconst (pc := 0) dX1_longestFall_0) ?_
  refine Rk.isa_n (pc := 1) 3 (L' := [some (vr 166), some (vr a1), some (vi a2), some (vi 0), none, none, none, none]) rfl (Nat.le_of_ble_eq_true rfl) rfl dX1_longestFall_1 rfl ?_
  refine Rk.loop (pc := 2) (B := (fun p => Gl_longestFall_2_b a1 a2 p.1 p.2)) (fun p => inR p.1 ∧ okS p.2) (fun p => [some (vr 166), some (vr a1), some (vi a2), some (vi p.1), none, none, none, none]) (fun p => (ms false μ p.2)) (fun p hp => ?_) (0, σ) ⟨(inRk 0 rfl), hok⟩
  obtain ⟨v3_1, σ2⟩ := p
  obtain ⟨hv3_1, hσ2⟩ := hp
  try dsimp only
  unfold Gl_longestFall_2_b
  refine Rk.sp (G_iload_n (pc := 2) 3 rfl rfl dX1_longestFall_2) ?_
  refine Rk.sp (G_aload_n (pc := 3) 0 rfl rfl dX1_longestFall_3) ?_
  refine Rk.gR (pc := 4) 168 flX1_17 cl1 rfl lb166 dX1_longestFall_4 ?_
  refine Rk.sp (G_arrlen (pc := 7) (lb168).1 dX1_longestFall_7) ?_
  refine Rk.icmp_ge (pc := 8) (tgt := 24) dX1_longestFall_8 (nmI hv3_1) (nmI (inRk 10 rfl)) rfl (fun hc3 => ?_) (fun hc3 => ?_)
  · refine Rk.sp (G_aload_n (pc := 11) 0 rfl rfl dX1_longestFall_11) ?_
    refine Rk.gR (pc := 12) 168 flX1_17 cl1 rfl lb166 dX1_longestFall_12 ?_
    refine Rk.sp (G_iload_n (pc := 15) 3 rfl rfl dX1_longestFall_15) ?_
    refine Rk.sp (G_iconst (pc := 16) dX1_longestFall_16) ?_
    refine Rk.as (pc := 17) hσ2 (nmI (inRk 0 rfl)) lb168 dX1_longestFall_17 (fun hi5 σ4 hσ4 => ?_)
    refine Rk.inc (pc := 18) 3 (fun v3_6 => [some (vr 166), some (vr a1), some (vi a2), some (vi v3_6), none, none, none, none]) rfl (Nat.le_of_ble_eq_true rfl) rfl dX1_longestFall_18 (fun _ => rfl) (fun v3_6 hv3_6 => ?_)
    refine Rk.sp (G_goto (pc := 21) (tgt := 2) dX1_longestFall_21 rfl) ?_
    exact Rk.end_ (fun h => h ⟨hv3_6, hσ4⟩)
  · refine Rk.sp (G_iconst (pc := 24) dX1_longestFall_24) ?_
    refine Rk.isa_n (pc := 25) 3 (L' := [some (vr 166), some (vr a1), some (vi a2), some (vi 0), none, none, none, none]) rfl (Nat.le_of_ble_eq_true rfl) rfl dX1_longestFall_25 rfl ?_
    refine Rk.sp (G_iconst (pc := 26) dX1_longestFall_26) ?_
    refine Rk.isa_w (pc := 27) 4 (L' := [some (vr 166), some (vr a1), some (vi a2), some (vi 0), some (vi 0), none, none, none]) (Nat.le_of_ble_eq_true rfl) rfl dX1_longestFall_27 rfl ?_
    refine Rk.loop (pc := 29) (B := (fun p => Gl_longestFall_29_b a1 a2 p.1 p.2.1 p.2.2)) (fun p => inR p.1 ∧ inR p.2.1 ∧ okS p.2.2) (fun p => [some (vr 166), some (vr a1), some (vi a2), some (vi p.1), some (vi p.2.1), none, none, none]) (fun p => (ms false μ p.2.2)) (fun p hp => ?_) (0, 0, σ2) ⟨(inRk 0 rfl), (inRk 0 rfl), hσ2⟩
    obtain ⟨v3_7, v4_8, σ9⟩ := p
    obtain ⟨hv3_7, hv4_8, hσ9⟩ := hp
    try dsimp only
    unfold Gl_longestFall_29_b
    refine Rk.sp (G_iload_w (pc := 29) 4 rfl dX1_longestFall_29) ?_
    refine Rk.sp (G_aload_n (pc := 31) 1 rfl rfl dX1_longestFall_31) ?_
    refine Rk.gI (pc := 32) flX1_26 cl6 rfl ha1 dX1_longestFall_32 ?_
    refine Rk.icmp_ge (pc := 35) (tgt := 158) dX1_longestFall_35 (nmI hv4_8) (nmI (hσ9 _ _)) rfl (fun hc10 => ?_) (fun hc10 => ?_)
    · refine Rk.sp (G_aload_n (pc := 38) 1 rfl rfl dX1_longestFall_38) ?_
      refine Rk.gR (pc := 39) (a1 + 8) flX1_33 cl6 rfl ha1 dX1_longestFall_39 ?_
      refine Rk.sp (G_iload_w (pc := 42) 4 rfl dX1_longestFall_42) ?_
      refine Rk.al (pc := 44) (LBt ha1 8 (by decide)) dX1_longestFall_44 (fun hi11 => ?_)
      refine Rk.ist_w (pc := 45) 5 (fun v5_12 => [some (vr 166), some (vr a1), some (vi a2), some (vi v3_7), some (vi v4_8), some (vi v5_12), none, none]) (Nat.le_of_ble_eq_true rfl) rfl dX1_longestFall_45 (nmI (hσ9 _ _)) (fun _ => rfl) (fun v5_12 hv5_12 => ?_)
      refine Rk.sp (G_aload_n (pc := 47) 1 rfl rfl dX1_longestFall_47) ?_
      refine Rk.gR (pc := 48) (a1 + 4) flX1_40 cl6 rfl ha1 dX1_longestFall_48 ?_
      refine Rk.sp (G_iload_w (pc := 51) 4 rfl dX1_longestFall_51) ?_
      refine Rk.al (pc := 53) (LBt ha1 4 (by decide)) dX1_longestFall_53 (fun hi13 => ?_)
      refine Rk.sp (G_iload_n (pc := 54) 2 rfl rfl dX1_longestFall_54) ?_
      refine Rk.icmp_ne (pc := 55) (tgt := 152) dX1_longestFall_55 (nmI (hσ9 _ _)) (nmI ha2) rfl (fun hc14 => ?_) (fun hc14 => ?_)
      · refine Rk.sp (G_aload_n (pc := 58) 1 rfl rfl dX1_longestFall_58) ?_
        refine Rk.gR (pc := 59) (a1 + 11) flX1_57 cl6 rfl ha1 dX1_longestFall_59 ?_
        refine Rk.sp (G_iload_w (pc := 62) 4 rfl dX1_longestFall_62) ?_
        refine Rk.al (pc := 64) (LBt ha1 11 (by decide)) dX1_longestFall_64 (fun hi15 => ?_)
        refine Rk.if_ne (pc := 65) (tgt := 152) dX1_longestFall_65 (nmI (hσ9 _ _)) rfl (fun hc16 => ?_) (fun hc16 => ?_)
        · refine Rk.sp (G_iload_w (pc := 68) 5 rfl dX1_longestFall_68) ?_
          refine Rk.if_lt (pc := 70) (tgt := 152) dX1_longestFall_70 (nmI hv5_12) rfl (fun hc17 => ?_) (fun hc17 => ?_)
          · refine Rk.inc (pc := 152) 4 (fun v4_18 => [some (vr 166), some (vr a1), some (vi a2), some (vi v3_7), some (vi v4_18), some (vi v5_12), none, none]) rfl (Nat.le_of_ble_eq_true rfl) rfl dX1_longestFall_152 (fun _ => rfl) (fun v4_18 hv4_18 => ?_)
            refine Rk.sp (G_goto (pc := 155) (tgt := 29) dX1_longestFall_155 rfl) ?_
            refine Rk.fg [true, true, true, true, true, false, false, false] (L' := [some (vr 166), some (vr a1), some (vi a2), some (vi v3_7), some (vi v4_18), none, none, none]) rfl ?_
            exact Rk.end_ (fun h => h ⟨hv3_7, hv4_18, hσ9⟩)
          · refine Rk.sp (G_iload_w (pc := 73) 5 rfl dX1_longestFall_73) ?_
            refine Rk.sp (G_aload_n (pc := 75) 0 rfl rfl dX1_longestFall_75) ?_
            refine Rk.gR (pc := 76) 168 flX1_17 cl1 rfl lb166 dX1_longestFall_76 ?_
            refine Rk.sp (G_arrlen (pc := 79) (lb168).1 dX1_longestFall_79) ?_
            refine Rk.icmp_ge (pc := 80) (tgt := 152) dX1_longestFall_80 (nmI hv5_12) (nmI (inRk 10 rfl)) rfl (fun hc19 => ?_) (fun hc19 => ?_)
            · refine Rk.sp (G_iconst (pc := 83) dX1_longestFall_83) ?_
              refine Rk.isa_w (pc := 84) 6 (L' := [some (vr 166), some (vr a1), some (vi a2), some (vi v3_7), some (vi v4_8), some (vi v5_12), some (vi 0), none]) (Nat.le_of_ble_eq_true rfl) rfl dX1_longestFall_84 rfl ?_
              refine Rk.sp (G_iload_w (pc := 86) 5 rfl dX1_longestFall_86) ?_
              refine Rk.sp (G_iconst (pc := 88) dX1_longestFall_88) ?_
              refine Rk.sp (G_iadd (pc := 89) dX1_longestFall_89) ?_
              refine Rk.ist_w (pc := 90) 7 (fun v7_20 => [some (vr 166), some (vr a1), some (vi a2), some (vi v3_7), some (vi v4_8), some (vi v5_12), some (vi 0), some (vi v7_20)]) (Nat.le_of_ble_eq_true rfl) rfl dX1_longestFall_90 (nmW _) (fun _ => rfl) (fun v7_20 hv7_20 => ?_)
              refine Rk.loop (pc := 92) (B := (fun p => Gl_longestFall_92_b σ9 v5_12 v3_7 v4_8 p.1 p.2)) (fun p => inR p.1 ∧ inR p.2) (fun p => [some (vr 166), some (vr a1), some (vi a2), some (vi v3_7), some (vi v4_8), some (vi v5_12), some (vi p.1), some (vi p.2)]) (fun p => (ms false μ σ9)) (fun p hp => ?_) (0, v7_20) ⟨(inRk 0 rfl), hv7_20⟩
              obtain ⟨v6_21, v7_22⟩ := p
              obtain ⟨hv6_21, hv7_22⟩ := hp
              try dsimp only
              unfold Gl_longestFall_92_b
              refine Rk.sp (G_iload_w (pc := 92) 7 rfl dX1_longestFall_92) ?_
              refine Rk.sp (G_aload_n (pc := 94) 0 rfl rfl dX1_longestFall_94) ?_
              refine Rk.gR (pc := 95) 168 flX1_17 cl1 rfl lb166 dX1_longestFall_95 ?_
              refine Rk.sp (G_arrlen (pc := 98) (lb168).1 dX1_longestFall_98) ?_
              refine Rk.icmp_ge (pc := 99) (tgt := 122) dX1_longestFall_99 (nmI hv7_22) (nmI (inRk 10 rfl)) rfl (fun hc23 => ?_) (fun hc23 => ?_)
              · refine Rk.sp (G_iload_w (pc := 102) 6 rfl dX1_longestFall_102) ?_
                refine Rk.sp (G_aload_n (pc := 104) 0 rfl rfl dX1_longestFall_104) ?_
                refine Rk.gR (pc := 105) 168 flX1_17 cl1 rfl lb166 dX1_longestFall_105 ?_
                refine Rk.sp (G_iload_w (pc := 108) 7 rfl dX1_longestFall_108) ?_
                refine Rk.al (pc := 110) lb168 dX1_longestFall_110 (fun hi24 => ?_)
                refine Rk.mmax (pc := 111) cmmX1_51 hv6_21 (hσ9 _ _) (Nat.le_of_ble_eq_true rfl) (Nat.le_of_ble_eq_true rfl) dX1_longestFall_111 (fun r25 hr25 => ?_)
                refine Rk.isa_w (pc := 114) 6 (L' := [some (vr 166), some (vr a1), some (vi a2), some (vi v3_7), some (vi v4_8), some (vi v5_12), some (vi r25), some (vi v7_22)]) (Nat.le_of_ble_eq_true rfl) rfl dX1_longestFall_114 rfl ?_
                refine Rk.inc (pc := 116) 7 (fun v7_26 => [some (vr 166), some (vr a1), some (vi a2), some (vi v3_7), some (vi v4_8), some (vi v5_12), some (vi r25), some (vi v7_26)]) rfl (Nat.le_of_ble_eq_true rfl) rfl dX1_longestFall_116 (fun _ => rfl) (fun v7_26 hv7_26 => ?_)
                refine Rk.sp (G_goto (pc := 119) (tgt := 92) dX1_longestFall_119 rfl) ?_
                exact Rk.end_ (fun h => h ⟨hr25, hv7_26⟩)
              · refine Rk.sp (G_aload_n (pc := 122) 0 rfl rfl dX1_longestFall_122) ?_
                refine Rk.gR (pc := 123) 168 flX1_17 cl1 rfl lb166 dX1_longestFall_123 ?_
                refine Rk.sp (G_iload_w (pc := 126) 5 rfl dX1_longestFall_126) ?_
                refine Rk.sp (G_aload_n (pc := 128) 0 rfl rfl dX1_longestFall_128) ?_
                refine Rk.gR (pc := 129) 168 flX1_17 cl1 rfl lb166 dX1_longestFall_129 ?_
                refine Rk.sp (G_iload_w (pc := 132) 5 rfl dX1_longestFall_132) ?_
                refine Rk.al (pc := 134) lb168 dX1_longestFall_134 (fun hi27 => ?_)
                refine Rk.sp (G_iload_w (pc := 135) 6 rfl dX1_longestFall_135) ?_
                refine Rk.sp (G_iconst (pc := 137) dX1_longestFall_137) ?_
                refine Rk.sp (G_iadd (pc := 138) dX1_longestFall_138) ?_
                refine Rk.sp (Go.n0 (nmW _)) ?_
                refine Rk.mmax (pc := 139) cmmX1_51 (hσ9 _ _) (wrR _) (Nat.le_of_ble_eq_true rfl) (Nat.le_of_ble_eq_true rfl) dX1_longestFall_139 (fun r28 hr28 => ?_)
                refine Rk.as (pc := 142) hσ9 (nmI hr28) lb168 dX1_longestFall_142 (fun hi30 σ29 hσ29 => ?_)
                refine Rk.sp (G_iload_n (pc := 143) 3 rfl rfl dX1_longestFall_143) ?_
                refine Rk.sp (G_iload_w (pc := 144) 6 rfl dX1_longestFall_144) ?_
                refine Rk.sp (G_iconst (pc := 146) dX1_longestFall_146) ?_
                refine Rk.sp (G_iadd (pc := 147) dX1_longestFall_147) ?_
                refine Rk.sp (Go.n0 (nmW _)) ?_
                refine Rk.mmax (pc := 148) cmmX1_51 hv3_7 (wrR _) (Nat.le_of_ble_eq_true rfl) (Nat.le_of_ble_eq_true rfl) dX1_longestFall_148 (fun r31 hr31 => ?_)
                refine Rk.isa_n (pc := 151) 3 (L' := [some (vr 166), some (vr a1), some (vi a2), some (vi r31), some (vi v4_8), some (vi v5_12), some (vi v6_21), some (vi v7_22)]) rfl (Nat.le_of_ble_eq_true rfl) rfl dX1_longestFall_151 rfl ?_
                refine Rk.inc (pc := 152) 4 (fun v4_32 => [some (vr 166), some (vr a1), some (vi a2), some (vi r31), some (vi v4_32), some (vi v5_12), some (vi v6_21), some (vi v7_22)]) rfl (Nat.le_of_ble_eq_true rfl) rfl dX1_longestFall_152 (fun _ => rfl) (fun v4_32 hv4_32 => ?_)
                refine Rk.sp (G_goto (pc := 155) (tgt := 29) dX1_longestFall_155 rfl) ?_
                refine Rk.fg [true, true, true, true, true, false, false, false] (L' := [some (vr 166), some (vr a1), some (vi a2), some (vi r31), some (vi v4_32), none, none, none]) rfl ?_
                exact Rk.end_ (fun h => h ⟨hr31, hv4_32, hσ29⟩)
            · refine Rk.inc (pc := 152) 4 (fun v4_33 => [some (vr 166), some (vr a1), some (vi a2), some (vi v3_7), some (vi v4_33), some (vi v5_12), none, none]) rfl (Nat.le_of_ble_eq_true rfl) rfl dX1_longestFall_152 (fun _ => rfl) (fun v4_33 hv4_33 => ?_)
              refine Rk.sp (G_goto (pc := 155) (tgt := 29) dX1_longestFall_155 rfl) ?_
              refine Rk.fg [true, true, true, true, true, false, false, false] (L' := [some (vr 166), some (vr a1), some (vi a2), some (vi v3_7), some (vi v4_33), none, none, none]) rfl ?_
              exact Rk.end_ (fun h => h ⟨hv3_7, hv4_33, hσ9⟩)
        · refine Rk.inc (pc := 152) 4 (fun v4_34 => [some (vr 166), some (vr a1), some (vi a2), some (vi v3_7), some (vi v4_34), some (vi v5_12), none, none]) rfl (Nat.le_of_ble_eq_true rfl) rfl dX1_longestFall_152 (fun _ => rfl) (fun v4_34 hv4_34 => ?_)
          refine Rk.sp (G_goto (pc := 155) (tgt := 29) dX1_longestFall_155 rfl) ?_
          refine Rk.fg [true, true, true, true, true, false, false, false] (L' := [some (vr 166), some (vr a1), some (vi a2), some (vi v3_7), some (vi v4_34), none, none, none]) rfl ?_
          exact Rk.end_ (fun h => h ⟨hv3_7, hv4_34, hσ9⟩)
      · refine Rk.inc (pc := 152) 4 (fun v4_35 => [some (vr 166), some (vr a1), some (vi a2), some (vi v3_7), some (vi v4_35), some (vi v5_12), none, none]) rfl (Nat.le_of_ble_eq_true rfl) rfl dX1_longestFall_152 (fun _ => rfl) (fun v4_35 hv4_35 => ?_)
        refine Rk.sp (G_goto (pc := 155) (tgt := 29) dX1_longestFall_155 rfl) ?_
        refine Rk.fg [true, true, true, true, true, false, false, false] (L' := [some (vr 166), some (vr a1), some (vi a2), some (vi v3_7), some (vi v4_35), none, none, none]) rfl ?_
        exact Rk.end_ (fun h => h ⟨hv3_7, hv4_35, hσ9⟩)
    · refine Rk.sp (G_iload_n (pc := 158) 3 rfl rfl dX1_longestFall_158) ?_
      exact Rk.end_ (fun h => G_ireturn (pc := 159) rfl dX1_longestFall_159 (q_I h hv3_7 hσ9))
