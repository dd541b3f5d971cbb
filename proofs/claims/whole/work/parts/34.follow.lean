theorem k_Ta_isAnswer {κ : Kx} {μ : Sg} (t0 : Nat) (a1 : Int) (σ : Sg) (ht0 : LB false t0 (1, 6)) (ha1 : inR a1) (hok : okS σ) : CtRZ κ mX6_isAnswer 1 [vr t0, vi a1] false μ σ (Ta_isAnswer t0 a1 σ) := by
  intro r h
  refine con_of (by decide) (Nat.le_of_ble_eq_true rfl) 0 ?_
  refine (?_ : Rk κ mX6_isAnswer _ 0 [some (vr t0), some (vi a1)] [] (ms false μ σ) (Ta_isAnswer t0 a1 σ) (fun a => a = r)) _ h rfl
  unfold Ta_isAnswer
  refine Rk.sp (G_aload_n (pc := 0) 0 rfl rfl dX6_isAnswer_0) ?_
  refine Rk.gR (pc := 1) (t0 + 11) flX6_42 cl6 rfl ht0 dX6_isAnswer_1 ?_
  refine Rk.sp (G_iload_n (pc := 4) 1 rfl rfl dX6_isAnswer_4) ?_
  refine Rk.al (pc := 5) (LBt ht0 11 (by decide)) dX6_isAnswer_5 (fun hi1 => ?_)
  refine Rk.if_ne (pc := 6) (tgt := 26) dX6_isAnswer_6 (nmI (hok _ _)) rfl (fun hc2 => ?_) (fun hc2 => ?_)
  · refine Rk.sp (G_aload_n (pc := 9) 0 rfl rfl dX6_isAnswer_9) ?_
    refine Rk.sp (G_aload_n (pc := 10) 0 rfl rfl dX6_isAnswer_10) ?_
    refine Rk.gR (pc := 11) (t0 + 10) flX6_39 cl6 rfl ht0 dX6_isAnswer_11 ?_
    refine Rk.sp (G_iload_n (pc := 14) 1 rfl rfl dX6_isAnswer_14) ?_
    refine Rk.al (pc := 15) (LBt ht0 10 (by decide)) dX6_isAnswer_15 (fun hi3 => ?_)
    refine Rk.cRZ (pc := 16) (Cl.v [vi (σ (t0 + 10) (a1).toNat)] [] dX6_isAnswer_16 ckX6_81 ht0 rfl rfl rfl (Nat.le_of_ble_eq_true rfl) (Nat.le_of_ble_eq_true rfl)) (k_Ta_has t0 (σ (t0 + 10) (a1).toNat) σ ht0 (hok _ _) hok) (fun r4 hr4 => ?_)
    refine Rk.if_eq (pc := 19) (tgt := 26) dX6_isAnswer_19 (nmI (inZ.R hr4)) rfl (fun hc5 => ?_) (fun hc5 => ?_)
    · refine Rk.sp (G_iconst (pc := 26) dX6_isAnswer_26) ?_
      exact Rk.end_ (fun h => G_zreturn (pc := 27) rfl (nz inZ0) dX6_isAnswer_27 (q_RZ h inZ0))
    · refine Rk.sp (G_iconst (pc := 22) dX6_isAnswer_22) ?_
      refine Rk.sp (G_goto (pc := 23) (tgt := 27) dX6_isAnswer_23 rfl) ?_
      exact Rk.end_ (fun h => G_zreturn (pc := 27) rfl (nz inZ1) dX6_isAnswer_27 (q_RZ h inZ1))
  · refine Rk.sp (G_iconst (pc := 26) dX6_isAnswer_26) ?_
    exact Rk.end_ (fun h => G_zreturn (pc := 27) rfl (nz inZ0) dX6_isAnswer_27 (q_RZ h inZ0))
theorem k_Ta_pauseOf {κ : Kx} {μ : Sg} (t0 : Nat) (a1 : Int) (σ : Sg) (ht0 : LB false t0 (1, 6)) (ha1 : inR a1) (hok : okS σ) : CtRI κ mX6_pauseOf 1 [vr t0, vi a1] false μ σ (Ta_pauseOf t0 a1 σ) := by
  intro r h
  refine con_of (by decide) (Nat.le_of_ble_eq_true rfl) 0 ?_
  refine (?_ : Rk κ mX6_pauseOf _ 0 [some (vr t0), some (vi a1)] [] (ms false μ σ) (Ta_pauseOf t0 a1 σ) (fun a => a = r)) _ h rfl
  unfold Ta_pauseOf
  refine Rk.sp (G_aload_n (pc := 0) 0 rfl rfl dX6_pauseOf_0) ?_
  refine Rk.sp (G_aload_n (pc := 1) 0 rfl rfl dX6_pauseOf_1) ?_
  refine Rk.gR (pc := 2) (t0 + 10) flX6_39 cl6 rfl ht0 dX6_pauseOf_2 ?_
  refine Rk.sp (G_iload_n (pc := 5) 1 rfl rfl dX6_pauseOf_5) ?_
  refine Rk.al (pc := 6) (LBt ht0 10 (by decide)) dX6_pauseOf_6 (fun hi1 => ?_)
  refine Rk.cRZ (pc := 7) (Cl.v [vi (σ (t0 + 10) (a1).toNat)] [] dX6_pauseOf_7 ckX6_81 ht0 rfl rfl rfl (Nat.le_of_ble_eq_true rfl) (Nat.le_of_ble_eq_true rfl)) (k_Ta_has t0 (σ (t0 + 10) (a1).toNat) σ ht0 (hok _ _) hok) (fun r2 hr2 => ?_)
  refine Rk.if_eq (pc := 10) (tgt := 34) dX6_pauseOf_10 (nmI (inZ.R hr2)) rfl (fun hc3 => ?_) (fun hc3 => ?_)
  · refine Rk.sp (G_iconst (pc := 34) dX6_pauseOf_34) ?_
    exact Rk.end_ (fun h => G_ireturn (pc := 35) rfl dX6_pauseOf_35 (q_RI h (inRk 0 rfl)))
  · refine Rk.sp (G_aload_n (pc := 13) 0 rfl rfl dX6_pauseOf_13) ?_
    refine Rk.gR (pc := 14) (t0 + 5) flX6_24 cl6 rfl ht0 dX6_pauseOf_14 ?_
    refine Rk.sp (G_iload_n (pc := 17) 1 rfl rfl dX6_pauseOf_17) ?_
    refine Rk.al (pc := 18) (LBt ht0 5 (by decide)) dX6_pauseOf_18 (fun hi4 => ?_)
    refine Rk.sp (G_aload_n (pc := 19) 0 rfl rfl dX6_pauseOf_19) ?_
    refine Rk.gR (pc := 20) (t0 + 5) flX6_24 cl6 rfl ht0 dX6_pauseOf_20 ?_
    refine Rk.sp (G_aload_n (pc := 23) 0 rfl rfl dX6_pauseOf_23) ?_
    refine Rk.gR (pc := 24) (t0 + 10) flX6_39 cl6 rfl ht0 dX6_pauseOf_24 ?_
    refine Rk.sp (G_iload_n (pc := 27) 1 rfl rfl dX6_pauseOf_27) ?_
    refine Rk.al (pc := 28) (LBt ht0 10 (by decide)) dX6_pauseOf_28 (fun hi5 => ?_)
    refine Rk.al (pc := 29) (LBt ht0 5 (by decide)) dX6_pauseOf_29 (fun hi6 => ?_)
    refine Rk.sp (G_isub (pc := 30) dX6_pauseOf_30) ?_
    refine Rk.sp (G_goto (pc := 31) (tgt := 35) dX6_pauseOf_31 rfl) ?_
    refine Rk.sp (Go.n0 (nmW _)) ?_
    exact Rk.end_ (fun h => G_ireturn (pc := 35) rfl dX6_pauseOf_35 (q_RI h (wrR _)))
theorem k_Gl_pauseSum {κ : Kx} {μ : Sg} (a1 : Nat) (a2 : Int) (σ : Sg) (ha1 : LB false a1 (1, 6)) (ha2 : inR a2) (hok : okS σ) : CtRI κ mX1_pauseSum 2 [vr 166, vr a1, vi a2] false μ σ (Gl_pauseSum a1 a2 σ) := by
  intro r h
  refine con_of (by decide) (Nat.le_of_ble_eq_true rfl) 2 ?_
  refine (?_ : Rk κ mX1_pauseSum _ 0 [some (vr 166), some (vr a1), some (vi a2), none, none] [] (ms false μ σ) (Gl_pauseSum a1 a2 σ) (fun a => a = r)) _ h rfl
  unfold Gl_pauseSum
  refine Rk.sp (G_iconst (pc := 0) dX1_pauseSum_0) ?_
  refine Rk.isa_n (pc := 1) 3 (L' := [some (vr 166), some (vr a1), some (vi a2), some (vi 0), none]) rfl (Nat.le_of_ble_eq_true rfl) rfl dX1_pauseSum_1 rfl ?_
  refine Rk.sp (G_iconst (pc := 2) dX1_pauseSum_2) ?_
  refine Rk.isa_w (pc := 3) 4 (L' := [some (vr 166), some (vr a1), some (vi a2), some (vi 0), some (vi 0)]) (Nat.le_of_ble_eq_true rfl) rfl dX1_pauseSum_3 rfl ?_
  refine Rk.fg [false, true, true, true, true] (L' := [none, some (vr a1), some (vi a2), some (vi 0), some (vi 0)]) rfl ?_
  refine Rk.loop (pc := 5) (B := (fun p => Gl_pauseSum_5_b σ a1 a2 p.1 p.2)) (fun p => inR p.1 ∧ inR p.2) (fun p => [none, some (vr a1), some (vi a2), some (vi p.1), some (vi p.2)]) (fun p => (ms false μ σ)) (fun p hp => ?_) (0, 0) ⟨(inRk 0 rfl), (inRk 0 rfl)⟩
  obtain ⟨v3_1, v4_2⟩ := p
  obtain ⟨hv3_1, hv4_2⟩ := hp
  try dsimp only
  unfold Gl_pauseSum_5_b
  refine Rk.sp (G_iload_w (pc := 5) 4 rfl dX1_pauseSum_5) ?_
  refine Rk.sp (G_aload_n (pc := 7) 1 rfl rfl dX1_pauseSum_7) ?_
  refine Rk.gI (pc := 8) flX1_26 cl6 rfl ha1 dX1_pauseSum_8 ?_
  refine Rk.icmp_ge (pc := 11) (tgt := 53) dX1_pauseSum_11 (nmI hv4_2) (nmI (hok _ _)) rfl (fun hc3 => ?_) (fun hc3 => ?_)
  · refine Rk.sp (G_iload_n (pc := 14) 3 rfl rfl dX1_pauseSum_14) ?_
    refine Rk.sp (G_aload_n (pc := 15) 1 rfl rfl dX1_pauseSum_15) ?_
    refine Rk.gR (pc := 16) (a1 + 4) flX1_40 cl6 rfl ha1 dX1_pauseSum_16 ?_
    refine Rk.sp (G_iload_w (pc := 19) 4 rfl dX1_pauseSum_19) ?_
    refine Rk.al (pc := 21) (LBt ha1 4 (by decide)) dX1_pauseSum_21 (fun hi4 => ?_)
    refine Rk.sp (G_iload_n (pc := 22) 2 rfl rfl dX1_pauseSum_22) ?_
    refine Rk.icmp_ne (pc := 23) (tgt := 44) dX1_pauseSum_23 (nmI (hok _ _)) (nmI ha2) rfl (fun hc5 => ?_) (fun hc5 => ?_)
    · refine Rk.sp (G_aload_n (pc := 26) 1 rfl rfl dX1_pauseSum_26) ?_
      refine Rk.sp (G_iload_w (pc := 27) 4 rfl dX1_pauseSum_27) ?_
      refine Rk.cRZ (pc := 29) (Cl.v [vi v4_2] [vi v3_1] dX1_pauseSum_29 ckX1_43 ha1 rfl rfl rfl (Nat.le_of_ble_eq_true rfl) (Nat.le_of_ble_eq_true rfl)) (k_Ta_isAnswer a1 v4_2 σ ha1 hv4_2 hok) (fun r6 hr6 => ?_)
      refine Rk.if_eq (pc := 32) (tgt := 44) dX1_pauseSum_32 (nmI (inZ.R hr6)) rfl (fun hc7 => ?_) (fun hc7 => ?_)
      · refine Rk.sp (G_iconst (pc := 44) dX1_pauseSum_44) ?_
        refine Rk.sp (G_iadd (pc := 45) dX1_pauseSum_45) ?_
        refine Rk.ist_n (pc := 46) 3 (fun v3_8 => [none, some (vr a1), some (vi a2), some (vi v3_8), some (vi v4_2)]) rfl (Nat.le_of_ble_eq_true rfl) rfl dX1_pauseSum_46 (nmW _) (fun _ => rfl) (fun v3_8 hv3_8 => ?_)
        refine Rk.inc (pc := 47) 4 (fun v4_9 => [none, some (vr a1), some (vi a2), some (vi v3_8), some (vi v4_9)]) rfl (Nat.le_of_ble_eq_true rfl) rfl dX1_pauseSum_47 (fun _ => rfl) (fun v4_9 hv4_9 => ?_)
        refine Rk.sp (G_goto (pc := 50) (tgt := 5) dX1_pauseSum_50 rfl) ?_
        exact Rk.end_ (fun h => h ⟨hv3_8, hv4_9⟩)
      · refine Rk.sp (G_aload_n (pc := 35) 1 rfl rfl dX1_pauseSum_35) ?_
        refine Rk.sp (G_iload_w (pc := 36) 4 rfl dX1_pauseSum_36) ?_
        refine Rk.cRI (pc := 38) (Cl.v [vi v4_2] [vi v3_1] dX1_pauseSum_38 ckX1_47 ha1 rfl rfl rfl (Nat.le_of_ble_eq_true rfl) (Nat.le_of_ble_eq_true rfl)) (k_Ta_pauseOf a1 v4_2 σ ha1 hv4_2 hok) (fun r10 hr10 => ?_)
        refine Rk.sp (G_goto (pc := 41) (tgt := 45) dX1_pauseSum_41 rfl) ?_
        refine Rk.sp (G_iadd (pc := 45) dX1_pauseSum_45) ?_
        refine Rk.ist_n (pc := 46) 3 (fun v3_11 => [none, some (vr a1), some (vi a2), some (vi v3_11), some (vi v4_2)]) rfl (Nat.le_of_ble_eq_true rfl) rfl dX1_pauseSum_46 (nmW _) (fun _ => rfl) (fun v3_11 hv3_11 => ?_)
        refine Rk.inc (pc := 47) 4 (fun v4_12 => [none, some (vr a1), some (vi a2), some (vi v3_11), some (vi v4_12)]) rfl (Nat.le_of_ble_eq_true rfl) rfl dX1_pauseSum_47 (fun _ => rfl) (fun v4_12 hv4_12 => ?_)
        refine Rk.sp (G_goto (pc := 50) (tgt := 5) dX1_pauseSum_50 rfl) ?_
        exact Rk.end_ (fun h => h ⟨hv3_11, hv4_12⟩)
    · refine Rk.sp (G_iconst (pc := 44) dX1_pauseSum_44) ?_
      refine Rk.sp (G_iadd (pc := 45) dX1_pauseSum_45) ?_
      refine Rk.ist_n (pc := 46) 3 (fun v3_13 => [none, some (vr a1), some (vi a2), some (vi v3_13), some (vi v4_2)]) rfl (Nat.le_of_ble_eq_true rfl) rfl dX1_pauseSum_46 (nmW _) (fun _ => rfl) (fun v3_13 hv3_13 => ?_)
      refine Rk.inc (pc := 47) 4 (fun v4_14 => [none, some (vr a1), some (vi a2), some (vi v3_13), some (vi v4_14)]) rfl (Nat.le_of_ble_eq_true rfl) rfl dX1_pauseSum_47 (fun _ => rfl) (fun v4_14 hv4_14 => ?_)
      refine Rk.sp (G_goto (pc := 50) (tgt := 5) dX1_pauseSum_50 rfl) ?_
      exact Rk.end_ (fun h => h ⟨hv3_13, hv4_14⟩)
  · refine Rk.sp (G_iload_n (pc := 53) 3 rfl rfl dX1_pauseSum_53) ?_
    exact Rk.end_ (fun h => G_ireturn (pc := 54) rfl dX1_pauseSum_54 (q_RI h hv3_1))
theorem k_Gl_greatestPause {κ : Kx} {μ : Sg} (a1 : Nat) (a2 : Int) (σ : Sg) (ha1 : LB false a1 (1, 6)) (ha2 : inR a2) (hok : okS σ) : CtRI κ mX1_greatestPause 2 [vr 166, vr a1, vi a2] false μ σ (Gl_greatestPause a1 a2 σ) := by
  intro r h
  refine con_of (by decide) (Nat.le_of_ble_eq_true rfl) 2 ?_
  refine (?_ : Rk κ mX1_greatestPause _ 0 [some (vr 166), some (vr a1), some (vi a2), none, none] [] (ms false μ σ) (Gl_greatestPause a1 a2 σ) (fun a => a = r)) _ h rfl
  unfold Gl_greatestPause
  refine Rk.sp (G_iconst (pc := 0) dX1_greatestPause_0) ?_
  refine Rk.isa_n (pc := 1) 3 (L' := [some (vr 166), some (vr a1), some (vi a2), some (vi 0), none]) rfl (Nat.le_of_ble_eq_true rfl) rfl dX1_greatestPause_1 rfl ?_
  refine Rk.sp (G_iconst (pc := 2) dX1_greatestPause_2) ?_
  refine Rk.isa_w (pc := 3) 4 (L' := [some (vr 166), some (vr a1), some (vi a2), some (vi 0), some (vi 0)]) (Nat.le_of_ble_eq_true rfl) rfl dX1_greatestPause_3 rfl ?_
  refine Rk.fg [false, true, true, true, true] (L' := [none, some (vr a1), some (vi a2), some (vi 0), some (vi 0)]) rfl ?_
  refine Rk.loop (pc := 5) (B := (fun p => Gl_greatestPause_5_b σ a1 a2 p.1 p.2)) (fun p => inR p.1 ∧ inR p.2) (fun p => [none, some (vr a1), some (vi a2), some (vi p.1), some (vi p.2)]) (fun p => (ms false μ σ)) (fun p hp => ?_) (0, 0) ⟨(inRk 0 rfl), (inRk 0 rfl)⟩
  obtain ⟨v3_1, v4_2⟩ := p
  obtain ⟨hv3_1, hv4_2⟩ := hp
  try dsimp only
  unfold Gl_greatestPause_5_b
  refine Rk.sp (G_iload_w (pc := 5) 4 rfl dX1_greatestPause_5) ?_
  refine Rk.sp (G_aload_n (pc := 7) 1 rfl rfl dX1_greatestPause_7) ?_
  refine Rk.gI (pc := 8) flX1_26 cl6 rfl ha1 dX1_greatestPause_8 ?_
  refine Rk.icmp_ge (pc := 11) (tgt := 51) dX1_greatestPause_11 (nmI hv4_2) (nmI (hok _ _)) rfl (fun hc3 => ?_) (fun hc3 => ?_)
  · refine Rk.sp (G_aload_n (pc := 14) 1 rfl rfl dX1_greatestPause_14) ?_
    refine Rk.gR (pc := 15) (a1 + 4) flX1_40 cl6 rfl ha1 dX1_greatestPause_15 ?_
    refine Rk.sp (G_iload_w (pc := 18) 4 rfl dX1_greatestPause_18) ?_
    refine Rk.al (pc := 20) (LBt ha1 4 (by decide)) dX1_greatestPause_20 (fun hi4 => ?_)
    refine Rk.sp (G_iload_n (pc := 21) 2 rfl rfl dX1_greatestPause_21) ?_
    refine Rk.icmp_ne (pc := 22) (tgt := 45) dX1_greatestPause_22 (nmI (hok _ _)) (nmI ha2) rfl (fun hc5 => ?_) (fun hc5 => ?_)
    · refine Rk.sp (G_aload_n (pc := 25) 1 rfl rfl dX1_greatestPause_25) ?_
      refine Rk.sp (G_iload_w (pc := 26) 4 rfl dX1_greatestPause_26) ?_
      refine Rk.cRZ (pc := 28) (Cl.v [vi v4_2] [] dX1_greatestPause_28 ckX1_43 ha1 rfl rfl rfl (Nat.le_of_ble_eq_true rfl) (Nat.le_of_ble_eq_true rfl)) (k_Ta_isAnswer a1 v4_2 σ ha1 hv4_2 hok) (fun r6 hr6 => ?_)
      refine Rk.if_eq (pc := 31) (tgt := 45) dX1_greatestPause_31 (nmI (inZ.R hr6)) rfl (fun hc7 => ?_) (fun hc7 => ?_)
      · refine Rk.inc (pc := 45) 4 (fun v4_8 => [none, some (vr a1), some (vi a2), some (vi v3_1), some (vi v4_8)]) rfl (Nat.le_of_ble_eq_true rfl) rfl dX1_greatestPause_45 (fun _ => rfl) (fun v4_8 hv4_8 => ?_)
        refine Rk.sp (G_goto (pc := 48) (tgt := 5) dX1_greatestPause_48 rfl) ?_
        exact Rk.end_ (fun h => h ⟨hv3_1, hv4_8⟩)
      · refine Rk.sp (G_iload_n (pc := 34) 3 rfl rfl dX1_greatestPause_34) ?_
        refine Rk.sp (G_aload_n (pc := 35) 1 rfl rfl dX1_greatestPause_35) ?_
        refine Rk.sp (G_iload_w (pc := 36) 4 rfl dX1_greatestPause_36) ?_
        refine Rk.cRI (pc := 38) (Cl.v [vi v4_2] [vi v3_1] dX1_greatestPause_38 ckX1_47 ha1 rfl rfl rfl (Nat.le_of_ble_eq_true rfl) (Nat.le_of_ble_eq_true rfl)) (k_Ta_pauseOf a1 v4_2 σ ha1 hv4_2 hok) (fun r9 hr9 => ?_)
        refine Rk.mmax (pc := 41) cmmX1_51 hv3_1 hr9 (Nat.le_of_ble_eq_true rfl) (Nat.le_of_ble_eq_true rfl) dX1_greatestPause_41 (fun r10 hr10 => ?_)
        refine Rk.isa_n (pc := 44) 3 (L' := [none, some (vr a1), some (vi a2), some (vi r10), some (vi v4_2)]) rfl (Nat.le_of_ble_eq_true rfl) rfl dX1_greatestPause_44 rfl ?_
        refine Rk.inc (pc := 45) 4 (fun v4_11 => [none, some (vr a1), some (vi a2), some (vi r10), some (vi v4_11)]) rfl (Nat.le_of_ble_eq_true rfl) rfl dX1_greatestPause_45 (fun _ => rfl) (fun v4_11 hv4_11 => ?_)
        refine Rk.sp (G_goto (pc := 48) (tgt := 5) dX1_greatestPause_48 rfl) ?_
        exact Rk.end_ (fun h => h ⟨hr10, hv4_11⟩)
    · refine Rk.inc (pc := 45) 4 (fun v4_12 => [none, some (vr a1), some (vi a2), some (vi v3_1), some (vi v4_12)]) rfl (Nat.le_of_ble_eq_true rfl) rfl dX1_greatestPause_45 (fun _ => rfl) (fun v4_12 hv4_12 => ?_)
      refine Rk.sp (G_goto (pc := 48) (tgt := 5) dX1_greatestPause_48 rfl) ?_
      exact Rk.end_ (fun h => h ⟨hv3_1, hv4_12⟩)
  · refine Rk.sp (G_iload_n (pc := 51) 3 rfl rfl dX1_greatestPause_51) ?_
    exact Rk.end_ (fun h => G_ireturn (pc := 52) rfl dX1_greatestPause_52 (q_RI h hv3_1))
theorem k_Ta_waitsFor {κ : Kx} {μ : Sg} (t0 : Nat) (a1 : Int) (a2 : Int) (σ : Sg) (ht0 : LB false t0 (1, 6)) (ha1 : inR a1) (ha2 : inR a2) (hok : okS σ) : CtRZ κ mX6_waitsFor 0 [vr t0, vi a1, vi a2] false μ σ (Ta_waitsFor t0 a1 a2 σ) := by
  intro r h
  refine con_of (by decide) (Nat.le_of_ble_eq_true rfl) 1 ?_
  refine (?_ : Rk κ mX6_waitsFor _ 0 [some (vr t0), some (vi a1), some (vi a2), none] [] (ms false μ σ) (Ta_waitsFor t0 a1 a2 σ) (fun a => a = r)) _ h rfl
  unfold Ta_waitsFor
  refine Rk.sp (G_aload_n (pc := 0) 0 rfl rfl dX6_waitsFor_0) ?_
  refine Rk.gR (pc := 1) (t0 + 4) flX6_21 cl6 rfl ht0 dX6_waitsFor_1 ?_
  refine Rk.sp (G_iload_n (pc := 4) 2 rfl rfl dX6_waitsFor_4) ?_
  refine Rk.al (pc := 5) (LBt ht0 4 (by decide)) dX6_waitsFor_5 (fun hi1 => ?_)
  refine Rk.sp (G_iload_n (pc := 6) 1 rfl rfl dX6_waitsFor_6) ?_
  refine Rk.icmp_eq (pc := 7) (tgt := 19) dX6_waitsFor_7 (nmI (hok _ _)) (nmI ha1) rfl (fun hc2 => ?_) (fun hc2 => ?_)
  · refine Rk.sp (G_iconst (pc := 19) dX6_waitsFor_19) ?_
    exact Rk.end_ (fun h => G_zreturn (pc := 20) rfl (nz inZ0) dX6_waitsFor_20 (q_RZ h inZ0))
  · refine Rk.sp (G_aload_n (pc := 10) 0 rfl rfl dX6_waitsFor_10) ?_
    refine Rk.gR (pc := 11) (t0 + 11) flX6_42 cl6 rfl ht0 dX6_waitsFor_11 ?_
    refine Rk.sp (G_iload_n (pc := 14) 2 rfl rfl dX6_waitsFor_14) ?_
    refine Rk.al (pc := 15) (LBt ht0 11 (by decide)) dX6_waitsFor_15 (fun hi3 => ?_)
    refine Rk.if_eq (pc := 16) (tgt := 21) dX6_waitsFor_16 (nmI (hok _ _)) rfl (fun hc4 => ?_) (fun hc4 => ?_)
    · refine Rk.sp (G_iload_n (pc := 21) 2 rfl rfl dX6_waitsFor_21) ?_
      refine Rk.sp (G_iconst (pc := 22) dX6_waitsFor_22) ?_
      refine Rk.sp (G_iadd (pc := 23) dX6_waitsFor_23) ?_
      refine Rk.ist_n (pc := 24) 3 (fun v3_5 => [some (vr t0), some (vi a1), some (vi a2), some (vi v3_5)]) rfl (Nat.le_of_ble_eq_true rfl) rfl dX6_waitsFor_24 (nmW _) (fun _ => rfl) (fun v3_5 hv3_5 => ?_)
      refine Rk.fg [true, false, true, true] (L' := [some (vr t0), none, some (vi a2), some (vi v3_5)]) rfl ?_
      refine Rk.loop (pc := 25) (B := (fun p => Ta_waitsFor_25_b σ t0 a2 p)) (fun p => inR p) (fun p => [some (vr t0), none, some (vi a2), some (vi p)]) (fun p => (ms false μ σ)) (fun p hp => ?_) v3_5 hv3_5
      revert hp; revert p; intro v3_6 hv3_6
      try dsimp only
      unfold Ta_waitsFor_25_b
      refine Rk.sp (G_iload_n (pc := 25) 3 rfl rfl dX6_waitsFor_25) ?_
      refine Rk.sp (G_aload_n (pc := 26) 0 rfl rfl dX6_waitsFor_26) ?_
      refine Rk.gI (pc := 27) flX6_55 cl6 rfl ht0 dX6_waitsFor_27 ?_
      refine Rk.icmp_ge (pc := 30) (tgt := 60) dX6_waitsFor_30 (nmI hv3_6) (nmI (hok _ _)) rfl (fun hc7 => ?_) (fun hc7 => ?_)
      · refine Rk.sp (G_aload_n (pc := 33) 0 rfl rfl dX6_waitsFor_33) ?_
        refine Rk.gR (pc := 34) (t0 + 10) flX6_39 cl6 rfl ht0 dX6_waitsFor_34 ?_
        refine Rk.sp (G_iload_n (pc := 37) 3 rfl rfl dX6_waitsFor_37) ?_
        refine Rk.al (pc := 38) (LBt ht0 10 (by decide)) dX6_waitsFor_38 (fun hi8 => ?_)
        refine Rk.sp (G_iload_n (pc := 39) 2 rfl rfl dX6_waitsFor_39) ?_
        refine Rk.icmp_ne (pc := 40) (tgt := 54) dX6_waitsFor_40 (nmI (hok _ _)) (nmI ha2) rfl (fun hc9 => ?_) (fun hc9 => ?_)
        · refine Rk.sp (G_aload_n (pc := 43) 0 rfl rfl dX6_waitsFor_43) ?_
          refine Rk.gR (pc := 44) (t0 + 11) flX6_42 cl6 rfl ht0 dX6_waitsFor_44 ?_
          refine Rk.sp (G_iload_n (pc := 47) 3 rfl rfl dX6_waitsFor_47) ?_
          refine Rk.al (pc := 48) (LBt ht0 11 (by decide)) dX6_waitsFor_48 (fun hi10 => ?_)
          refine Rk.if_ne (pc := 49) (tgt := 54) dX6_waitsFor_49 (nmI (hok _ _)) rfl (fun hc11 => ?_) (fun hc11 => ?_)
          · refine Rk.sp (G_iconst (pc := 52) dX6_waitsFor_52) ?_
            exact Rk.end_ (fun h => G_zreturn (pc := 53) rfl (nz inZ0) dX6_waitsFor_53 (q_RZ h inZ0))
          · refine Rk.inc (pc := 54) 3 (fun v3_12 => [some (vr t0), none, some (vi a2), some (vi v3_12)]) rfl (Nat.le_of_ble_eq_true rfl) rfl dX6_waitsFor_54 (fun _ => rfl) (fun v3_12 hv3_12 => ?_)
            refine Rk.sp (G_goto (pc := 57) (tgt := 25) dX6_waitsFor_57 rfl) ?_
            exact Rk.end_ (fun h => h hv3_12)
        · refine Rk.inc (pc := 54) 3 (fun v3_13 => [some (vr t0), none, some (vi a2), some (vi v3_13)]) rfl (Nat.le_of_ble_eq_true rfl) rfl dX6_waitsFor_54 (fun _ => rfl) (fun v3_13 hv3_13 => ?_)
          refine Rk.sp (G_goto (pc := 57) (tgt := 25) dX6_waitsFor_57 rfl) ?_
          exact Rk.end_ (fun h => h hv3_13)
      · refine Rk.sp (G_iconst (pc := 60) dX6_waitsFor_60) ?_
        exact Rk.end_ (fun h => G_zreturn (pc := 61) rfl (nz inZ1) dX6_waitsFor_61 (q_RZ h inZ1))
    · refine Rk.sp (G_iconst (pc := 19) dX6_waitsFor_19) ?_
      exact Rk.end_ (fun h => G_zreturn (pc := 20) rfl (nz inZ0) dX6_waitsFor_20 (q_RZ h inZ0))
theorem k_Gl_waiting {κ : Kx} {μ : Sg} (a1 : Nat) (a2 : Int) (σ : Sg) (ha1 : LB false a1 (1, 6)) (ha2 : inR a2) (hok : okS σ) : CtRI κ mX1_waiting 1 [vr 166, vr a1, vi a2] false μ σ (Gl_waiting a1 a2 σ) := by
  intro r h
  refine con_of (by decide) (Nat.le_of_ble_eq_true rfl) 2 ?_
  refine (?_ : Rk κ mX1_waiting _ 0 [some (vr 166), some (vr a1), some (vi a2), none, none] [] (ms false μ σ) (Gl_waiting a1 a2 σ) (fun a => a = r)) _ h rfl
  unfold Gl_waiting
  refine Rk.sp (G_iconst (pc := 0) dX1_waiting_0) ?_
  refine Rk.isa_n (pc := 1) 3 (L' := [some (vr 166), some (vr a1), some (vi a2), some (vi 0), none]) rfl (Nat.le_of_ble_eq_true rfl) rfl dX1_waiting_1 rfl ?_
  refine Rk.sp (G_iconst (pc := 2) dX1_waiting_2) ?_
  refine Rk.isa_w (pc := 3) 4 (L' := [some (vr 166), some (vr a1), some (vi a2), some (vi 0), some (vi 0)]) (Nat.le_of_ble_eq_true rfl) rfl dX1_waiting_3 rfl ?_
  refine Rk.fg [false, true, true, true, true] (L' := [none, some (vr a1), some (vi a2), some (vi 0), some (vi 0)]) rfl ?_
  refine Rk.loop (pc := 5) (B := (fun p => Gl_waiting_5_b σ a1 a2 p.1 p.2)) (fun p => inR p.1 ∧ inR p.2) (fun p => [none, some (vr a1), some (vi a2), some (vi p.1), some (vi p.2)]) (fun p => (ms false μ σ)) (fun p hp => ?_) (0, 0) ⟨(inRk 0 rfl), (inRk 0 rfl)⟩
  obtain ⟨v3_1, v4_2⟩ := p
  obtain ⟨hv3_1, hv4_2⟩ := hp
  try dsimp only
  unfold Gl_waiting_5_b
  refine Rk.sp (G_iload_w (pc := 5) 4 rfl dX1_waiting_5) ?_
  refine Rk.sp (G_aload_n (pc := 7) 1 rfl rfl dX1_waiting_7) ?_
  refine Rk.gI (pc := 8) flX1_26 cl6 rfl ha1 dX1_waiting_8 ?_
  refine Rk.icmp_ge (pc := 11) (tgt := 38) dX1_waiting_11 (nmI hv4_2) (nmI (hok _ _)) rfl (fun hc3 => ?_) (fun hc3 => ?_)
  · refine Rk.sp (G_iload_n (pc := 14) 3 rfl rfl dX1_waiting_14) ?_
    refine Rk.sp (G_aload_n (pc := 15) 1 rfl rfl dX1_waiting_15) ?_
    refine Rk.sp (G_iload_n (pc := 16) 2 rfl rfl dX1_waiting_16) ?_
    refine Rk.sp (G_iload_w (pc := 17) 4 rfl dX1_waiting_17) ?_
    refine Rk.cRZ (pc := 19) (Cl.v [vi a2, vi v4_2] [vi v3_1] dX1_waiting_19 ckX1_36 ha1 rfl rfl rfl (Nat.le_of_ble_eq_true rfl) (Nat.le_of_ble_eq_true rfl)) (k_Ta_waitsFor a1 a2 v4_2 σ ha1 ha2 hv4_2 hok) (fun r4 hr4 => ?_)
    refine Rk.if_eq (pc := 22) (tgt := 29) dX1_waiting_22 (nmI (inZ.R hr4)) rfl (fun hc5 => ?_) (fun hc5 => ?_)
    · refine Rk.sp (G_iconst (pc := 29) dX1_waiting_29) ?_
      refine Rk.sp (G_iadd (pc := 30) dX1_waiting_30) ?_
      refine Rk.ist_n (pc := 31) 3 (fun v3_6 => [none, some (vr a1), some (vi a2), some (vi v3_6), some (vi v4_2)]) rfl (Nat.le_of_ble_eq_true rfl) rfl dX1_waiting_31 (nmW _) (fun _ => rfl) (fun v3_6 hv3_6 => ?_)
      refine Rk.inc (pc := 32) 4 (fun v4_7 => [none, some (vr a1), some (vi a2), some (vi v3_6), some (vi v4_7)]) rfl (Nat.le_of_ble_eq_true rfl) rfl dX1_waiting_32 (fun _ => rfl) (fun v4_7 hv4_7 => ?_)
      refine Rk.sp (G_goto (pc := 35) (tgt := 5) dX1_waiting_35 rfl) ?_
      exact Rk.end_ (fun h => h ⟨hv3_6, hv4_7⟩)
    · refine Rk.sp (G_iconst (pc := 25) dX1_waiting_25) ?_
      refine Rk.sp (G_goto (pc := 26) (tgt := 30) dX1_waiting_26 rfl) ?_
      refine Rk.sp (G_iadd (pc := 30) dX1_waiting_30) ?_
      refine Rk.ist_n (pc := 31) 3 (fun v3_8 => [none, some (vr a1), some (vi a2), some (vi v3_8), some (vi v4_2)]) rfl (Nat.le_of_ble_eq_true rfl) rfl dX1_waiting_31 (nmW _) (fun _ => rfl) (fun v3_8 hv3_8 => ?_)
      refine Rk.inc (pc := 32) 4 (fun v4_9 => [none, some (vr a1), some (vi a2), some (vi v3_8), some (vi v4_9)]) rfl (Nat.le_of_ble_eq_true rfl) rfl dX1_waiting_32 (fun _ => rfl) (fun v4_9 hv4_9 => ?_)
      refine Rk.sp (G_goto (pc := 35) (tgt := 5) dX1_waiting_35 rfl) ?_
      exact Rk.end_ (fun h => h ⟨hv3_8, hv4_9⟩)
  · refine Rk.sp (G_iload_n (pc := 38) 3 rfl rfl dX1_waiting_38) ?_
    exact Rk.end_ (fun h => G_ireturn (pc := 39) rfl dX1_waiting_39 (q_RI h hv3_1))
theorem k_Td_pauses {κ : Kx} {μ : Sg} (a1 : Int) (a2 : Int) (σ : Sg) (ha1 : inR a1) (ha2 : inR a2) (hok : okS σ) : CtRI κ mX8_pauses 3 [vr 0, vi a1, vi a2] false μ σ (Td_pauses a1 a2 σ) := by
  intro r h
  refine con_of (by decide) (Nat.le_of_ble_eq_true rfl) 0 ?_
  refine (?_ : Rk κ mX8_pauses _ 0 [some (vr 0), some (vi a1), some (vi a2)] [] (ms false μ σ) (Td_pauses a1 a2 σ) (fun a => a = r)) _ h rfl
  unfold Td_pauses
  refine Rk.sp (G_iload_n (pc := 0) 1 rfl rfl dX8_pauses_0) ?_
  refine Rk.cRZ (pc := 1) (Cl.s [vi a1] [] dX8_pauses_1 ckX8_85 rfl rfl (Nat.le_of_ble_eq_true rfl) (Nat.le_of_ble_eq_true rfl)) (k_Td_isOne a1 ha1) (fun r1 hr1 => ?_)
  refine Rk.if_ne (pc := 4) (tgt := 9) dX8_pauses_4 (nmI (inZ.R hr1)) rfl (fun hc2 => ?_) (fun hc2 => ?_)
  · refine Rk.sp (G_iconst (pc := 7) dX8_pauses_7) ?_
    exact Rk.end_ (fun h => G_ireturn (pc := 8) rfl dX8_pauses_8 (q_RI h (inRk (-1) rfl)))
  · refine Rk.sp (G_iload_n (pc := 9) 2 rfl rfl dX8_pauses_9) ?_
    refine Rk.ite (fun hc3 => ?_) (fun hc3 => ?_)
    · refine Rk.tblI (pc := 10) (tgt := 36) 0 hc3 dX8_pauses_10 (nmI ha2) (by decide) (by decide) rfl rfl ?_
      refine Rk.sp (G_aload_n (pc := 36) 0 rfl rfl dX8_pauses_36) ?_
      refine Rk.gR (pc := 37) 166 flX8_59 cl8 rfl lb0 dX8_pauses_37 ?_
      refine Rk.sp (G_aload_n (pc := 40) 0 rfl rfl dX8_pauses_40) ?_
      refine Rk.gR (pc := 41) 1 flX8_12 cl8 rfl lb0 dX8_pauses_41 ?_
      refine Rk.gR (pc := 44) 2 flX8_71 cl7 rfl lb1 dX8_pauses_44 ?_
      refine Rk.sp (G_iload_n (pc := 47) 1 rfl rfl dX8_pauses_47) ?_
      refine Rk.cRI (pc := 48) (Cl.v [vr 2, vi a1] [] dX8_pauses_48 ckX8_279 lb166 rfl rfl rfl (Nat.le_of_ble_eq_true rfl) (Nat.le_of_ble_eq_true rfl)) (k_Gl_pauseSum 2 a1 σ lb2 ha1 hok) (fun r4 hr4 => ?_)
      exact Rk.end_ (fun h => G_ireturn (pc := 51) rfl dX8_pauses_51 (q_RI h hr4))
    · refine Rk.ite (fun hc5 => ?_) (fun hc5 => ?_)
      · refine Rk.tblI (pc := 10) (tgt := 52) 1 hc5 dX8_pauses_10 (nmI ha2) (by decide) (by decide) rfl rfl ?_
        refine Rk.sp (G_aload_n (pc := 52) 0 rfl rfl dX8_pauses_52) ?_
        refine Rk.gR (pc := 53) 166 flX8_59 cl8 rfl lb0 dX8_pauses_53 ?_
        refine Rk.sp (G_aload_n (pc := 56) 0 rfl rfl dX8_pauses_56) ?_
        refine Rk.gR (pc := 57) 1 flX8_12 cl8 rfl lb0 dX8_pauses_57 ?_
        refine Rk.gR (pc := 60) 2 flX8_71 cl7 rfl lb1 dX8_pauses_60 ?_
        refine Rk.sp (G_iload_n (pc := 63) 1 rfl rfl dX8_pauses_63) ?_
        refine Rk.cRI (pc := 64) (Cl.v [vr 2, vi a1] [] dX8_pauses_64 ckX8_282 lb166 rfl rfl rfl (Nat.le_of_ble_eq_true rfl) (Nat.le_of_ble_eq_true rfl)) (k_Gl_greatestPause 2 a1 σ lb2 ha1 hok) (fun r6 hr6 => ?_)
        exact Rk.end_ (fun h => G_ireturn (pc := 67) rfl dX8_pauses_67 (q_RI h hr6))
      · refine Rk.ite (fun hc7 => ?_) (fun hc7 => ?_)
        · refine Rk.tblI (pc := 10) (tgt := 68) 2 hc7 dX8_pauses_10 (nmI ha2) (by decide) (by decide) rfl rfl ?_
          refine Rk.sp (G_aload_n (pc := 68) 0 rfl rfl dX8_pauses_68) ?_
          refine Rk.gR (pc := 69) 166 flX8_59 cl8 rfl lb0 dX8_pauses_69 ?_
          refine Rk.sp (G_aload_n (pc := 72) 0 rfl rfl dX8_pauses_72) ?_
          refine Rk.gR (pc := 73) 1 flX8_12 cl8 rfl lb0 dX8_pauses_73 ?_
          refine Rk.gR (pc := 76) 2 flX8_71 cl7 rfl lb1 dX8_pauses_76 ?_
          refine Rk.sp (G_iload_n (pc := 79) 1 rfl rfl dX8_pauses_79) ?_
          refine Rk.cRI (pc := 80) (Cl.v [vr 2, vi a1] [] dX8_pauses_80 ckX8_285 lb166 rfl rfl rfl (Nat.le_of_ble_eq_true rfl) (Nat.le_of_ble_eq_true rfl)) (k_Gl_waiting 2 a1 σ lb2 ha1 hok) (fun r8 hr8 => ?_)
          exact Rk.end_ (fun h => G_ireturn (pc := 83) rfl dX8_pauses_83 (q_RI h hr8))
        · refine Rk.tblO (pc := 10) (tgt := 84) dX8_pauses_10 (nmI ha2) (by omega) rfl ?_
          refine Rk.sp (G_iconst (pc := 84) dX8_pauses_84) ?_
          exact Rk.end_ (fun h => G_ireturn (pc := 85) rfl dX8_pauses_85 (q_RI h (inRk (-1) rfl)))
theorem k_Td_rests {κ : Kx} {μ : Sg} (σ : Sg) (hok : okS σ) : CtRI κ mX8_rests 0 [vr 0] false μ σ (Td_rests σ) := by
  intro r h
  refine con_of (by decide) (Nat.le_of_ble_eq_true rfl) 4 ?_
  refine (?_ : Rk κ mX8_rests _ 0 [some (vr 0), none, none, none, none] [] (ms false μ σ) (Td_rests σ) (fun a => a = r)) _ h rfl
  unfold Td_rests
  refine Rk.sp (G_iconst (pc := 0) dX8_rests_0) ?_
  refine Rk.isa_n (pc := 1) 1 (L' := [some (vr 0), some (vi 0), none, none, none]) rfl (Nat.le_of_ble_eq_true rfl) rfl dX8_rests_1 rfl ?_
  refine Rk.sp (G_iconst (pc := 2) dX8_rests_2) ?_
  refine Rk.isa_n (pc := 3) 2 (L' := [some (vr 0), some (vi 0), some (vi 0), none, none]) rfl (Nat.le_of_ble_eq_true rfl) rfl dX8_rests_3 rfl ?_
  refine Rk.loop (pc := 4) (B := (fun p => Td_rests_4_b σ p.1 p.2)) (fun p => inR p.1 ∧ inR p.2) (fun p => [some (vr 0), some (vi p.1), some (vi p.2), none, none]) (fun p => (ms false μ σ)) (fun p hp => ?_) (0, 0) ⟨(inRk 0 rfl), (inRk 0 rfl)⟩
  obtain ⟨v1_1, v2_2⟩ := p
  obtain ⟨hv1_1, hv2_2⟩ := hp
  try dsimp only
  unfold Td_rests_4_b
  refine Rk.sp (G_iload_n (pc := 4) 2 rfl rfl dX8_rests_4) ?_
  refine Rk.sp (G_iconst (pc := 5) dX8_rests_5) ?_
  refine Rk.icmp_ge (pc := 6) (tgt := 93) dX8_rests_6 (nmI hv2_2) (nmI (inRk 4 rfl)) rfl (fun hc3 => ?_) (fun hc3 => ?_)
  · refine Rk.sp (G_aload_n (pc := 9) 0 rfl rfl dX8_rests_9) ?_
    refine Rk.gR (pc := 10) 1 flX8_12 cl8 rfl lb0 dX8_rests_10 ?_
    refine Rk.gR (pc := 13) 30 flX8_306 cl7 rfl lb1 dX8_rests_13 ?_
    refine Rk.sp (G_iload_n (pc := 16) 2 rfl rfl dX8_rests_16) ?_
    refine Rk.sp (G_iconst (pc := 17) dX8_rests_17) ?_
    refine Rk.sp (G_ixor (pc := 18) dX8_rests_18) ?_
    refine Rk.al (pc := 19) lb30 dX8_rests_19 (fun hi4 => ?_)
    refine Rk.sp (G_aload_n (pc := 20) 0 rfl rfl dX8_rests_20) ?_
    refine Rk.gR (pc := 21) 1 flX8_12 cl8 rfl lb0 dX8_rests_21 ?_
    refine Rk.gR (pc := 24) 30 flX8_306 cl7 rfl lb1 dX8_rests_24 ?_
    refine Rk.sp (G_iload_n (pc := 27) 2 rfl rfl dX8_rests_27) ?_
    refine Rk.al (pc := 28) lb30 dX8_rests_28 (fun hi5 => ?_)
    refine Rk.join (P := fun p => inR p) (pcj := 37) (fun p => [some (vr 0), some (vi v1_1), some (vi v2_2), none, none]) (fun p => [vi p]) (fun p => (ms false μ σ)) ?_ (fun p hp => ?_)
    · refine Rk.icmp_lt (pc := 29) (tgt := 36) dX8_rests_29 (nmI (hok _ _)) (nmI (hok _ _)) rfl (fun hc6 => ?_) (fun hc6 => ?_)
      · refine Rk.sp (G_iconst (pc := 36) dX8_rests_36) ?_
        exact Rk.end_ (fun h => h (inRk 0 rfl))
      · refine Rk.sp (G_iconst (pc := 32) dX8_rests_32) ?_
        refine Rk.sp (G_goto (pc := 33) (tgt := 37) dX8_rests_33 rfl) ?_
        exact Rk.end_ (fun h => h (inRk 1 rfl))
    · revert hp; revert p; intro t7 ht7
      try dsimp only
      refine Rk.isa_n (pc := 37) 3 (L' := [some (vr 0), some (vi v1_1), some (vi v2_2), some (vi t7), none]) rfl (Nat.le_of_ble_eq_true rfl) rfl dX8_rests_37 rfl ?_
      refine Rk.sp (G_aload_n (pc := 38) 0 rfl rfl dX8_rests_38) ?_
      refine Rk.gR (pc := 39) 1 flX8_12 cl8 rfl lb0 dX8_rests_39 ?_
      refine Rk.gR (pc := 42) 30 flX8_306 cl7 rfl lb1 dX8_rests_42 ?_
      refine Rk.sp (G_iconst (pc := 45) dX8_rests_45) ?_
      refine Rk.sp (G_iload_n (pc := 46) 2 rfl rfl dX8_rests_46) ?_
      refine Rk.sp (G_iconst (pc := 47) dX8_rests_47) ?_
      refine Rk.sp (G_ixor (pc := 48) dX8_rests_48) ?_
      refine Rk.sp (G_iadd (pc := 49) dX8_rests_49) ?_
      refine Rk.al (pc := 50) lb30 dX8_rests_50 (fun hi8 => ?_)
      refine Rk.sp (G_aload_n (pc := 51) 0 rfl rfl dX8_rests_51) ?_
      refine Rk.gR (pc := 52) 1 flX8_12 cl8 rfl lb0 dX8_rests_52 ?_
      refine Rk.gR (pc := 55) 30 flX8_306 cl7 rfl lb1 dX8_rests_55 ?_
      refine Rk.sp (G_iconst (pc := 58) dX8_rests_58) ?_
      refine Rk.sp (G_iload_n (pc := 59) 2 rfl rfl dX8_rests_59) ?_
      refine Rk.sp (G_iadd (pc := 60) dX8_rests_60) ?_
      refine Rk.al (pc := 61) lb30 dX8_rests_61 (fun hi9 => ?_)
      refine Rk.join (P := fun p => inR p) (pcj := 70) (fun p => [some (vr 0), some (vi v1_1), some (vi v2_2), some (vi t7), none]) (fun p => [vi p]) (fun p => (ms false μ σ)) ?_ (fun p hp => ?_)
      · refine Rk.icmp_lt (pc := 62) (tgt := 69) dX8_rests_62 (nmI (hok _ _)) (nmI (hok _ _)) rfl (fun hc10 => ?_) (fun hc10 => ?_)
        · refine Rk.sp (G_iconst (pc := 69) dX8_rests_69) ?_
          exact Rk.end_ (fun h => h (inRk 0 rfl))
        · refine Rk.sp (G_iconst (pc := 65) dX8_rests_65) ?_
          refine Rk.sp (G_goto (pc := 66) (tgt := 70) dX8_rests_66 rfl) ?_
          exact Rk.end_ (fun h => h (inRk 1 rfl))
      · revert hp; revert p; intro t11 ht11
        try dsimp only
        refine Rk.isa_w (pc := 70) 4 (L' := [some (vr 0), some (vi v1_1), some (vi v2_2), some (vi t7), some (vi t11)]) (Nat.le_of_ble_eq_true rfl) rfl dX8_rests_70 rfl ?_
        refine Rk.sp (G_iload_n (pc := 72) 3 rfl rfl dX8_rests_72) ?_
        refine Rk.if_eq (pc := 73) (tgt := 87) dX8_rests_73 (nmI ht7) rfl (fun hc12 => ?_) (fun hc12 => ?_)
        · refine Rk.inc (pc := 87) 2 (fun v2_13 => [some (vr 0), some (vi v1_1), some (vi v2_13), some (vi t7), some (vi t11)]) rfl (Nat.le_of_ble_eq_true rfl) rfl dX8_rests_87 (fun _ => rfl) (fun v2_13 hv2_13 => ?_)
          refine Rk.sp (G_goto (pc := 90) (tgt := 4) dX8_rests_90 rfl) ?_
          refine Rk.fg [true, true, true, false, false] (L' := [some (vr 0), some (vi v1_1), some (vi v2_13), none, none]) rfl ?_
          exact Rk.end_ (fun h => h ⟨hv1_1, hv2_13⟩)
        · refine Rk.sp (G_iload_w (pc := 76) 4 rfl dX8_rests_76) ?_
          refine Rk.if_eq (pc := 78) (tgt := 87) dX8_rests_78 (nmI ht11) rfl (fun hc14 => ?_) (fun hc14 => ?_)
          · refine Rk.inc (pc := 87) 2 (fun v2_15 => [some (vr 0), some (vi v1_1), some (vi v2_15), some (vi t7), some (vi t11)]) rfl (Nat.le_of_ble_eq_true rfl) rfl dX8_rests_87 (fun _ => rfl) (fun v2_15 hv2_15 => ?_)
            refine Rk.sp (G_goto (pc := 90) (tgt := 4) dX8_rests_90 rfl) ?_
            refine Rk.fg [true, true, true, false, false] (L' := [some (vr 0), some (vi v1_1), some (vi v2_15), none, none]) rfl ?_
            exact Rk.end_ (fun h => h ⟨hv1_1, hv2_15⟩)
          · refine Rk.sp (G_iload_n (pc := 81) 1 rfl rfl dX8_rests_81) ?_
            refine Rk.sp (G_iconst (pc := 82) dX8_rests_82) ?_
            refine Rk.sp (G_iload_n (pc := 83) 2 rfl rfl dX8_rests_83) ?_
            refine Rk.sp (G_ishl (pc := 84) dX8_rests_84) ?_
            refine Rk.sp (G_ior (pc := 85) dX8_rests_85) ?_
            refine Rk.ist_n (pc := 86) 1 (fun v1_16 => [some (vr 0), some (vi v1_16), some (vi v2_2), some (vi t7), some (vi t11)]) rfl (Nat.le_of_ble_eq_true rfl) rfl dX8_rests_86 (nmI (bOr_R _ _)) (fun _ => rfl) (fun v1_16 hv1_16 => ?_)
            refine Rk.inc (pc := 87) 2 (fun v2_17 => [some (vr 0), some (vi v1_16), some (vi v2_17), some (vi t7), some (vi t11)]) rfl (Nat.le_of_ble_eq_true rfl) rfl dX8_rests_87 (fun _ => rfl) (fun v2_17 hv2_17 => ?_)
            refine Rk.sp (G_goto (pc := 90) (tgt := 4) dX8_rests_90 rfl) ?_
            refine Rk.fg [true, true, true, false, false] (L' := [some (vr 0), some (vi v1_16), some (vi v2_17), none, none]) rfl ?_
            exact Rk.end_ (fun h => h ⟨hv1_16, hv2_17⟩)
  · refine Rk.sp (G_iload_n (pc := 93) 1 rfl rfl dX8_rests_93) ?_
    exact Rk.end_ (fun h => G_ireturn (pc := 94) rfl dX8_rests_94 (q_RI h hv1_1))
theorem k_Co_ringUp {κ : Kx} {μ : Sg} (σ : Sg) (hok : okS σ) : CtV κ mX0_ringUp 1 [vr 152] false μ σ (Co_ringUp σ) := by
  intro τ h
  refine con_of (by decide) (Nat.le_of_ble_eq_true rfl) 1 ?_
  refine (?_ : Rk κ mX0_ringUp _ 0 [some (vr 152), none] [] (ms false μ σ) (Co_ringUp σ) (fun a => a = τ)) _ h rfl
  unfold Co_ringUp
  refine Rk.sp (G_aload_n (pc := 0) 0 rfl rfl dX0_ringUp_0) ?_
  refine Rk.gD (pc := 1) flX0_25 cl0 rfl lb152 dX0_ringUp_1 (fun ht1 => ?_)
  refine Rk.gR (pc := 4) ((σ 152 2).toNat + 1) flX0_107 cl6 rfl ht1 dX0_ringUp_4 ?_
  refine Rk.sp (G_iconst (pc := 7) dX0_ringUp_7) ?_
  refine Rk.sp (G_iconst (pc := 8) dX0_ringUp_8) ?_
  refine Rk.sp (G_aload_n (pc := 9) 0 rfl rfl dX0_ringUp_9) ?_
  refine Rk.gD (pc := 10) flX0_25 cl0 rfl lb152 dX0_ringUp_10 (fun ht2 => ?_)
  refine Rk.gR (pc := 13) ((σ 152 2).toNat + 1) flX0_107 cl6 rfl ht2 dX0_ringUp_13 ?_
  refine Rk.sp (G_iconst (pc := 16) dX0_ringUp_16) ?_
  refine Rk.alc (pc := 17) 0 rfl (Nat.le_of_ble_eq_true rfl) (LBt2 ht2 1 (by decide)) dX0_ringUp_17 ?_
  refine Rk.sp (G_bipush (pc := 18) dX0_ringUp_18 rfl) ?_
  refine Rk.sp (G_isub (pc := 20) dX0_ringUp_20) ?_
  refine Rk.sp (Go.n0 (nmW _)) ?_
  refine Rk.mmax (pc := 21) cmmX0_125 (inRk 0 rfl) (wrR _) (Nat.le_of_ble_eq_true rfl) (Nat.le_of_ble_eq_true rfl) dX0_ringUp_21 (fun r3 hr3 => ?_)
  refine Rk.asc (pc := 24) hok (nmI hr3) 0 rfl (Nat.le_of_ble_eq_true rfl) (LBt2 ht1 1 (by decide)) dX0_ringUp_24 (fun σ4 hσ4 => ?_)
  refine Rk.sp (G_aload_n (pc := 25) 0 rfl rfl dX0_ringUp_25) ?_
  refine Rk.gD (pc := 26) flX0_25 cl0 rfl lb152 dX0_ringUp_26 (fun ht5 => ?_)
  refine Rk.gR (pc := 29) ((σ4 152 2).toNat + 1) flX0_107 cl6 rfl ht5 dX0_ringUp_29 ?_
  refine Rk.sp (G_iconst (pc := 32) dX0_ringUp_32) ?_
  refine Rk.sp (G_iconst (pc := 33) dX0_ringUp_33) ?_
  refine Rk.sp (G_aload_n (pc := 34) 0 rfl rfl dX0_ringUp_34) ?_
  refine Rk.gD (pc := 35) flX0_25 cl0 rfl lb152 dX0_ringUp_35 (fun ht6 => ?_)
  refine Rk.gR (pc := 38) ((σ4 152 2).toNat + 1) flX0_107 cl6 rfl ht6 dX0_ringUp_38 ?_
  refine Rk.sp (G_iconst (pc := 41) dX0_ringUp_41) ?_
  refine Rk.alc (pc := 42) 1 rfl (Nat.le_of_ble_eq_true rfl) (LBt2 ht6 1 (by decide)) dX0_ringUp_42 ?_
  refine Rk.sp (G_bipush (pc := 43) dX0_ringUp_43 rfl) ?_
  refine Rk.sp (G_isub (pc := 45) dX0_ringUp_45) ?_
  refine Rk.sp (Go.n0 (nmW _)) ?_
  refine Rk.mmax (pc := 46) cmmX0_125 (inRk 0 rfl) (wrR _) (Nat.le_of_ble_eq_true rfl) (Nat.le_of_ble_eq_true rfl) dX0_ringUp_46 (fun r7 hr7 => ?_)
  refine Rk.asc (pc := 49) hσ4 (nmI hr7) 1 rfl (Nat.le_of_ble_eq_true rfl) (LBt2 ht5 1 (by decide)) dX0_ringUp_49 (fun σ8 hσ8 => ?_)
  refine Rk.sp (G_iconst (pc := 50) dX0_ringUp_50) ?_
  refine Rk.isa_n (pc := 51) 1 (L' := [some (vr 152), some (vi 0)]) rfl (Nat.le_of_ble_eq_true rfl) rfl dX0_ringUp_51 rfl ?_
  refine Rk.loop (pc := 52) (B := (fun p => Co_ringUp_52_b p.1 p.2)) (fun p => inR p.1 ∧ okS p.2) (fun p => [some (vr 152), some (vi p.1)]) (fun p => (ms false μ p.2)) (fun p hp => ?_) (0, σ8) ⟨(inRk 0 rfl), hσ8⟩
  obtain ⟨v1_9, σ10⟩ := p
  obtain ⟨hv1_9, hσ10⟩ := hp
  try dsimp only
  unfold Co_ringUp_52_b
  refine Rk.sp (G_iload_n (pc := 52) 1 rfl rfl dX0_ringUp_52) ?_
  refine Rk.sp (G_aload_n (pc := 53) 0 rfl rfl dX0_ringUp_53) ?_
  refine Rk.gD (pc := 54) flX0_25 cl0 rfl lb152 dX0_ringUp_54 (fun ht11 => ?_)
  refine Rk.gI (pc := 57) flX0_74 cl6 rfl ht11 dX0_ringUp_57 ?_
  refine Rk.icmp_ge (pc := 60) (tgt := 79) dX0_ringUp_60 (nmI hv1_9) (nmI (hσ10 _ _)) rfl (fun hc12 => ?_) (fun hc12 => ?_)
  · refine Rk.sp (G_aload_n (pc := 63) 0 rfl rfl dX0_ringUp_63) ?_
    refine Rk.gD (pc := 64) flX0_25 cl0 rfl lb152 dX0_ringUp_64 (fun ht13 => ?_)
    refine Rk.gR (pc := 67) ((σ10 152 2).toNat + 12) flX0_80 cl6 rfl ht13 dX0_ringUp_67 ?_
    refine Rk.sp (G_iload_n (pc := 70) 1 rfl rfl dX0_ringUp_70) ?_
    refine Rk.sp (G_iconst (pc := 71) dX0_ringUp_71) ?_
    refine Rk.as (pc := 72) hσ10 (nmI (inRk (-1) rfl)) (LBt ht13 12 (by decide)) dX0_ringUp_72 (fun hi15 σ14 hσ14 => ?_)
    refine Rk.inc (pc := 73) 1 (fun v1_16 => [some (vr 152), some (vi v1_16)]) rfl (Nat.le_of_ble_eq_true rfl) rfl dX0_ringUp_73 (fun _ => rfl) (fun v1_16 hv1_16 => ?_)
    refine Rk.sp (G_goto (pc := 76) (tgt := 52) dX0_ringUp_76 rfl) ?_
    exact Rk.end_ (fun h => h ⟨hv1_16, hσ14⟩)
  · refine Rk.sp (G_aload_n (pc := 79) 0 rfl rfl dX0_ringUp_79) ?_
    refine Rk.gD (pc := 80) flX0_25 cl0 rfl lb152 dX0_ringUp_80 (fun ht17 => ?_)
    refine Rk.sp (G_iconst (pc := 83) dX0_ringUp_83) ?_
    refine Rk.pI (pc := 84) hσ10 (nmI (inRk 0 rfl)) flX0_77 cl6 rfl rfl ht17 dX0_ringUp_84 (fun σ18 hσ18 => ?_)
    refine Rk.sp (G_aload_n (pc := 87) 0 rfl rfl dX0_ringUp_87) ?_
    refine Rk.sp (G_iconst (pc := 88) dX0_ringUp_88) ?_
    refine Rk.sp (G_iconst (pc := 89) dX0_ringUp_89) ?_
    refine Rk.sp (G_iconst (pc := 90) dX0_ringUp_90) ?_
    refine Rk.cV (pc := 91) (Cl.v [vi 4, vi (-1), vi (-1)] [] dX0_ringUp_91 ckX0_114 lb152 rfl rfl rfl (Nat.le_of_ble_eq_true rfl) (Nat.le_of_ble_eq_true rfl)) (k_Co_note 4 (-1) (-1) σ18 (inRk 4 rfl) (inRk (-1) rfl) (inRk (-1) rfl) hσ18) (fun σ19 hσ19 => ?_)
    exact Rk.end_ (fun h => G_return (pc := 94) rfl dX0_ringUp_94 (q_V h hσ19))
theorem k_Td_ring {κ : Kx} {μ : Sg} (σ : Sg) (hok : okS σ) : CtI κ mX8_ring 3 [vr 0] false μ σ (Td_ring σ) := by
  intro r τ h
  refine con_of (by decide) (Nat.le_of_ble_eq_true rfl) 0 ?_
  refine (?_ : Rk κ mX8_ring _ 0 [some (vr 0)] [] (ms false μ σ) (Td_ring σ) (fun a => a = (r, τ))) _ h rfl
  unfold Td_ring
  refine Rk.sp (G_aload_n (pc := 0) 0 rfl rfl dX8_ring_0) ?_
  refine Rk.gR (pc := 1) 61 flX8_22 cl8 rfl lb0 dX8_ring_1 ?_
  refine Rk.sp (G_aload_n (pc := 4) 0 rfl rfl dX8_ring_4) ?_
  refine Rk.gR (pc := 5) 1 flX8_12 cl8 rfl lb0 dX8_ring_5 ?_
  refine Rk.gR (pc := 8) 2 flX8_71 cl7 rfl lb1 dX8_ring_8 ?_
  refine Rk.cV (pc := 11) (Cl.v [vr 2] [] dX8_ring_11 ckX8_108 lb61 rfl rfl rfl (Nat.le_of_ble_eq_true rfl) (Nat.le_of_ble_eq_true rfl)) (k_Pa_keep 2 σ lb2 hok) (fun σ1 hσ1 => ?_)
  refine Rk.sp (G_aload_n (pc := 14) 0 rfl rfl dX8_ring_14) ?_
  refine Rk.gR (pc := 15) 152 flX8_45 cl8 rfl lb0 dX8_ring_15 ?_
  refine Rk.sp (G_aload_n (pc := 18) 0 rfl rfl dX8_ring_18) ?_
  refine Rk.gR (pc := 19) 1 flX8_12 cl8 rfl lb0 dX8_ring_19 ?_
  refine Rk.gR (pc := 22) 2 flX8_71 cl7 rfl lb1 dX8_ring_22 ?_
  refine Rk.sp (G_iconst (pc := 25) dX8_ring_25) ?_
  refine Rk.cV (pc := 26) (Cl.v [vr 2, vi 0] [] dX8_ring_26 ckX8_112 lb152 rfl rfl rfl (Nat.le_of_ble_eq_true rfl) (Nat.le_of_ble_eq_true rfl)) (k_Co_begin 2 0 σ1 lb2 (inRk 0 rfl) hσ1) (fun σ2 hσ2 => ?_)
  refine Rk.sp (G_aload_n (pc := 29) 0 rfl rfl dX8_ring_29) ?_
  refine Rk.gR (pc := 30) 152 flX8_45 cl8 rfl lb0 dX8_ring_30 ?_
  refine Rk.cV (pc := 33) (Cl.v [] [] dX8_ring_33 ckX8_130 lb152 rfl rfl rfl (Nat.le_of_ble_eq_true rfl) (Nat.le_of_ble_eq_true rfl)) (k_Co_ringUp σ2 hσ2) (fun σ3 hσ3 => ?_)
  refine Rk.sp (G_aload_n (pc := 36) 0 rfl rfl dX8_ring_36) ?_
  refine Rk.gR (pc := 37) 1 flX8_12 cl8 rfl lb0 dX8_ring_37 ?_
  refine Rk.gR (pc := 40) 2 flX8_71 cl7 rfl lb1 dX8_ring_40 ?_
  refine Rk.cRI (pc := 43) (Cl.v [] [] dX8_ring_43 ckX8_133 lb2 rfl rfl rfl (Nat.le_of_ble_eq_true rfl) (Nat.le_of_ble_eq_true rfl)) (k_Ta_crossTogether 2 σ3 lb2 hσ3) (fun r4 hr4 => ?_)
  exact Rk.end_ (fun h => G_ireturn (pc := 46) rfl dX8_ring_46 (q_I h hr4 hσ3))
theorem k_Td_say {κ : Kx} {μ : Sg} (a1 : Int) (a2 : Int) (a3 : Int) (a4 : Int) (σ : Sg) (ha1 : inR a1) (ha2 : inR a2) (ha3 : inR a3) (ha4 : inR a4) (hok : okS σ) : CtI κ mX8_say 3 [vr 0, vi a1, vi a2, vi a3, vi a4] false μ σ (Td_say a1 a2 a3 a4 σ) := by
  intro r τ h
  refine con_of (by decide) (Nat.le_of_ble_eq_true rfl) 0 ?_
  refine (?_ : Rk κ mX8_say _ 0 [some (vr 0), some (vi a1), some (vi a2), some (vi a3), some (vi a4)] [] (ms false μ σ) (Td_say a1 a2 a3 a4 σ) (fun a => a = (r, τ))) _ h rfl
  unfold Td_say
  refine Rk.sp (G_iload_n (pc := 0) 1 rfl rfl dX8_say_0) ?_
  refine Rk.cRZ (pc := 1) (Cl.s [vi a1] [] dX8_say_1 ckX8_85 rfl rfl (Nat.le_of_ble_eq_true rfl) (Nat.le_of_ble_eq_true rfl)) (k_Td_isOne a1 ha1) (fun r1 hr1 => ?_)
  refine Rk.if_eq (pc := 4) (tgt := 40) dX8_say_4 (nmI (inZ.R hr1)) rfl (fun hc2 => ?_) (fun hc2 => ?_)
  · refine Rk.sp (G_iconst (pc := 40) dX8_say_40) ?_
    exact Rk.end_ (fun h => G_ireturn (pc := 41) rfl dX8_say_41 (q_I h (inRk (-1) rfl) hok))
  · refine Rk.sp (G_iload_n (pc := 7) 2 rfl rfl dX8_say_7) ?_
    refine Rk.sp (G_iconst (pc := 8) dX8_say_8) ?_
    refine Rk.sp (G_bipush (pc := 9) dX8_say_9 rfl) ?_
    refine Rk.cRZ (pc := 11) (Cl.s [vi a2, vi 1, vi 99] [] dX8_say_11 ckX8_81 rfl rfl (Nat.le_of_ble_eq_true rfl) (Nat.le_of_ble_eq_true rfl)) (k_Td_within a2 1 99 ha2 (inRk 1 rfl) (inRk 99 rfl)) (fun r3 hr3 => ?_)
    refine Rk.if_eq (pc := 14) (tgt := 40) dX8_say_14 (nmI (inZ.R hr3)) rfl (fun hc4 => ?_) (fun hc4 => ?_)
    · refine Rk.sp (G_iconst (pc := 40) dX8_say_40) ?_
      exact Rk.end_ (fun h => G_ireturn (pc := 41) rfl dX8_say_41 (q_I h (inRk (-1) rfl) hok))
    · refine Rk.sp (G_iload_n (pc := 17) 3 rfl rfl dX8_say_17) ?_
      refine Rk.sp (G_iconst (pc := 18) dX8_say_18) ?_
      refine Rk.sp (G_bipush (pc := 19) dX8_say_19 rfl) ?_
      refine Rk.cRZ (pc := 21) (Cl.s [vi a3, vi 0, vi 9] [] dX8_say_21 ckX8_81 rfl rfl (Nat.le_of_ble_eq_true rfl) (Nat.le_of_ble_eq_true rfl)) (k_Td_within a3 0 9 ha3 (inRk 0 rfl) (inRk 9 rfl)) (fun r5 hr5 => ?_)
      refine Rk.if_eq (pc := 24) (tgt := 40) dX8_say_24 (nmI (inZ.R hr5)) rfl (fun hc6 => ?_) (fun hc6 => ?_)
      · refine Rk.sp (G_iconst (pc := 40) dX8_say_40) ?_
        exact Rk.end_ (fun h => G_ireturn (pc := 41) rfl dX8_say_41 (q_I h (inRk (-1) rfl) hok))
      · refine Rk.sp (G_aload_n (pc := 27) 0 rfl rfl dX8_say_27) ?_
        refine Rk.gR (pc := 28) 1 flX8_12 cl8 rfl lb0 dX8_say_28 ?_
        refine Rk.gR (pc := 31) 2 flX8_71 cl7 rfl lb1 dX8_say_31 ?_
        refine Rk.cRZ (pc := 34) (Cl.v [] [] dX8_say_34 ckX8_104 lb2 rfl rfl rfl (Nat.le_of_ble_eq_true rfl) (Nat.le_of_ble_eq_true rfl)) (k_Ta_isFull 2 σ lb2 hok) (fun r7 hr7 => ?_)
        refine Rk.if_eq (pc := 37) (tgt := 42) dX8_say_37 (nmI (inZ.R hr7)) rfl (fun hc8 => ?_) (fun hc8 => ?_)
        · refine Rk.sp (G_aload_n (pc := 42) 0 rfl rfl dX8_say_42) ?_
          refine Rk.gR (pc := 43) 61 flX8_22 cl8 rfl lb0 dX8_say_43 ?_
          refine Rk.sp (G_aload_n (pc := 46) 0 rfl rfl dX8_say_46) ?_
          refine Rk.gR (pc := 47) 1 flX8_12 cl8 rfl lb0 dX8_say_47 ?_
          refine Rk.gR (pc := 50) 2 flX8_71 cl7 rfl lb1 dX8_say_50 ?_
          refine Rk.cV (pc := 53) (Cl.v [vr 2] [] dX8_say_53 ckX8_108 lb61 rfl rfl rfl (Nat.le_of_ble_eq_true rfl) (Nat.le_of_ble_eq_true rfl)) (k_Pa_keep 2 σ lb2 hok) (fun σ9 hσ9 => ?_)
          refine Rk.sp (G_aload_n (pc := 56) 0 rfl rfl dX8_say_56) ?_
          refine Rk.gR (pc := 57) 152 flX8_45 cl8 rfl lb0 dX8_say_57 ?_
          refine Rk.sp (G_aload_n (pc := 60) 0 rfl rfl dX8_say_60) ?_
          refine Rk.gR (pc := 61) 1 flX8_12 cl8 rfl lb0 dX8_say_61 ?_
          refine Rk.gR (pc := 64) 2 flX8_71 cl7 rfl lb1 dX8_say_64 ?_
          refine Rk.sp (G_iconst (pc := 67) dX8_say_67) ?_
          refine Rk.cV (pc := 68) (Cl.v [vr 2, vi 0] [] dX8_say_68 ckX8_112 lb152 rfl rfl rfl (Nat.le_of_ble_eq_true rfl) (Nat.le_of_ble_eq_true rfl)) (k_Co_begin 2 0 σ9 lb2 (inRk 0 rfl) hσ9) (fun σ10 hσ10 => ?_)
          refine Rk.sp (G_aload_n (pc := 71) 0 rfl rfl dX8_say_71) ?_
          refine Rk.gR (pc := 72) 152 flX8_45 cl8 rfl lb0 dX8_say_72 ?_
          refine Rk.sp (G_iload_n (pc := 75) 1 rfl rfl dX8_say_75) ?_
          refine Rk.sp (G_iload_n (pc := 76) 2 rfl rfl dX8_say_76) ?_
          refine Rk.sp (G_iload_n (pc := 77) 3 rfl rfl dX8_say_77) ?_
          refine Rk.sp (G_iload_w (pc := 78) 4 rfl dX8_say_78) ?_
          refine Rk.join (P := fun p => inR p) (pcj := 88) (fun p => [none, none, none, none, none]) (fun p => [vi p, vi a3, vi a2, vi a1, vr 152]) (fun p => (ms false μ σ10)) ?_ (fun p hp => ?_)
          · refine Rk.if_eq (pc := 80) (tgt := 87) dX8_say_80 (nmI ha4) rfl (fun hc11 => ?_) (fun hc11 => ?_)
            · refine Rk.sp (G_iconst (pc := 87) dX8_say_87) ?_
              refine Rk.fg [false, false, false, false, false] (L' := [none, none, none, none, none]) rfl ?_
              exact Rk.end_ (fun h => h (inRk 0 rfl))
            · refine Rk.sp (G_iconst (pc := 83) dX8_say_83) ?_
              refine Rk.sp (G_goto (pc := 84) (tgt := 88) dX8_say_84 rfl) ?_
              refine Rk.fg [false, false, false, false, false] (L' := [none, none, none, none, none]) rfl ?_
              exact Rk.end_ (fun h => h (inRk 1 rfl))
          · revert hp; revert p; intro t12 ht12
            try dsimp only
            refine Rk.cI (pc := 88) (Cl.v [vi a1, vi a2, vi a3, vi t12] [] dX8_say_88 ckX8_116 lb152 rfl rfl rfl (Nat.le_of_ble_eq_true rfl) (Nat.le_of_ble_eq_true rfl)) (k_Co_utter a1 a2 a3 t12 σ10 ha1 ha2 ha3 ht12 hσ10) (fun r13 σ14 hr13 hσ14 => ?_)
            exact Rk.end_ (fun h => G_ireturn (pc := 91) rfl dX8_say_91 (q_I h hr13 hσ14))
        · refine Rk.sp (G_iconst (pc := 40) dX8_say_40) ?_
          exact Rk.end_ (fun h => G_ireturn (pc := 41) rfl dX8_say_41 (q_I h (inRk (-1) rfl) hok))
theorem k_Ta_clearMessages {κ : Kx} {μ : Sg} (t0 : Nat) (σ : Sg) (ht0 : LB false t0 (1, 6)) (hok : okS σ) : CtV κ mX6_clearMessages 0 [vr t0] false μ σ (Ta_clearMessages t0 σ) := by
  intro τ h
  refine con_of (by decide) (Nat.le_of_ble_eq_true rfl) 0 ?_
  refine (?_ : Rk κ mX6_clearMessages _ 0 [some (vr t0)] [] (ms false μ σ) (Ta_clearMessages t0 σ) (fun a => a = τ)) _ h rfl
  unfold Ta_clearMessages
  refine Rk.sp (G_aload_n (pc := 0) 0 rfl rfl dX6_clearMessages_0) ?_
  refine Rk.sp (G_iconst (pc := 1) dX6_clearMessages_1) ?_
  refine Rk.pI (pc := 2) hok (nmI (inRk 0 rfl)) flX6_55 cl6 rfl rfl ht0 dX6_clearMessages_2 (fun σ1 hσ1 => ?_)
  refine Rk.sp (G_aload_n (pc := 5) 0 rfl rfl dX6_clearMessages_5) ?_
  refine Rk.sp (G_iconst (pc := 6) dX6_clearMessages_6) ?_
  refine Rk.pI (pc := 7) hσ1 (nmI (inRk 0 rfl)) flX6_61 cl6 rfl rfl ht0 dX6_clearMessages_7 (fun σ2 hσ2 => ?_)
  refine Rk.sp (G_aload_n (pc := 10) 0 rfl rfl dX6_clearMessages_10) ?_
  refine Rk.sp (G_iconst (pc := 11) dX6_clearMessages_11) ?_
  refine Rk.pI (pc := 12) hσ2 (nmI (inRk 0 rfl)) flX6_64 cl6 rfl rfl ht0 dX6_clearMessages_12 (fun σ3 hσ3 => ?_)
  exact Rk.end_ (fun h => G_return (pc := 15) rfl dX6_clearMessages_15 (q_V h hσ3))
theorem k_Td_set {κ : Kx} {μ : Sg} (a1 : Int) (a2 : Int) (a3 : Int) (σ : Sg) (ha1 : inR a1) (ha2 : inR a2) (ha3 : inR a3) (hok : okS σ) : CtZ κ mX8_set 1 [vr 0, vi a1, vi a2, vi a3] false μ σ (Td_set a1 a2 a3 σ) := by
  intro r τ h
  refine con_of (by decide) (Nat.le_of_ble_eq_true rfl) 1 ?_
  refine (?_ : Rk κ mX8_set _ 0 [some (vr 0), some (vi a1), some (vi a2), some (vi a3), none] [] (ms false μ σ) (Td_set a1 a2 a3 σ) (fun a => a = (r, τ))) _ h rfl
  unfold Td_set
  refine Rk.sp (G_iload_n (pc := 0) 1 rfl rfl dX8_set_0) ?_
  refine Rk.if_ne (pc := 1) (tgt := 18) dX8_set_1 (nmI ha1) rfl (fun hc1 => ?_) (fun hc1 => ?_)
  · refine Rk.sp (G_iload_n (pc := 4) 3 rfl rfl dX8_set_4) ?_
    refine Rk.sp (G_iconst (pc := 5) dX8_set_5) ?_
    refine Rk.sp (G_sipush (pc := 6) dX8_set_6 rfl) ?_
    refine Rk.cRZ (pc := 9) (Cl.s [vi a3, vi 0, vi 9999] [] dX8_set_9 ckX8_81 rfl rfl (Nat.le_of_ble_eq_true rfl) (Nat.le_of_ble_eq_true rfl)) (k_Td_within a3 0 9999 ha3 (inRk 0 rfl) (inRk 9999 rfl)) (fun r2 hr2 => ?_)
    refine Rk.if_ne (pc := 12) (tgt := 27) dX8_set_12 (nmI (inZ.R hr2)) rfl (fun hc3 => ?_) (fun hc3 => ?_)
    · refine Rk.sp (G_goto (pc := 15) (tgt := 25) dX8_set_15 rfl) ?_
      refine Rk.sp (G_iconst (pc := 25) dX8_set_25) ?_
      exact Rk.end_ (fun h => G_zreturn (pc := 26) rfl (nz inZ0) dX8_set_26 (q_Z h inZ0 hok))
    · refine Rk.sp (G_aload_n (pc := 27) 0 rfl rfl dX8_set_27) ?_
      refine Rk.gR (pc := 28) 1 flX8_12 cl8 rfl lb0 dX8_set_28 ?_
      refine Rk.gR (pc := 31) 2 flX8_71 cl7 rfl lb1 dX8_set_31 ?_
      refine Rk.ast_w (pc := 34) 4 (L' := [some (vr 0), some (vi a1), some (vi a2), some (vi a3), some (vr 2)]) (Nat.le_of_ble_eq_true rfl) rfl dX8_set_34 rfl ?_
      refine Rk.sp (G_iload_n (pc := 36) 1 rfl rfl dX8_set_36) ?_
      refine Rk.if_ne (pc := 37) (tgt := 54) dX8_set_37 (nmI ha1) rfl (fun hc4 => ?_) (fun hc4 => ?_)
      · refine Rk.sp (G_aload_w (pc := 40) 4 rfl dX8_set_40) ?_
        refine Rk.sp (G_iload_n (pc := 42) 3 rfl rfl dX8_set_42) ?_
        refine Rk.pI (pc := 43) hok (nmI ha3) flX8_89 cl6 rfl rfl lb2 dX8_set_43 (fun σ5 hσ5 => ?_)
        refine Rk.sp (G_aload_w (pc := 46) 4 rfl dX8_set_46) ?_
        refine Rk.cV (pc := 48) (Cl.v [] [] dX8_set_48 ckX8_92 lb2 rfl rfl rfl (Nat.le_of_ble_eq_true rfl) (Nat.le_of_ble_eq_true rfl)) (k_Ta_clearMessages 2 σ5 lb2 hσ5) (fun σ6 hσ6 => ?_)
        refine Rk.sp (G_goto (pc := 51) (tgt := 134) dX8_set_51 rfl) ?_
        refine Rk.sp (G_aload_n (pc := 134) 0 rfl rfl dX8_set_134) ?_
        refine Rk.gR (pc := 135) 61 flX8_22 cl8 rfl lb0 dX8_set_135 ?_
        refine Rk.cV (pc := 138) (Cl.v [] [] dX8_set_138 ckX8_78 lb61 rfl rfl rfl (Nat.le_of_ble_eq_true rfl) (Nat.le_of_ble_eq_true rfl)) (k_Pa_forget σ6 hσ6) (fun σ7 hσ7 => ?_)
        refine Rk.sp (G_iconst (pc := 141) dX8_set_141) ?_
        exact Rk.end_ (fun h => G_zreturn (pc := 142) rfl (nz inZ1) dX8_set_142 (q_Z h inZ1 hσ7))
      · refine Rk.sp (G_iload_n (pc := 54) 1 rfl rfl dX8_set_54) ?_
        refine Rk.sp (G_iconst (pc := 55) dX8_set_55) ?_
        refine Rk.sel (A := 80) (B := 69) (st' := []) ?_ ?_ ?_
        · refine Rk.icmp_ne (pc := 56) (tgt := 80) dX8_set_56 (nmI ha1) (nmI (inRk 1 rfl)) rfl (fun hc8 => ?_) (fun hc8 => ?_)
          · refine Rk.sp (G_iload_n (pc := 59) 3 rfl rfl dX8_set_59) ?_
            refine Rk.sp (G_iconst (pc := 60) dX8_set_60) ?_
            refine Rk.sp (G_bipush (pc := 61) dX8_set_61 rfl) ?_
            refine Rk.cRZ (pc := 63) (Cl.s [vi a3, vi 0, vi 99] [] dX8_set_63 ckX8_81 rfl rfl (Nat.le_of_ble_eq_true rfl) (Nat.le_of_ble_eq_true rfl)) (k_Td_within a3 0 99 ha3 (inRk 0 rfl) (inRk 99 rfl)) (fun r9 hr9 => ?_)
            refine Rk.if_eq (pc := 66) (tgt := 80) dX8_set_66 (nmI (inZ.R hr9)) rfl (fun hc10 => ?_) (fun hc10 => ?_)
            · exact Rk.end_ (fun h => h inZ1)
            · exact Rk.end_ (fun h => h inZ0)
          · exact Rk.end_ (fun h => h inZ1)
        · refine Rk.sp (G_aload_w (pc := 69) 4 rfl dX8_set_69) ?_
          refine Rk.gR (pc := 71) 3 flX8_95 cl6 rfl lb2 dX8_set_71 ?_
          refine Rk.sp (G_iload_n (pc := 74) 2 rfl rfl dX8_set_74) ?_
          refine Rk.sp (G_iload_n (pc := 75) 3 rfl rfl dX8_set_75) ?_
          refine Rk.as (pc := 76) hok (nmI ha3) lb3 dX8_set_76 (fun hi25 σ24 hσ24 => ?_)
          refine Rk.sp (G_goto (pc := 77) (tgt := 134) dX8_set_77 rfl) ?_
          refine Rk.sp (G_aload_n (pc := 134) 0 rfl rfl dX8_set_134) ?_
          refine Rk.gR (pc := 135) 61 flX8_22 cl8 rfl lb0 dX8_set_135 ?_
          refine Rk.cV (pc := 138) (Cl.v [] [] dX8_set_138 ckX8_78 lb61 rfl rfl rfl (Nat.le_of_ble_eq_true rfl) (Nat.le_of_ble_eq_true rfl)) (k_Pa_forget σ24 hσ24) (fun σ26 hσ26 => ?_)
          refine Rk.sp (G_iconst (pc := 141) dX8_set_141) ?_
          exact Rk.end_ (fun h => G_zreturn (pc := 142) rfl (nz inZ1) dX8_set_142 (q_Z h inZ1 hσ26))
        · refine Rk.sp (G_iload_n (pc := 80) 1 rfl rfl dX8_set_80) ?_
          refine Rk.sp (G_iconst (pc := 81) dX8_set_81) ?_
          refine Rk.sel (A := 107) (B := 96) (st' := []) ?_ ?_ ?_
          · refine Rk.icmp_ne (pc := 82) (tgt := 107) dX8_set_82 (nmI ha1) (nmI (inRk 2 rfl)) rfl (fun hc11 => ?_) (fun hc11 => ?_)
            · refine Rk.sp (G_iload_n (pc := 85) 3 rfl rfl dX8_set_85) ?_
              refine Rk.sp (G_iconst (pc := 86) dX8_set_86) ?_
              refine Rk.sp (G_sipush (pc := 87) dX8_set_87 rfl) ?_
              refine Rk.cRZ (pc := 90) (Cl.s [vi a3, vi 0, vi 9999] [] dX8_set_90 ckX8_81 rfl rfl (Nat.le_of_ble_eq_true rfl) (Nat.le_of_ble_eq_true rfl)) (k_Td_within a3 0 9999 ha3 (inRk 0 rfl) (inRk 9999 rfl)) (fun r12 hr12 => ?_)
              refine Rk.if_eq (pc := 93) (tgt := 107) dX8_set_93 (nmI (inZ.R hr12)) rfl (fun hc13 => ?_) (fun hc13 => ?_)
              · exact Rk.end_ (fun h => h inZ1)
              · exact Rk.end_ (fun h => h inZ0)
            · exact Rk.end_ (fun h => h inZ1)
          · refine Rk.sp (G_aload_w (pc := 96) 4 rfl dX8_set_96) ?_
            refine Rk.gR (pc := 98) 4 flX8_98 cl6 rfl lb2 dX8_set_98 ?_
            refine Rk.sp (G_iload_n (pc := 101) 2 rfl rfl dX8_set_101) ?_
            refine Rk.sp (G_iload_n (pc := 102) 3 rfl rfl dX8_set_102) ?_
            refine Rk.as (pc := 103) hok (nmI ha3) lb4 dX8_set_103 (fun hi21 σ20 hσ20 => ?_)
            refine Rk.sp (G_goto (pc := 104) (tgt := 134) dX8_set_104 rfl) ?_
            refine Rk.sp (G_aload_n (pc := 134) 0 rfl rfl dX8_set_134) ?_
            refine Rk.gR (pc := 135) 61 flX8_22 cl8 rfl lb0 dX8_set_135 ?_
            refine Rk.cV (pc := 138) (Cl.v [] [] dX8_set_138 ckX8_78 lb61 rfl rfl rfl (Nat.le_of_ble_eq_true rfl) (Nat.le_of_ble_eq_true rfl)) (k_Pa_forget σ20 hσ20) (fun σ22 hσ22 => ?_)
            refine Rk.sp (G_iconst (pc := 141) dX8_set_141) ?_
            exact Rk.end_ (fun h => G_zreturn (pc := 142) rfl (nz inZ1) dX8_set_142 (q_Z h inZ1 hσ22))
          · refine Rk.sp (G_iload_n (pc := 107) 1 rfl rfl dX8_set_107) ?_
            refine Rk.sp (G_iconst (pc := 108) dX8_set_108) ?_
            refine Rk.icmp_ne (pc := 109) (tgt := 132) dX8_set_109 (nmI ha1) (nmI (inRk 3 rfl)) rfl (fun hc14 => ?_) (fun hc14 => ?_)
            · refine Rk.sp (G_iload_n (pc := 112) 3 rfl rfl dX8_set_112) ?_
              refine Rk.sp (G_iconst (pc := 113) dX8_set_113) ?_
              refine Rk.sp (G_iconst (pc := 114) dX8_set_114) ?_
              refine Rk.cRZ (pc := 115) (Cl.s [vi a3, vi 0, vi 1] [] dX8_set_115 ckX8_81 rfl rfl (Nat.le_of_ble_eq_true rfl) (Nat.le_of_ble_eq_true rfl)) (k_Td_within a3 0 1 ha3 (inRk 0 rfl) (inRk 1 rfl)) (fun r15 hr15 => ?_)
              refine Rk.if_eq (pc := 118) (tgt := 132) dX8_set_118 (nmI (inZ.R hr15)) rfl (fun hc16 => ?_) (fun hc16 => ?_)
              · refine Rk.sp (G_iconst (pc := 132) dX8_set_132) ?_
                exact Rk.end_ (fun h => G_zreturn (pc := 133) rfl (nz inZ0) dX8_set_133 (q_Z h inZ0 hok))
              · refine Rk.sp (G_aload_w (pc := 121) 4 rfl dX8_set_121) ?_
                refine Rk.gR (pc := 123) 5 flX8_101 cl6 rfl lb2 dX8_set_123 ?_
                refine Rk.sp (G_iload_n (pc := 126) 2 rfl rfl dX8_set_126) ?_
                refine Rk.sp (G_iload_n (pc := 127) 3 rfl rfl dX8_set_127) ?_
                refine Rk.as (pc := 128) hok (nmI ha3) lb5 dX8_set_128 (fun hi18 σ17 hσ17 => ?_)
                refine Rk.sp (G_goto (pc := 129) (tgt := 134) dX8_set_129 rfl) ?_
                refine Rk.sp (G_aload_n (pc := 134) 0 rfl rfl dX8_set_134) ?_
                refine Rk.gR (pc := 135) 61 flX8_22 cl8 rfl lb0 dX8_set_135 ?_
                refine Rk.cV (pc := 138) (Cl.v [] [] dX8_set_138 ckX8_78 lb61 rfl rfl rfl (Nat.le_of_ble_eq_true rfl) (Nat.le_of_ble_eq_true rfl)) (k_Pa_forget σ17 hσ17) (fun σ19 hσ19 => ?_)
                refine Rk.sp (G_iconst (pc := 141) dX8_set_141) ?_
                exact Rk.end_ (fun h => G_zreturn (pc := 142) rfl (nz inZ1) dX8_set_142 (q_Z h inZ1 hσ19))
            · refine Rk.sp (G_iconst (pc := 132) dX8_set_132) ?_
              exact Rk.end_ (fun h => G_zreturn (pc := 133) rfl (nz inZ0) dX8_set_133 (q_Z h inZ0 hok))
  · refine Rk.sp (G_iload_n (pc := 18) 2 rfl rfl dX8_set_18) ?_
    refine Rk.cRZ (pc := 19) (Cl.s [vi a2] [] dX8_set_19 ckX8_85 rfl rfl (Nat.le_of_ble_eq_true rfl) (Nat.le_of_ble_eq_true rfl)) (k_Td_isOne a2 ha2) (fun r28 hr28 => ?_)
    refine Rk.if_ne (pc := 22) (tgt := 27) dX8_set_22 (nmI (inZ.R hr28)) rfl (fun hc29 => ?_) (fun hc29 => ?_)
    · refine Rk.sp (G_iconst (pc := 25) dX8_set_25) ?_
      exact Rk.end_ (fun h => G_zreturn (pc := 26) rfl (nz inZ0) dX8_set_26 (q_Z h inZ0 hok))
    · refine Rk.sp (G_aload_n (pc := 27) 0 rfl rfl dX8_set_27) ?_
      refine Rk.gR (pc := 28) 1 flX8_12 cl8 rfl lb0 dX8_set_28 ?_
      refine Rk.gR (pc := 31) 2 flX8_71 cl7 rfl lb1 dX8_set_31 ?_
      refine Rk.ast_w (pc := 34) 4 (L' := [some (vr 0), some (vi a1), some (vi a2), some (vi a3), some (vr 2)]) (Nat.le_of_ble_eq_true rfl) rfl dX8_set_34 rfl ?_
      refine Rk.sp (G_iload_n (pc := 36) 1 rfl rfl dX8_set_36) ?_
      refine Rk.if_ne (pc := 37) (tgt := 54) dX8_set_37 (nmI ha1) rfl (fun hc30 => ?_) (fun hc30 => ?_)
      · refine Rk.sp (G_aload_w (pc := 40) 4 rfl dX8_set_40) ?_
        refine Rk.sp (G_iload_n (pc := 42) 3 rfl rfl dX8_set_42) ?_
        refine Rk.pI (pc := 43) hok (nmI ha3) flX8_89 cl6 rfl rfl lb2 dX8_set_43 (fun σ31 hσ31 => ?_)
        refine Rk.sp (G_aload_w (pc := 46) 4 rfl dX8_set_46) ?_
        refine Rk.cV (pc := 48) (Cl.v [] [] dX8_set_48 ckX8_92 lb2 rfl rfl rfl (Nat.le_of_ble_eq_true rfl) (Nat.le_of_ble_eq_true rfl)) (k_Ta_clearMessages 2 σ31 lb2 hσ31) (fun σ32 hσ32 => ?_)
        refine Rk.sp (G_goto (pc := 51) (tgt := 134) dX8_set_51 rfl) ?_
        refine Rk.sp (G_aload_n (pc := 134) 0 rfl rfl dX8_set_134) ?_
        refine Rk.gR (pc := 135) 61 flX8_22 cl8 rfl lb0 dX8_set_135 ?_
        refine Rk.cV (pc := 138) (Cl.v [] [] dX8_set_138 ckX8_78 lb61 rfl rfl rfl (Nat.le_of_ble_eq_true rfl) (Nat.le_of_ble_eq_true rfl)) (k_Pa_forget σ32 hσ32) (fun σ33 hσ33 => ?_)
        refine Rk.sp (G_iconst (pc := 141) dX8_set_141) ?_
        exact Rk.end_ (fun h => G_zreturn (pc := 142) rfl (nz inZ1) dX8_set_142 (q_Z h inZ1 hσ33))
      · refine Rk.sp (G_iload_n (pc := 54) 1 rfl rfl dX8_set_54) ?_
        refine Rk.sp (G_iconst (pc := 55) dX8_set_55) ?_
        refine Rk.sel (A := 80) (B := 69) (st' := []) ?_ ?_ ?_
        · refine Rk.icmp_ne (pc := 56) (tgt := 80) dX8_set_56 (nmI ha1) (nmI (inRk 1 rfl)) rfl (fun hc34 => ?_) (fun hc34 => ?_)
          · refine Rk.sp (G_iload_n (pc := 59) 3 rfl rfl dX8_set_59) ?_
            refine Rk.sp (G_iconst (pc := 60) dX8_set_60) ?_
            refine Rk.sp (G_bipush (pc := 61) dX8_set_61 rfl) ?_
            refine Rk.cRZ (pc := 63) (Cl.s [vi a3, vi 0, vi 99] [] dX8_set_63 ckX8_81 rfl rfl (Nat.le_of_ble_eq_true rfl) (Nat.le_of_ble_eq_true rfl)) (k_Td_within a3 0 99 ha3 (inRk 0 rfl) (inRk 99 rfl)) (fun r35 hr35 => ?_)
            refine Rk.if_eq (pc := 66) (tgt := 80) dX8_set_66 (nmI (inZ.R hr35)) rfl (fun hc36 => ?_) (fun hc36 => ?_)
            · exact Rk.end_ (fun h => h inZ1)
            · exact Rk.end_ (fun h => h inZ0)
          · exact Rk.end_ (fun h => h inZ1)
        · refine Rk.sp (G_aload_w (pc := 69) 4 rfl dX8_set_69) ?_
          refine Rk.gR (pc := 71) 3 flX8_95 cl6 rfl lb2 dX8_set_71 ?_
          refine Rk.sp (G_iload_n (pc := 74) 2 rfl rfl dX8_set_74) ?_
          refine Rk.sp (G_iload_n (pc := 75) 3 rfl rfl dX8_set_75) ?_
          refine Rk.as (pc := 76) hok (nmI ha3) lb3 dX8_set_76 (fun hi51 σ50 hσ50 => ?_)
          refine Rk.sp (G_goto (pc := 77) (tgt := 134) dX8_set_77 rfl) ?_
          refine Rk.sp (G_aload_n (pc := 134) 0 rfl rfl dX8_set_134) ?_
          refine Rk.gR (pc := 135) 61 flX8_22 cl8 rfl lb0 dX8_set_135 ?_
          refine Rk.cV (pc := 138) (Cl.v [] [] dX8_set_138 ckX8_78 lb61 rfl rfl rfl (Nat.le_of_ble_eq_true rfl) (Nat.le_of_ble_eq_true rfl)) (k_Pa_forget σ50 hσ50) (fun σ52 hσ52 => ?_)
          refine Rk.sp (G_iconst (pc := 141) dX8_set_141) ?_
          exact Rk.end_ (fun h => G_zreturn (pc := 142) rfl (nz inZ1) dX8_set_142 (q_Z h inZ1 hσ52))
        · refine Rk.sp (G_iload_n (pc := 80) 1 rfl rfl dX8_set_80) ?_
          refine Rk.sp (G_iconst (pc := 81) dX8_set_81) ?_
          refine Rk.sel (A := 107) (B := 96) (st' := []) ?_ ?_ ?_
          · refine Rk.icmp_ne (pc := 82) (tgt := 107) dX8_set_82 (nmI ha1) (nmI (inRk 2 rfl)) rfl (fun hc37 => ?_) (fun hc37 => ?_)
            · refine Rk.sp (G_iload_n (pc := 85) 3 rfl rfl dX8_set_85) ?_
              refine Rk.sp (G_iconst (pc := 86) dX8_set_86) ?_
              refine Rk.sp (G_sipush (pc := 87) dX8_set_87 rfl) ?_
              refine Rk.cRZ (pc := 90) (Cl.s [vi a3, vi 0, vi 9999] [] dX8_set_90 ckX8_81 rfl rfl (Nat.le_of_ble_eq_true rfl) (Nat.le_of_ble_eq_true rfl)) (k_Td_within a3 0 9999 ha3 (inRk 0 rfl) (inRk 9999 rfl)) (fun r38 hr38 => ?_)
              refine Rk.if_eq (pc := 93) (tgt := 107) dX8_set_93 (nmI (inZ.R hr38)) rfl (fun hc39 => ?_) (fun hc39 => ?_)
              · exact Rk.end_ (fun h => h inZ1)
              · exact Rk.end_ (fun h => h inZ0)
            · exact Rk.end_ (fun h => h inZ1)
          · refine Rk.sp (G_aload_w (pc := 96) 4 rfl dX8_set_96) ?_
            refine Rk.gR (pc := 98) 4 flX8_98 cl6 rfl lb2 dX8_set_98 ?_
            refine Rk.sp (G_iload_n (pc := 101) 2 rfl rfl dX8_set_101) ?_
            refine Rk.sp (G_iload_n (pc := 102) 3 rfl rfl dX8_set_102) ?_
            refine Rk.as (pc := 103) hok (nmI ha3) lb4 dX8_set_103 (fun hi47 σ46 hσ46 => ?_)
            refine Rk.sp (G_goto (pc := 104) (tgt := 134) dX8_set_104 rfl) ?_
            refine Rk.sp (G_aload_n (pc := 134) 0 rfl rfl dX8_set_134) ?_
            refine Rk.gR (pc := 135) 61 flX8_22 cl8 rfl lb0 dX8_set_135 ?_
            refine Rk.cV (pc := 138) (Cl.v [] [] dX8_set_138 ckX8_78 lb61 rfl rfl rfl (Nat.le_of_ble_eq_true rfl) (Nat.le_of_ble_eq_true rfl)) (k_Pa_forget σ46 hσ46) (fun σ48 hσ48 => ?_)
            refine Rk.sp (G_iconst (pc := 141) dX8_set_141) ?_
            exact Rk.end_ (fun h => G_zreturn (pc := 142) rfl (nz inZ1) dX8_set_142 (q_Z h inZ1 hσ48))
          · refine Rk.sp (G_iload_n (pc := 107) 1 rfl rfl dX8_set_107) ?_
            refine Rk.sp (G_iconst (pc := 108) dX8_set_108) ?_
            refine Rk.icmp_ne (pc := 109) (tgt := 132) dX8_set_109 (nmI ha1) (nmI (inRk 3 rfl)) rfl (fun hc40 => ?_) (fun hc40 => ?_)
            · refine Rk.sp (G_iload_n (pc := 112) 3 rfl rfl dX8_set_112) ?_
              refine Rk.sp (G_iconst (pc := 113) dX8_set_113) ?_
              refine Rk.sp (G_iconst (pc := 114) dX8_set_114) ?_
              refine Rk.cRZ (pc := 115) (Cl.s [vi a3, vi 0, vi 1] [] dX8_set_115 ckX8_81 rfl rfl (Nat.le_of_ble_eq_true rfl) (Nat.le_of_ble_eq_true rfl)) (k_Td_within a3 0 1 ha3 (inRk 0 rfl) (inRk 1 rfl)) (fun r41 hr41 => ?_)
              refine Rk.if_eq (pc := 118) (tgt := 132) dX8_set_118 (nmI (inZ.R hr41)) rfl (fun hc42 => ?_) (fun hc42 => ?_)
              · refine Rk.sp (G_iconst (pc := 132) dX8_set_132) ?_
                exact Rk.end_ (fun h => G_zreturn (pc := 133) rfl (nz inZ0) dX8_set_133 (q_Z h inZ0 hok))
              · refine Rk.sp (G_aload_w (pc := 121) 4 rfl dX8_set_121) ?_
                refine Rk.gR (pc := 123) 5 flX8_101 cl6 rfl lb2 dX8_set_123 ?_
                refine Rk.sp (G_iload_n (pc := 126) 2 rfl rfl dX8_set_126) ?_
                refine Rk.sp (G_iload_n (pc := 127) 3 rfl rfl dX8_set_127) ?_
                refine Rk.as (pc := 128) hok (nmI ha3) lb5 dX8_set_128 (fun hi44 σ43 hσ43 => ?_)
                refine Rk.sp (G_goto (pc := 129) (tgt := 134) dX8_set_129 rfl) ?_
                refine Rk.sp (G_aload_n (pc := 134) 0 rfl rfl dX8_set_134) ?_
                refine Rk.gR (pc := 135) 61 flX8_22 cl8 rfl lb0 dX8_set_135 ?_
                refine Rk.cV (pc := 138) (Cl.v [] [] dX8_set_138 ckX8_78 lb61 rfl rfl rfl (Nat.le_of_ble_eq_true rfl) (Nat.le_of_ble_eq_true rfl)) (k_Pa_forget σ43 hσ43) (fun σ45 hσ45 => ?_)
                refine Rk.sp (G_iconst (pc := 141) dX8_set_141) ?_
                exact Rk.end_ (fun h => G_zreturn (pc := 142) rfl (nz inZ1) dX8_set_142 (q_Z h inZ1 hσ45))
            · refine Rk.sp (G_iconst (pc := 132) dX8_set_132) ?_
              exact Rk.end_ (fun h => G_zreturn (pc := 133) rfl (nz inZ0) dX8_set_133 (q_Z h inZ0 hok))
theorem k_Gl_insertPause {κ : Kx} {μ : Sg} (a1 : Int) (a2 : Int) (σ : Sg) (ha1 : inR a1) (ha2 : inR a2) (hok : okS σ) : CtV κ mX1_insertPause 0 [vr 166, vi a1, vi a2] false μ σ (Gl_insertPause a1 a2 σ) := by
  intro τ h
  refine con_of (by decide) (Nat.le_of_ble_eq_true rfl) 1 ?_
  refine (?_ : Rk κ mX1_insertPause _ 0 [some (vr 166), some (vi a1), some (vi a2), none] [] (ms false μ σ) (Gl_insertPause a1 a2 σ) (fun a => a = τ)) _ h rfl
  unfold Gl_insertPause
  refine Rk.sp (G_aload_n (pc := 0) 0 rfl rfl dX1_insertPause_0) ?_
  refine Rk.gI (pc := 1) flX1_83 cl1 rfl lb166 dX1_insertPause_1 ?_
  refine Rk.sp (G_bipush (pc := 4) dX1_insertPause_4 rfl) ?_
  refine Rk.icmp_lt (pc := 6) (tgt := 10) dX1_insertPause_6 (nmI (hok _ _)) (nmI (inRk 60 rfl)) rfl (fun hc1 => ?_) (fun hc1 => ?_)
  · refine Rk.sp (G_aload_n (pc := 10) 0 rfl rfl dX1_insertPause_10) ?_
    refine Rk.gI (pc := 11) flX1_83 cl1 rfl lb166 dX1_insertPause_11 ?_
    refine Rk.ist_n (pc := 14) 3 (fun v3_2 => [some (vr 166), some (vi a1), some (vi a2), some (vi v3_2)]) rfl (Nat.le_of_ble_eq_true rfl) rfl dX1_insertPause_14 (nmI (hok _ _)) (fun _ => rfl) (fun v3_2 hv3_2 => ?_)
    refine Rk.loop (pc := 15) (B := (fun p => Gl_insertPause_15_b a1 a2 p.1 p.2)) (fun p => inR p.1 ∧ okS p.2) (fun p => [some (vr 166), some (vi a1), some (vi a2), some (vi p.1)]) (fun p => (ms false μ p.2)) (fun p hp => ?_) (v3_2, σ) ⟨hv3_2, hok⟩
    obtain ⟨v3_3, σ4⟩ := p
    obtain ⟨hv3_3, hσ4⟩ := hp
    try dsimp only
    unfold Gl_insertPause_15_b
    refine Rk.sp (G_iload_n (pc := 15) 3 rfl rfl dX1_insertPause_15) ?_
    refine Rk.sel (A := 65) (B := 31) (st' := []) ?_ ?_ ?_
    · refine Rk.if_le (pc := 16) (tgt := 65) dX1_insertPause_16 (nmI hv3_3) rfl (fun hc5 => ?_) (fun hc5 => ?_)
      · refine Rk.sp (G_aload_n (pc := 19) 0 rfl rfl dX1_insertPause_19) ?_
        refine Rk.gR (pc := 20) 169 flX1_20 cl1 rfl lb166 dX1_insertPause_20 ?_
        refine Rk.sp (G_iload_n (pc := 23) 3 rfl rfl dX1_insertPause_23) ?_
        refine Rk.sp (G_iconst (pc := 24) dX1_insertPause_24) ?_
        refine Rk.sp (G_isub (pc := 25) dX1_insertPause_25) ?_
        refine Rk.al (pc := 26) lb169 dX1_insertPause_26 (fun hi6 => ?_)
        refine Rk.sp (G_iload_n (pc := 27) 1 rfl rfl dX1_insertPause_27) ?_
        refine Rk.icmp_le (pc := 28) (tgt := 65) dX1_insertPause_28 (nmI (hσ4 _ _)) (nmI ha1) rfl (fun hc7 => ?_) (fun hc7 => ?_)
        · exact Rk.end_ (fun h => h inZ0)
        · exact Rk.end_ (fun h => h inZ1)
      · exact Rk.end_ (fun h => h inZ1)
    · refine Rk.sp (G_aload_n (pc := 31) 0 rfl rfl dX1_insertPause_31) ?_
      refine Rk.gR (pc := 32) 169 flX1_20 cl1 rfl lb166 dX1_insertPause_32 ?_
      refine Rk.sp (G_iload_n (pc := 35) 3 rfl rfl dX1_insertPause_35) ?_
      refine Rk.sp (G_aload_n (pc := 36) 0 rfl rfl dX1_insertPause_36) ?_
      refine Rk.gR (pc := 37) 169 flX1_20 cl1 rfl lb166 dX1_insertPause_37 ?_
      refine Rk.sp (G_iload_n (pc := 40) 3 rfl rfl dX1_insertPause_40) ?_
      refine Rk.sp (G_iconst (pc := 41) dX1_insertPause_41) ?_
      refine Rk.sp (G_isub (pc := 42) dX1_insertPause_42) ?_
      refine Rk.al (pc := 43) lb169 dX1_insertPause_43 (fun hi13 => ?_)
      refine Rk.as (pc := 44) hσ4 (nmI (hσ4 _ _)) lb169 dX1_insertPause_44 (fun hi15 σ14 hσ14 => ?_)
      refine Rk.sp (G_aload_n (pc := 45) 0 rfl rfl dX1_insertPause_45) ?_
      refine Rk.gR (pc := 46) 170 flX1_23 cl1 rfl lb166 dX1_insertPause_46 ?_
      refine Rk.sp (G_iload_n (pc := 49) 3 rfl rfl dX1_insertPause_49) ?_
      refine Rk.sp (G_aload_n (pc := 50) 0 rfl rfl dX1_insertPause_50) ?_
      refine Rk.gR (pc := 51) 170 flX1_23 cl1 rfl lb166 dX1_insertPause_51 ?_
      refine Rk.sp (G_iload_n (pc := 54) 3 rfl rfl dX1_insertPause_54) ?_
      refine Rk.sp (G_iconst (pc := 55) dX1_insertPause_55) ?_
      refine Rk.sp (G_isub (pc := 56) dX1_insertPause_56) ?_
      refine Rk.al (pc := 57) lb170 dX1_insertPause_57 (fun hi16 => ?_)
      refine Rk.as (pc := 58) hσ14 (nmI (hσ14 _ _)) lb170 dX1_insertPause_58 (fun hi18 σ17 hσ17 => ?_)
      refine Rk.inc (pc := 59) 3 (fun v3_19 => [some (vr 166), some (vi a1), some (vi a2), some (vi v3_19)]) rfl (Nat.le_of_ble_eq_true rfl) rfl dX1_insertPause_59 (fun _ => rfl) (fun v3_19 hv3_19 => ?_)
      refine Rk.sp (G_goto (pc := 62) (tgt := 15) dX1_insertPause_62 rfl) ?_
      exact Rk.end_ (fun h => h ⟨hv3_19, hσ17⟩)
    · refine Rk.sp (G_aload_n (pc := 65) 0 rfl rfl dX1_insertPause_65) ?_
      refine Rk.gR (pc := 66) 169 flX1_20 cl1 rfl lb166 dX1_insertPause_66 ?_
      refine Rk.sp (G_iload_n (pc := 69) 3 rfl rfl dX1_insertPause_69) ?_
      refine Rk.sp (G_iload_n (pc := 70) 1 rfl rfl dX1_insertPause_70) ?_
      refine Rk.as (pc := 71) hσ4 (nmI ha1) lb169 dX1_insertPause_71 (fun hi9 σ8 hσ8 => ?_)
      refine Rk.sp (G_aload_n (pc := 72) 0 rfl rfl dX1_insertPause_72) ?_
      refine Rk.gR (pc := 73) 170 flX1_23 cl1 rfl lb166 dX1_insertPause_73 ?_
      refine Rk.sp (G_iload_n (pc := 76) 3 rfl rfl dX1_insertPause_76) ?_
      refine Rk.sp (G_iload_n (pc := 77) 2 rfl rfl dX1_insertPause_77) ?_
      refine Rk.as (pc := 78) hσ8 (nmI ha2) lb170 dX1_insertPause_78 (fun hi11 σ10 hσ10 => ?_)
      refine Rk.sp (G_aload_n (pc := 79) 0 rfl rfl dX1_insertPause_79) ?_
      refine Rk.sp (G_dup (pc := 80) dX1_insertPause_80 (fun _ h => by cases h)) ?_
      refine Rk.gI (pc := 81) flX1_83 cl1 rfl lb166 dX1_insertPause_81 ?_
      refine Rk.sp (G_iconst (pc := 84) dX1_insertPause_84) ?_
      refine Rk.sp (G_iadd (pc := 85) dX1_insertPause_85) ?_
      refine Rk.pI (pc := 86) hσ10 (nmW _) flX1_83 cl1 rfl rfl lb166 dX1_insertPause_86 (fun σ12 hσ12 => ?_)
      exact Rk.end_ (fun h => G_return (pc := 89) rfl dX1_insertPause_89 (q_V h hσ12))
  · exact Rk.end_ (fun h => G_return (pc := 9) rfl dX1_insertPause_9 (q_V h hok))
theorem k_Gl_gatherPauses {κ : Kx} {μ : Sg} (a1 : Nat) (σ : Sg) (ha1 : LB false a1 (1, 6)) (hok : okS σ) : CtV κ mX1_gatherPauses 2 [vr 166, vr a1] false μ σ (Gl_gatherPauses a1 σ) := by
  intro τ h
  refine con_of (by decide) (Nat.le_of_ble_eq_true rfl) 1 ?_
  refine (?_ : Rk κ mX1_gatherPauses _ 0 [some (vr 166), some (vr a1), none] [] (ms false μ σ) (Gl_gatherPauses a1 σ) (fun a => a = τ)) _ h rfl
  unfold Gl_gatherPauses
  refine Rk.sp (G_aload_n (pc := 0) 0 rfl rfl dX1_gatherPauses_0) ?_
  refine Rk.sp (G_iconst (pc := 1) dX1_gatherPauses_1) ?_
  refine Rk.pI (pc := 2) hok (nmI (inRk 0 rfl)) flX1_83 cl1 rfl rfl lb166 dX1_gatherPauses_2 (fun σ1 hσ1 => ?_)
  refine Rk.sp (G_iconst (pc := 5) dX1_gatherPauses_5) ?_
  refine Rk.isa_n (pc := 6) 2 (L' := [some (vr 166), some (vr a1), some (vi 0)]) rfl (Nat.le_of_ble_eq_true rfl) rfl dX1_gatherPauses_6 rfl ?_
  refine Rk.loop (pc := 7) (B := (fun p => Gl_gatherPauses_7_b a1 p.1 p.2)) (fun p => inR p.1 ∧ okS p.2) (fun p => [some (vr 166), some (vr a1), some (vi p.1)]) (fun p => (ms false μ p.2)) (fun p hp => ?_) (0, σ1) ⟨(inRk 0 rfl), hσ1⟩
  obtain ⟨v2_2, σ3⟩ := p
  obtain ⟨hv2_2, hσ3⟩ := hp
  try dsimp only
  unfold Gl_gatherPauses_7_b
  refine Rk.sp (G_iload_n (pc := 7) 2 rfl rfl dX1_gatherPauses_7) ?_
  refine Rk.sp (G_aload_n (pc := 8) 1 rfl rfl dX1_gatherPauses_8) ?_
  refine Rk.gI (pc := 9) flX1_26 cl6 rfl ha1 dX1_gatherPauses_9 ?_
  refine Rk.icmp_ge (pc := 12) (tgt := 44) dX1_gatherPauses_12 (nmI hv2_2) (nmI (hσ3 _ _)) rfl (fun hc4 => ?_) (fun hc4 => ?_)
  · refine Rk.sp (G_aload_n (pc := 15) 1 rfl rfl dX1_gatherPauses_15) ?_
    refine Rk.sp (G_iload_n (pc := 16) 2 rfl rfl dX1_gatherPauses_16) ?_
    refine Rk.cRZ (pc := 17) (Cl.v [vi v2_2] [] dX1_gatherPauses_17 ckX1_43 ha1 rfl rfl rfl (Nat.le_of_ble_eq_true rfl) (Nat.le_of_ble_eq_true rfl)) (k_Ta_isAnswer a1 v2_2 σ3 ha1 hv2_2 hσ3) (fun r5 hr5 => ?_)
    refine Rk.if_eq (pc := 20) (tgt := 38) dX1_gatherPauses_20 (nmI (inZ.R hr5)) rfl (fun hc6 => ?_) (fun hc6 => ?_)
    · refine Rk.inc (pc := 38) 2 (fun v2_7 => [some (vr 166), some (vr a1), some (vi v2_7)]) rfl (Nat.le_of_ble_eq_true rfl) rfl dX1_gatherPauses_38 (fun _ => rfl) (fun v2_7 hv2_7 => ?_)
      refine Rk.sp (G_goto (pc := 41) (tgt := 7) dX1_gatherPauses_41 rfl) ?_
      exact Rk.end_ (fun h => h ⟨hv2_7, hσ3⟩)
    · refine Rk.sp (G_aload_n (pc := 23) 0 rfl rfl dX1_gatherPauses_23) ?_
      refine Rk.sp (G_aload_n (pc := 24) 1 rfl rfl dX1_gatherPauses_24) ?_
      refine Rk.sp (G_iload_n (pc := 25) 2 rfl rfl dX1_gatherPauses_25) ?_
      refine Rk.cRI (pc := 26) (Cl.v [vi v2_2] [vr 166] dX1_gatherPauses_26 ckX1_47 ha1 rfl rfl rfl (Nat.le_of_ble_eq_true rfl) (Nat.le_of_ble_eq_true rfl)) (k_Ta_pauseOf a1 v2_2 σ3 ha1 hv2_2 hσ3) (fun r8 hr8 => ?_)
      refine Rk.sp (G_aload_n (pc := 29) 1 rfl rfl dX1_gatherPauses_29) ?_
      refine Rk.gR (pc := 30) (a1 + 4) flX1_40 cl6 rfl ha1 dX1_gatherPauses_30 ?_
      refine Rk.sp (G_iload_n (pc := 33) 2 rfl rfl dX1_gatherPauses_33) ?_
      refine Rk.al (pc := 34) (LBt ha1 4 (by decide)) dX1_gatherPauses_34 (fun hi9 => ?_)
      refine Rk.cV (pc := 35) (Cl.v [vi r8, vi (σ3 (a1 + 4) (v2_2).toNat)] [] dX1_gatherPauses_35 ckX1_86 lb166 rfl rfl rfl (Nat.le_of_ble_eq_true rfl) (Nat.le_of_ble_eq_true rfl)) (k_Gl_insertPause r8 (σ3 (a1 + 4) (v2_2).toNat) σ3 hr8 (hσ3 _ _) hσ3) (fun σ10 hσ10 => ?_)
      refine Rk.inc (pc := 38) 2 (fun v2_11 => [some (vr 166), some (vr a1), some (vi v2_11)]) rfl (Nat.le_of_ble_eq_true rfl) rfl dX1_gatherPauses_38 (fun _ => rfl) (fun v2_11 hv2_11 => ?_)
      refine Rk.sp (G_goto (pc := 41) (tgt := 7) dX1_gatherPauses_41 rfl) ?_
      exact Rk.end_ (fun h => h ⟨hv2_11, hσ10⟩)
  · exact Rk.end_ (fun h => G_return (pc := 44) rfl dX1_gatherPauses_44 (q_V h hσ3))

theorem k_Gl_spread {κ : Kx} {μ : Sg} (a1 : Int) (a2 : Int) (σ : Sg) (ha1 : inR a1) (ha2 : inR a2) (hok : okS σ) : CtRI κ mX1_spread 1 [vr 166, vi a1, vi a2] false μ σ (Gl_spread a1 a2 σ) := by
  intro r h
  refine con_of (by decide) (Nat.le_of_ble_eq_true rfl) 3 ?_
  refine (?_ : Rk κ mX1_spread _ 0 [some (vr 166), some (vi a1), some (vi a2), none, none, none] [] (ms false μ σ) (Gl_spread a1 a2 σ) (fun a => a = r)) _ h rfl
  unfold Gl_spread
  refine Rk.sp (G_iconst (pc := 0) dX1_spread_0) ?_
  refine Rk.isa_n (pc := 1) 3 (L' := [some (vr 166), some (vi a1), some (vi a2), some (vi 0), none, none]) rfl (Nat.le_of_ble_eq_true rfl) rfl dX1_spread_1 rfl ?_
  refine Rk.sp (G_iload_n (pc := 2) 1 rfl rfl dX1_spread_2) ?_
  refine Rk.sp (G_iload_n (pc := 3) 2 rfl rfl dX1_spread_3) ?_
  refine Rk.sp (G_iload_n (pc := 4) 1 rfl rfl dX1_spread_4) ?_
  refine Rk.sp (G_isub (pc := 5) dX1_spread_5) ?_
  refine Rk.sp (G_iconst (pc := 6) dX1_spread_6) ?_
  refine Rk.sp (G_isub (pc := 7) dX1_spread_7) ?_
  refine Rk.sp (G_iconst (pc := 8) dX1_spread_8) ?_
  refine Rk.sp (G_idiv (pc := 9) dX1_spread_9 (nmW _) (nmI (inRk 2 rfl)) (by decide)) ?_
  refine Rk.sp (G_iadd (pc := 10) dX1_spread_10) ?_
  refine Rk.ist_w (pc := 11) 4 (fun v4_1 => [some (vr 166), some (vi a1), some (vi a2), some (vi 0), some (vi v4_1), none]) (Nat.le_of_ble_eq_true rfl) rfl dX1_spread_11 (nmW _) (fun _ => rfl) (fun v4_1 hv4_1 => ?_)
  refine Rk.sp (G_iload_n (pc := 13) 1 rfl rfl dX1_spread_13) ?_
  refine Rk.isa_w (pc := 14) 5 (L' := [some (vr 166), some (vi a1), some (vi a2), some (vi 0), some (vi v4_1), some (vi a1)]) (Nat.le_of_ble_eq_true rfl) rfl dX1_spread_14 rfl ?_
  refine Rk.fg [true, false, true, true, true, true] (L' := [some (vr 166), none, some (vi a2), some (vi 0), some (vi v4_1), some (vi a1)]) rfl ?_
  refine Rk.loop (pc := 16) (B := (fun p => Gl_spread_16_b a2 v4_1 σ p.1 p.2)) (fun p => inR p.1 ∧ inR p.2) (fun p => [some (vr 166), none, some (vi a2), some (vi p.1), some (vi v4_1), some (vi p.2)]) (fun p => (ms false μ σ)) (fun p hp => ?_) (0, a1) ⟨(inRk 0 rfl), ha1⟩
  obtain ⟨v3_2, v5_3⟩ := p
  obtain ⟨hv3_2, hv5_3⟩ := hp
  try dsimp only
  unfold Gl_spread_16_b
  refine Rk.sp (G_iload_w (pc := 16) 5 rfl dX1_spread_16) ?_
  refine Rk.sp (G_iload_n (pc := 18) 2 rfl rfl dX1_spread_18) ?_
  refine Rk.icmp_ge (pc := 19) (tgt := 49) dX1_spread_19 (nmI hv5_3) (nmI ha2) rfl (fun hc4 => ?_) (fun hc4 => ?_)
  · refine Rk.sp (G_iload_n (pc := 22) 3 rfl rfl dX1_spread_22) ?_
    refine Rk.sp (G_aload_n (pc := 23) 0 rfl rfl dX1_spread_23) ?_
    refine Rk.gR (pc := 24) 169 flX1_20 cl1 rfl lb166 dX1_spread_24 ?_
    refine Rk.sp (G_iload_w (pc := 27) 5 rfl dX1_spread_27) ?_
    refine Rk.al (pc := 29) lb169 dX1_spread_29 (fun hi5 => ?_)
    refine Rk.sp (G_aload_n (pc := 30) 0 rfl rfl dX1_spread_30) ?_
    refine Rk.gR (pc := 31) 169 flX1_20 cl1 rfl lb166 dX1_spread_31 ?_
    refine Rk.sp (G_iload_w (pc := 34) 4 rfl dX1_spread_34) ?_
    refine Rk.al (pc := 36) lb169 dX1_spread_36 (fun hi6 => ?_)
    refine Rk.sp (G_isub (pc := 37) dX1_spread_37) ?_
    refine Rk.sp (Go.n0 (nmW _)) ?_
    refine Rk.mabs (pc := 38) cmmX1_96 (wrR _) (Nat.le_of_ble_eq_true rfl) (Nat.le_of_ble_eq_true rfl) dX1_spread_38 (fun r7 hr7 => ?_)
    refine Rk.sp (G_iadd (pc := 41) dX1_spread_41) ?_
    refine Rk.ist_n (pc := 42) 3 (fun v3_8 => [some (vr 166), none, some (vi a2), some (vi v3_8), some (vi v4_1), some (vi v5_3)]) rfl (Nat.le_of_ble_eq_true rfl) rfl dX1_spread_42 (nmW _) (fun _ => rfl) (fun v3_8 hv3_8 => ?_)
    refine Rk.inc (pc := 43) 5 (fun v5_9 => [some (vr 166), none, some (vi a2), some (vi v3_8), some (vi v4_1), some (vi v5_9)]) rfl (Nat.le_of_ble_eq_true rfl) rfl dX1_spread_43 (fun _ => rfl) (fun v5_9 hv5_9 => ?_)
    refine Rk.sp (G_goto (pc := 46) (tgt := 16) dX1_spread_46 rfl) ?_
    exact Rk.end_ (fun h => h ⟨hv3_8, hv5_9⟩)
  · refine Rk.sp (G_iload_n (pc := 49) 3 rfl rfl dX1_spread_49) ?_
    exact Rk.end_ (fun h => G_ireturn (pc := 50) rfl dX1_spread_50 (q_RI h hv3_2))
theorem k_Gl_costOfCut {κ : Kx} {μ : Sg} (a1 : Int) (σ : Sg) (ha1 : inR a1) (hok : okS σ) : CtRI κ mX1_costOfCut 2 [vr 166, vi a1] false μ σ (Gl_costOfCut a1 σ) := by
  intro r h
  refine con_of (by decide) (Nat.le_of_ble_eq_true rfl) 1 ?_
  refine (?_ : Rk κ mX1_costOfCut _ 0 [some (vr 166), some (vi a1), none] [] (ms false μ σ) (Gl_costOfCut a1 σ) (fun a => a = r)) _ h rfl
  unfold Gl_costOfCut
  refine Rk.sp (G_iconst (pc := 0) dX1_costOfCut_0) ?_
  refine Rk.isa_n (pc := 1) 2 (L' := [some (vr 166), some (vi a1), some (vi 0)]) rfl (Nat.le_of_ble_eq_true rfl) rfl dX1_costOfCut_1 rfl ?_
  refine Rk.loop (pc := 2) (B := (fun p => Gl_costOfCut_2_b σ a1 p)) (fun p => inR p) (fun p => [some (vr 166), some (vi a1), some (vi p)]) (fun p => (ms false μ σ)) (fun p hp => ?_) 0 (inRk 0 rfl)
  revert hp; revert p; intro v2_1 hv2_1
  try dsimp only
  unfold Gl_costOfCut_2_b
  refine Rk.sp (G_iload_n (pc := 2) 2 rfl rfl dX1_costOfCut_2) ?_
  refine Rk.sp (G_aload_n (pc := 3) 0 rfl rfl dX1_costOfCut_3) ?_
  refine Rk.gI (pc := 4) flX1_83 cl1 rfl lb166 dX1_costOfCut_4 ?_
  refine Rk.sel (A := 26) (B := 20) (st' := []) ?_ ?_ ?_
  · refine Rk.icmp_ge (pc := 7) (tgt := 26) dX1_costOfCut_7 (nmI hv2_1) (nmI (hok _ _)) rfl (fun hc2 => ?_) (fun hc2 => ?_)
    · refine Rk.sp (G_aload_n (pc := 10) 0 rfl rfl dX1_costOfCut_10) ?_
      refine Rk.gR (pc := 11) 169 flX1_20 cl1 rfl lb166 dX1_costOfCut_11 ?_
      refine Rk.sp (G_iload_n (pc := 14) 2 rfl rfl dX1_costOfCut_14) ?_
      refine Rk.al (pc := 15) lb169 dX1_costOfCut_15 (fun hi3 => ?_)
      refine Rk.sp (G_iload_n (pc := 16) 1 rfl rfl dX1_costOfCut_16) ?_
      refine Rk.icmp_ge (pc := 17) (tgt := 26) dX1_costOfCut_17 (nmI (hok _ _)) (nmI ha1) rfl (fun hc4 => ?_) (fun hc4 => ?_)
      · exact Rk.end_ (fun h => h inZ0)
      · exact Rk.end_ (fun h => h inZ1)
    · exact Rk.end_ (fun h => h inZ1)
  · refine Rk.inc (pc := 20) 2 (fun v2_7 => [some (vr 166), some (vi a1), some (vi v2_7)]) rfl (Nat.le_of_ble_eq_true rfl) rfl dX1_costOfCut_20 (fun _ => rfl) (fun v2_7 hv2_7 => ?_)
    refine Rk.sp (G_goto (pc := 23) (tgt := 2) dX1_costOfCut_23 rfl) ?_
    exact Rk.end_ (fun h => h hv2_7)
  · refine Rk.sp (G_aload_n (pc := 26) 0 rfl rfl dX1_costOfCut_26) ?_
    refine Rk.sp (G_iconst (pc := 27) dX1_costOfCut_27) ?_
    refine Rk.sp (G_iload_n (pc := 28) 2 rfl rfl dX1_costOfCut_28) ?_
    refine Rk.cRI (pc := 29) (Cl.v [vi 0, vi v2_1] [] dX1_costOfCut_29 ckX1_93 lb166 rfl rfl rfl (Nat.le_of_ble_eq_true rfl) (Nat.le_of_ble_eq_true rfl)) (k_Gl_spread 0 v2_1 σ (inRk 0 rfl) hv2_1 hok) (fun r5 hr5 => ?_)
    refine Rk.sp (G_aload_n (pc := 32) 0 rfl rfl dX1_costOfCut_32) ?_
    refine Rk.sp (G_iload_n (pc := 33) 2 rfl rfl dX1_costOfCut_33) ?_
    refine Rk.sp (G_aload_n (pc := 34) 0 rfl rfl dX1_costOfCut_34) ?_
    refine Rk.gI (pc := 35) flX1_83 cl1 rfl lb166 dX1_costOfCut_35 ?_
    refine Rk.cRI (pc := 38) (Cl.v [vi v2_1, vi (σ 166 1)] [vi r5] dX1_costOfCut_38 ckX1_93 lb166 rfl rfl rfl (Nat.le_of_ble_eq_true rfl) (Nat.le_of_ble_eq_true rfl)) (k_Gl_spread v2_1 (σ 166 1) σ hv2_1 (hok _ _) hok) (fun r6 hr6 => ?_)
    refine Rk.sp (G_iadd (pc := 41) dX1_costOfCut_41) ?_
    refine Rk.sp (Go.n0 (nmW _)) ?_
    exact Rk.end_ (fun h => G_ireturn (pc := 42) rfl dX1_costOfCut_42 (q_RI h (wrR _)))
theorem k_Gl_bestCut {κ : Kx} {μ : Sg} (σ : Sg) (hok : okS σ) : CtRI κ mX1_bestCut 3 [vr 166] false μ σ (Gl_bestCut σ) := by
  intro r h
  refine con_of (by decide) (Nat.le_of_ble_eq_true rfl) 4 ?_
  refine (?_ : Rk κ mX1_bestCut _ 0 [some (vr 166), none, none, none, none] [] (ms false μ σ) (Gl_bestCut σ) (fun a => a = r)) _ h rfl
  unfold Gl_bestCut
  refine Rk.sp (G_iconst (pc := 0) dX1_bestCut_0) ?_
  refine Rk.isa_n (pc := 1) 1 (L' := [some (vr 166), some (vi 1), none, none, none]) rfl (Nat.le_of_ble_eq_true rfl) rfl dX1_bestCut_1 rfl ?_
  refine Rk.sp (G_aload_n (pc := 2) 0 rfl rfl dX1_bestCut_2) ?_
  refine Rk.sp (G_iconst (pc := 3) dX1_bestCut_3) ?_
  refine Rk.cRI (pc := 4) (Cl.v [vi 1] [] dX1_bestCut_4 ckX1_90 lb166 rfl rfl rfl (Nat.le_of_ble_eq_true rfl) (Nat.le_of_ble_eq_true rfl)) (k_Gl_costOfCut 1 σ (inRk 1 rfl) hok) (fun r1 hr1 => ?_)
  refine Rk.isa_n (pc := 7) 2 (L' := [some (vr 166), some (vi 1), some (vi r1), none, none]) rfl (Nat.le_of_ble_eq_true rfl) rfl dX1_bestCut_7 rfl ?_
  refine Rk.sp (G_iconst (pc := 8) dX1_bestCut_8) ?_
  refine Rk.isa_n (pc := 9) 3 (L' := [some (vr 166), some (vi 1), some (vi r1), some (vi 0), none]) rfl (Nat.le_of_ble_eq_true rfl) rfl dX1_bestCut_9 rfl ?_
  refine Rk.loop (pc := 10) (B := (fun p => Gl_bestCut_10_b σ p.1 p.2.1 p.2.2)) (fun p => inR p.1 ∧ inR p.2.1 ∧ inR p.2.2) (fun p => [some (vr 166), some (vi p.1), some (vi p.2.1), some (vi p.2.2), none]) (fun p => (ms false μ σ)) (fun p hp => ?_) (1, r1, 0) ⟨(inRk 1 rfl), hr1, (inRk 0 rfl)⟩
  obtain ⟨v1_2, v2_3, v3_4⟩ := p
  obtain ⟨hv1_2, hv2_3, hv3_4⟩ := hp
  try dsimp only
  unfold Gl_bestCut_10_b
  refine Rk.sp (G_iload_n (pc := 10) 3 rfl rfl dX1_bestCut_10) ?_
  refine Rk.sp (G_aload_n (pc := 11) 0 rfl rfl dX1_bestCut_11) ?_
  refine Rk.gI (pc := 12) flX1_83 cl1 rfl lb166 dX1_bestCut_12 ?_
  refine Rk.icmp_ge (pc := 15) (tgt := 68) dX1_bestCut_15 (nmI hv3_4) (nmI (hok _ _)) rfl (fun hc5 => ?_) (fun hc5 => ?_)
  · refine Rk.sp (G_aload_n (pc := 18) 0 rfl rfl dX1_bestCut_18) ?_
    refine Rk.gR (pc := 19) 169 flX1_20 cl1 rfl lb166 dX1_bestCut_19 ?_
    refine Rk.sp (G_iload_n (pc := 22) 3 rfl rfl dX1_bestCut_22) ?_
    refine Rk.al (pc := 23) lb169 dX1_bestCut_23 (fun hi6 => ?_)
    refine Rk.sp (G_iconst (pc := 24) dX1_bestCut_24) ?_
    refine Rk.sp (G_iadd (pc := 25) dX1_bestCut_25) ?_
    refine Rk.ist_w (pc := 26) 4 (fun v4_7 => [some (vr 166), some (vi v1_2), some (vi v2_3), some (vi v3_4), some (vi v4_7)]) (Nat.le_of_ble_eq_true rfl) rfl dX1_bestCut_26 (nmW _) (fun _ => rfl) (fun v4_7 hv4_7 => ?_)
    refine Rk.sp (G_iload_w (pc := 28) 4 rfl dX1_bestCut_28) ?_
    refine Rk.sp (G_iconst (pc := 30) dX1_bestCut_30) ?_
    refine Rk.icmp_lt (pc := 31) (tgt := 62) dX1_bestCut_31 (nmI hv4_7) (nmI (inRk 1 rfl)) rfl (fun hc8 => ?_) (fun hc8 => ?_)
    · refine Rk.inc (pc := 62) 3 (fun v3_9 => [some (vr 166), some (vi v1_2), some (vi v2_3), some (vi v3_9), some (vi v4_7)]) rfl (Nat.le_of_ble_eq_true rfl) rfl dX1_bestCut_62 (fun _ => rfl) (fun v3_9 hv3_9 => ?_)
      refine Rk.sp (G_goto (pc := 65) (tgt := 10) dX1_bestCut_65 rfl) ?_
      refine Rk.fg [true, true, true, true, false] (L' := [some (vr 166), some (vi v1_2), some (vi v2_3), some (vi v3_9), none]) rfl ?_
      exact Rk.end_ (fun h => h ⟨hv1_2, hv2_3, hv3_9⟩)
    · refine Rk.sp (G_iload_w (pc := 34) 4 rfl dX1_bestCut_34) ?_
      refine Rk.sp (G_sipush (pc := 36) dX1_bestCut_36 rfl) ?_
      refine Rk.icmp_gt (pc := 39) (tgt := 62) dX1_bestCut_39 (nmI hv4_7) (nmI (inRk 9999 rfl)) rfl (fun hc10 => ?_) (fun hc10 => ?_)
      · refine Rk.inc (pc := 62) 3 (fun v3_11 => [some (vr 166), some (vi v1_2), some (vi v2_3), some (vi v3_11), some (vi v4_7)]) rfl (Nat.le_of_ble_eq_true rfl) rfl dX1_bestCut_62 (fun _ => rfl) (fun v3_11 hv3_11 => ?_)
        refine Rk.sp (G_goto (pc := 65) (tgt := 10) dX1_bestCut_65 rfl) ?_
        refine Rk.fg [true, true, true, true, false] (L' := [some (vr 166), some (vi v1_2), some (vi v2_3), some (vi v3_11), none]) rfl ?_
        exact Rk.end_ (fun h => h ⟨hv1_2, hv2_3, hv3_11⟩)
      · refine Rk.sp (G_aload_n (pc := 42) 0 rfl rfl dX1_bestCut_42) ?_
        refine Rk.sp (G_iload_w (pc := 43) 4 rfl dX1_bestCut_43) ?_
        refine Rk.cRI (pc := 45) (Cl.v [vi v4_7] [] dX1_bestCut_45 ckX1_90 lb166 rfl rfl rfl (Nat.le_of_ble_eq_true rfl) (Nat.le_of_ble_eq_true rfl)) (k_Gl_costOfCut v4_7 σ hv4_7 hok) (fun r12 hr12 => ?_)
        refine Rk.sp (G_iload_n (pc := 48) 2 rfl rfl dX1_bestCut_48) ?_
        refine Rk.icmp_ge (pc := 49) (tgt := 62) dX1_bestCut_49 (nmI hr12) (nmI hv2_3) rfl (fun hc13 => ?_) (fun hc13 => ?_)
        · refine Rk.sp (G_aload_n (pc := 52) 0 rfl rfl dX1_bestCut_52) ?_
          refine Rk.sp (G_iload_w (pc := 53) 4 rfl dX1_bestCut_53) ?_
          refine Rk.cRI (pc := 55) (Cl.v [vi v4_7] [] dX1_bestCut_55 ckX1_90 lb166 rfl rfl rfl (Nat.le_of_ble_eq_true rfl) (Nat.le_of_ble_eq_true rfl)) (k_Gl_costOfCut v4_7 σ hv4_7 hok) (fun r14 hr14 => ?_)
          refine Rk.isa_n (pc := 58) 2 (L' := [some (vr 166), some (vi v1_2), some (vi r14), some (vi v3_4), some (vi v4_7)]) rfl (Nat.le_of_ble_eq_true rfl) rfl dX1_bestCut_58 rfl ?_
          refine Rk.sp (G_iload_w (pc := 59) 4 rfl dX1_bestCut_59) ?_
          refine Rk.isa_n (pc := 61) 1 (L' := [some (vr 166), some (vi v4_7), some (vi r14), some (vi v3_4), some (vi v4_7)]) rfl (Nat.le_of_ble_eq_true rfl) rfl dX1_bestCut_61 rfl ?_
          refine Rk.inc (pc := 62) 3 (fun v3_15 => [some (vr 166), some (vi v4_7), some (vi r14), some (vi v3_15), some (vi v4_7)]) rfl (Nat.le_of_ble_eq_true rfl) rfl dX1_bestCut_62 (fun _ => rfl) (fun v3_15 hv3_15 => ?_)
          refine Rk.sp (G_goto (pc := 65) (tgt := 10) dX1_bestCut_65 rfl) ?_
          refine Rk.fg [true, true, true, true, false] (L' := [some (vr 166), some (vi v4_7), some (vi r14), some (vi v3_15), none]) rfl ?_
          exact Rk.end_ (fun h => h ⟨hv4_7, hr14, hv3_15⟩)
        · refine Rk.inc (pc := 62) 3 (fun v3_16 => [some (vr 166), some (vi v1_2), some (vi v2_3), some (vi v3_16), some (vi v4_7)]) rfl (Nat.le_of_ble_eq_true rfl) rfl dX1_bestCut_62 (fun _ => rfl) (fun v3_16 hv3_16 => ?_)
          refine Rk.sp (G_goto (pc := 65) (tgt := 10) dX1_bestCut_65 rfl) ?_
          refine Rk.fg [true, true, true, true, false] (L' := [some (vr 166), some (vi v1_2), some (vi v2_3), some (vi v3_16), none]) rfl ?_
          exact Rk.end_ (fun h => h ⟨hv1_2, hv2_3, hv3_16⟩)
  · refine Rk.sp (G_iload_n (pc := 68) 1 rfl rfl dX1_bestCut_68) ?_
    exact Rk.end_ (fun h => G_ireturn (pc := 69) rfl dX1_bestCut_69 (q_RI h hv1_2))
theorem k_Gl_ofFirstBelow {κ : Kx} {μ : Sg} (a1 : Int) (σ : Sg) (ha1 : inR a1) (hok : okS σ) : CtRI κ mX1_ofFirstBelow 0 [vr 166, vi a1] false μ σ (Gl_ofFirstBelow a1 σ) := by
  intro r h
  refine con_of (by decide) (Nat.le_of_ble_eq_true rfl) 2 ?_
  refine (?_ : Rk κ mX1_ofFirstBelow _ 0 [some (vr 166), some (vi a1), none, none] [] (ms false μ σ) (Gl_ofFirstBelow a1 σ) (fun a => a = r)) _ h rfl
  unfold Gl_ofFirstBelow
  refine Rk.sp (G_iconst (pc := 0) dX1_ofFirstBelow_0) ?_
  refine Rk.isa_n (pc := 1) 2 (L' := [some (vr 166), some (vi a1), some (vi 0), none]) rfl (Nat.le_of_ble_eq_true rfl) rfl dX1_ofFirstBelow_1 rfl ?_
  refine Rk.sp (G_iconst (pc := 2) dX1_ofFirstBelow_2) ?_
  refine Rk.isa_n (pc := 3) 3 (L' := [some (vr 166), some (vi a1), some (vi 0), some (vi 0)]) rfl (Nat.le_of_ble_eq_true rfl) rfl dX1_ofFirstBelow_3 rfl ?_
  refine Rk.loop (pc := 4) (B := (fun p => Gl_ofFirstBelow_4_b σ a1 p.1 p.2)) (fun p => inR p.1 ∧ inR p.2) (fun p => [some (vr 166), some (vi a1), some (vi p.1), some (vi p.2)]) (fun p => (ms false μ σ)) (fun p hp => ?_) (0, 0) ⟨(inRk 0 rfl), (inRk 0 rfl)⟩
  obtain ⟨v2_1, v3_2⟩ := p
  obtain ⟨hv2_1, hv3_2⟩ := hp
  try dsimp only
  unfold Gl_ofFirstBelow_4_b
  refine Rk.sp (G_iload_n (pc := 4) 3 rfl rfl dX1_ofFirstBelow_4) ?_
  refine Rk.sp (G_aload_n (pc := 5) 0 rfl rfl dX1_ofFirstBelow_5) ?_
  refine Rk.gI (pc := 6) flX1_83 cl1 rfl lb166 dX1_ofFirstBelow_6 ?_
  refine Rk.icmp_ge (pc := 9) (tgt := 45) dX1_ofFirstBelow_9 (nmI hv3_2) (nmI (hok _ _)) rfl (fun hc3 => ?_) (fun hc3 => ?_)
  · refine Rk.sp (G_iload_n (pc := 12) 2 rfl rfl dX1_ofFirstBelow_12) ?_
    refine Rk.sp (G_aload_n (pc := 13) 0 rfl rfl dX1_ofFirstBelow_13) ?_
    refine Rk.gR (pc := 14) 169 flX1_20 cl1 rfl lb166 dX1_ofFirstBelow_14 ?_
    refine Rk.sp (G_iload_n (pc := 17) 3 rfl rfl dX1_ofFirstBelow_17) ?_
    refine Rk.al (pc := 18) lb169 dX1_ofFirstBelow_18 (fun hi4 => ?_)
    refine Rk.sp (G_iload_n (pc := 19) 1 rfl rfl dX1_ofFirstBelow_19) ?_
    refine Rk.icmp_ge (pc := 20) (tgt := 36) dX1_ofFirstBelow_20 (nmI (hok _ _)) (nmI ha1) rfl (fun hc5 => ?_) (fun hc5 => ?_)
    · refine Rk.sp (G_aload_n (pc := 23) 0 rfl rfl dX1_ofFirstBelow_23) ?_
      refine Rk.gR (pc := 24) 170 flX1_23 cl1 rfl lb166 dX1_ofFirstBelow_24 ?_
      refine Rk.sp (G_iload_n (pc := 27) 3 rfl rfl dX1_ofFirstBelow_27) ?_
      refine Rk.al (pc := 28) lb170 dX1_ofFirstBelow_28 (fun hi6 => ?_)
      refine Rk.if_ne (pc := 29) (tgt := 36) dX1_ofFirstBelow_29 (nmI (hok _ _)) rfl (fun hc7 => ?_) (fun hc7 => ?_)
      · refine Rk.sp (G_iconst (pc := 32) dX1_ofFirstBelow_32) ?_
        refine Rk.sp (G_goto (pc := 33) (tgt := 37) dX1_ofFirstBelow_33 rfl) ?_
        refine Rk.sp (G_iadd (pc := 37) dX1_ofFirstBelow_37) ?_
        refine Rk.ist_n (pc := 38) 2 (fun v2_8 => [some (vr 166), some (vi a1), some (vi v2_8), some (vi v3_2)]) rfl (Nat.le_of_ble_eq_true rfl) rfl dX1_ofFirstBelow_38 (nmW _) (fun _ => rfl) (fun v2_8 hv2_8 => ?_)
        refine Rk.inc (pc := 39) 3 (fun v3_9 => [some (vr 166), some (vi a1), some (vi v2_8), some (vi v3_9)]) rfl (Nat.le_of_ble_eq_true rfl) rfl dX1_ofFirstBelow_39 (fun _ => rfl) (fun v3_9 hv3_9 => ?_)
        refine Rk.sp (G_goto (pc := 42) (tgt := 4) dX1_ofFirstBelow_42 rfl) ?_
        exact Rk.end_ (fun h => h ⟨hv2_8, hv3_9⟩)
      · refine Rk.sp (G_iconst (pc := 36) dX1_ofFirstBelow_36) ?_
        refine Rk.sp (G_iadd (pc := 37) dX1_ofFirstBelow_37) ?_
        refine Rk.ist_n (pc := 38) 2 (fun v2_10 => [some (vr 166), some (vi a1), some (vi v2_10), some (vi v3_2)]) rfl (Nat.le_of_ble_eq_true rfl) rfl dX1_ofFirstBelow_38 (nmW _) (fun _ => rfl) (fun v2_10 hv2_10 => ?_)
        refine Rk.inc (pc := 39) 3 (fun v3_11 => [some (vr 166), some (vi a1), some (vi v2_10), some (vi v3_11)]) rfl (Nat.le_of_ble_eq_true rfl) rfl dX1_ofFirstBelow_39 (fun _ => rfl) (fun v3_11 hv3_11 => ?_)
        refine Rk.sp (G_goto (pc := 42) (tgt := 4) dX1_ofFirstBelow_42 rfl) ?_
        exact Rk.end_ (fun h => h ⟨hv2_10, hv3_11⟩)
    · refine Rk.sp (G_iconst (pc := 36) dX1_ofFirstBelow_36) ?_
      refine Rk.sp (G_iadd (pc := 37) dX1_ofFirstBelow_37) ?_
      refine Rk.ist_n (pc := 38) 2 (fun v2_12 => [some (vr 166), some (vi a1), some (vi v2_12), some (vi v3_2)]) rfl (Nat.le_of_ble_eq_true rfl) rfl dX1_ofFirstBelow_38 (nmW _) (fun _ => rfl) (fun v2_12 hv2_12 => ?_)
      refine Rk.inc (pc := 39) 3 (fun v3_13 => [some (vr 166), some (vi a1), some (vi v2_12), some (vi v3_13)]) rfl (Nat.le_of_ble_eq_true rfl) rfl dX1_ofFirstBelow_39 (fun _ => rfl) (fun v3_13 hv3_13 => ?_)
      refine Rk.sp (G_goto (pc := 42) (tgt := 4) dX1_ofFirstBelow_42 rfl) ?_
      exact Rk.end_ (fun h => h ⟨hv2_12, hv3_13⟩)
  · refine Rk.sp (G_iload_n (pc := 45) 2 rfl rfl dX1_ofFirstBelow_45) ?_
    exact Rk.end_ (fun h => G_ireturn (pc := 46) rfl dX1_ofFirstBelow_46 (q_RI h hv2_1))
theorem k_Td_split {κ : Kx} {μ : Sg} (a1 : Int) (σ : Sg) (ha1 : inR a1) (hok : okS σ) : CtI κ mX8_split 4 [vr 0, vi a1] false μ σ (Td_split a1 σ) := by
  intro r τ h
  refine con_of (by decide) (Nat.le_of_ble_eq_true rfl) 1 ?_
  refine (?_ : Rk κ mX8_split _ 0 [some (vr 0), some (vi a1), none] [] (ms false μ σ) (Td_split a1 σ) (fun a => a = (r, τ))) _ h rfl
  unfold Td_split
  refine Rk.sp (G_iload_n (pc := 0) 1 rfl rfl dX8_split_0) ?_
  refine Rk.sp (G_iconst (pc := 1) dX8_split_1) ?_
  refine Rk.sp (G_iconst (pc := 2) dX8_split_2) ?_
  refine Rk.cRZ (pc := 3) (Cl.s [vi a1, vi 0, vi 1] [] dX8_split_3 ckX8_81 rfl rfl (Nat.le_of_ble_eq_true rfl) (Nat.le_of_ble_eq_true rfl)) (k_Td_within a1 0 1 ha1 (inRk 0 rfl) (inRk 1 rfl)) (fun r1 hr1 => ?_)
  refine Rk.if_ne (pc := 6) (tgt := 11) dX8_split_6 (nmI (inZ.R hr1)) rfl (fun hc2 => ?_) (fun hc2 => ?_)
  · refine Rk.sp (G_iconst (pc := 9) dX8_split_9) ?_
    exact Rk.end_ (fun h => G_ireturn (pc := 10) rfl dX8_split_10 (q_I h (inRk (-1) rfl) hok))
  · refine Rk.sp (G_aload_n (pc := 11) 0 rfl rfl dX8_split_11) ?_
    refine Rk.gR (pc := 12) 166 flX8_59 cl8 rfl lb0 dX8_split_12 ?_
    refine Rk.sp (G_aload_n (pc := 15) 0 rfl rfl dX8_split_15) ?_
    refine Rk.gR (pc := 16) 1 flX8_12 cl8 rfl lb0 dX8_split_16 ?_
    refine Rk.gR (pc := 19) 2 flX8_71 cl7 rfl lb1 dX8_split_19 ?_
    refine Rk.cV (pc := 22) (Cl.v [vr 2] [] dX8_split_22 ckX8_336 lb166 rfl rfl rfl (Nat.le_of_ble_eq_true rfl) (Nat.le_of_ble_eq_true rfl)) (k_Gl_gatherPauses 2 σ lb2 hok) (fun σ3 hσ3 => ?_)
    refine Rk.sp (G_aload_n (pc := 25) 0 rfl rfl dX8_split_25) ?_
    refine Rk.gR (pc := 26) 166 flX8_59 cl8 rfl lb0 dX8_split_26 ?_
    refine Rk.gI (pc := 29) flX8_339 cl1 rfl lb166 dX8_split_29 ?_
    refine Rk.sp (G_iconst (pc := 32) dX8_split_32) ?_
    refine Rk.icmp_ge (pc := 33) (tgt := 38) dX8_split_33 (nmI (hσ3 _ _)) (nmI (inRk 2 rfl)) rfl (fun hc4 => ?_) (fun hc4 => ?_)
    · refine Rk.sp (G_iconst (pc := 36) dX8_split_36) ?_
      exact Rk.end_ (fun h => G_ireturn (pc := 37) rfl dX8_split_37 (q_I h (inRk (-1) rfl) hσ3))
    · refine Rk.sp (G_aload_n (pc := 38) 0 rfl rfl dX8_split_38) ?_
      refine Rk.gR (pc := 39) 166 flX8_59 cl8 rfl lb0 dX8_split_39 ?_
      refine Rk.cRI (pc := 42) (Cl.v [] [] dX8_split_42 ckX8_342 lb166 rfl rfl rfl (Nat.le_of_ble_eq_true rfl) (Nat.le_of_ble_eq_true rfl)) (k_Gl_bestCut σ3 hσ3) (fun r5 hr5 => ?_)
      refine Rk.isa_n (pc := 45) 2 (L' := [some (vr 0), some (vi a1), some (vi r5)]) rfl (Nat.le_of_ble_eq_true rfl) rfl dX8_split_45 rfl ?_
      refine Rk.sp (G_iload_n (pc := 46) 1 rfl rfl dX8_split_46) ?_
      refine Rk.if_ne (pc := 47) (tgt := 54) dX8_split_47 (nmI ha1) rfl (fun hc6 => ?_) (fun hc6 => ?_)
      · refine Rk.sp (G_iload_n (pc := 50) 2 rfl rfl dX8_split_50) ?_
        refine Rk.sp (G_goto (pc := 51) (tgt := 62) dX8_split_51 rfl) ?_
        exact Rk.end_ (fun h => G_ireturn (pc := 62) rfl dX8_split_62 (q_I h hr5 hσ3))
      · refine Rk.sp (G_aload_n (pc := 54) 0 rfl rfl dX8_split_54) ?_
        refine Rk.gR (pc := 55) 166 flX8_59 cl8 rfl lb0 dX8_split_55 ?_
        refine Rk.sp (G_iload_n (pc := 58) 2 rfl rfl dX8_split_58) ?_
        refine Rk.cRI (pc := 59) (Cl.v [vi r5] [] dX8_split_59 ckX8_345 lb166 rfl rfl rfl (Nat.le_of_ble_eq_true rfl) (Nat.le_of_ble_eq_true rfl)) (k_Gl_ofFirstBelow r5 σ3 hr5 hσ3) (fun r7 hr7 => ?_)
        exact Rk.end_ (fun h => G_ireturn (pc := 62) rfl dX8_split_62 (q_I h hr7 hσ3))
theorem k_Td_state {κ : Kx} {μ : Sg} (a1 : Int) (σ : Sg) (ha1 : inR a1) (hok : okS σ) : CtI κ mX8_state 1 [vr 0, vi a1] false μ σ (Td_state a1 σ) := by
  intro r τ h
  refine con_of (by decide) (Nat.le_of_ble_eq_true rfl) 1 ?_
  refine (?_ : Rk κ mX8_state _ 0 [some (vr 0), some (vi a1), none] [] (ms false μ σ) (Td_state a1 σ) (fun a => a = (r, τ))) _ h rfl
  unfold Td_state
  refine Rk.sp (G_aload_n (pc := 0) 0 rfl rfl dX8_state_0) ?_
  refine Rk.gR (pc := 1) 1 flX8_12 cl8 rfl lb0 dX8_state_1 ?_
  refine Rk.gR (pc := 4) 2 flX8_71 cl7 rfl lb1 dX8_state_4 ?_
  refine Rk.gI (pc := 7) flX8_74 cl6 rfl lb2 dX8_state_7 ?_
  refine Rk.ist_n (pc := 10) 2 (fun v2_1 => [some (vr 0), some (vi a1), some (vi v2_1)]) rfl (Nat.le_of_ble_eq_true rfl) rfl dX8_state_10 (nmI (hok _ _)) (fun _ => rfl) (fun v2_1 hv2_1 => ?_)
  refine Rk.sp (G_aload_n (pc := 11) 0 rfl rfl dX8_state_11) ?_
  refine Rk.gR (pc := 12) 1 flX8_12 cl8 rfl lb0 dX8_state_12 ?_
  refine Rk.gR (pc := 15) 2 flX8_71 cl7 rfl lb1 dX8_state_15 ?_
  refine Rk.sp (G_iload_n (pc := 18) 1 rfl rfl dX8_state_18) ?_
  refine Rk.pI (pc := 19) hok (nmI ha1) flX8_74 cl6 rfl rfl lb2 dX8_state_19 (fun σ2 hσ2 => ?_)
  refine Rk.sp (G_aload_n (pc := 22) 0 rfl rfl dX8_state_22) ?_
  refine Rk.gR (pc := 23) 61 flX8_22 cl8 rfl lb0 dX8_state_23 ?_
  refine Rk.cV (pc := 26) (Cl.v [] [] dX8_state_26 ckX8_78 lb61 rfl rfl rfl (Nat.le_of_ble_eq_true rfl) (Nat.le_of_ble_eq_true rfl)) (k_Pa_forget σ2 hσ2) (fun σ3 hσ3 => ?_)
  refine Rk.sp (G_iload_n (pc := 29) 2 rfl rfl dX8_state_29) ?_
  exact Rk.end_ (fun h => G_ireturn (pc := 30) rfl dX8_state_30 (q_I h hv2_1 hσ3))
theorem k_Td_sure {κ : Kx} {μ : Sg} (a1 : Int) (a2 : Int) (a3 : Int) (σ : Sg) (ha1 : inR a1) (ha2 : inR a2) (ha3 : inR a3) (hok : okS σ) : CtRI κ mX8_sure 2 [vr 0, vi a1, vi a2, vi a3] false μ σ (Td_sure a1 a2 a3 σ) := by
  intro r h
  refine con_of (by decide) (Nat.le_of_ble_eq_true rfl) 3 ?_
  refine (?_ : Rk κ mX8_sure _ 0 [some (vr 0), some (vi a1), some (vi a2), some (vi a3), none, none, none] [] (ms false μ σ) (Td_sure a1 a2 a3 σ) (fun a => a = r)) _ h rfl
  unfold Td_sure
  refine Rk.sp (G_iconst (pc := 0) dX8_sure_0) ?_
  refine Rk.sp (G_aload_n (pc := 1) 0 rfl rfl dX8_sure_1) ?_
  refine Rk.gR (pc := 2) 1 flX8_12 cl8 rfl lb0 dX8_sure_2 ?_
  refine Rk.cRI (pc := 5) (Cl.v [] [vi 1] dX8_sure_5 ckX8_258 lb1 rfl rfl rfl (Nat.le_of_ble_eq_true rfl) (Nat.le_of_ble_eq_true rfl)) (k_Wo_signs 1 σ lb1 hok) (fun r1 hr1 => ?_)
  refine Rk.sp (G_ishl (pc := 8) dX8_sure_8) ?_
  refine Rk.sp (G_iconst (pc := 9) dX8_sure_9) ?_
  refine Rk.sp (G_isub (pc := 10) dX8_sure_10) ?_
  refine Rk.ist_w (pc := 11) 4 (fun v4_2 => [some (vr 0), some (vi a1), some (vi a2), some (vi a3), some (vi v4_2), none, none]) (Nat.le_of_ble_eq_true rfl) rfl dX8_sure_11 (nmW _) (fun _ => rfl) (fun v4_2 hv4_2 => ?_)
  refine Rk.sp (G_iload_n (pc := 13) 1 rfl rfl dX8_sure_13) ?_
  refine Rk.sp (G_iconst (pc := 14) dX8_sure_14) ?_
  refine Rk.sp (G_sipush (pc := 15) dX8_sure_15 rfl) ?_
  refine Rk.cRZ (pc := 18) (Cl.s [vi a1, vi 0, vi 1000] [] dX8_sure_18 ckX8_81 rfl rfl (Nat.le_of_ble_eq_true rfl) (Nat.le_of_ble_eq_true rfl)) (k_Td_within a1 0 1000 ha1 (inRk 0 rfl) (inRk 1000 rfl)) (fun r3 hr3 => ?_)
  refine Rk.if_eq (pc := 21) (tgt := 41) dX8_sure_21 (nmI (inZ.R hr3)) rfl (fun hc4 => ?_) (fun hc4 => ?_)
  · refine Rk.sp (G_iconst (pc := 41) dX8_sure_41) ?_
    exact Rk.end_ (fun h => G_ireturn (pc := 42) rfl dX8_sure_42 (q_RI h (inRk (-1) rfl)))
  · refine Rk.sp (G_iload_n (pc := 24) 2 rfl rfl dX8_sure_24) ?_
    refine Rk.sp (G_iload_n (pc := 25) 3 rfl rfl dX8_sure_25) ?_
    refine Rk.sp (G_iand (pc := 26) dX8_sure_26) ?_
    refine Rk.if_ne (pc := 27) (tgt := 41) dX8_sure_27 (nmI (bAnd_R _ _)) rfl (fun hc5 => ?_) (fun hc5 => ?_)
    · refine Rk.sp (G_iload_n (pc := 30) 2 rfl rfl dX8_sure_30) ?_
      refine Rk.sp (G_iload_n (pc := 31) 3 rfl rfl dX8_sure_31) ?_
      refine Rk.sp (G_ior (pc := 32) dX8_sure_32) ?_
      refine Rk.sp (G_iload_w (pc := 33) 4 rfl dX8_sure_33) ?_
      refine Rk.sp (G_iconst (pc := 35) dX8_sure_35) ?_
      refine Rk.sp (G_ixor (pc := 36) dX8_sure_36) ?_
      refine Rk.sp (G_iand (pc := 37) dX8_sure_37) ?_
      refine Rk.if_eq (pc := 38) (tgt := 43) dX8_sure_38 (nmI (bAnd_R _ _)) rfl (fun hc6 => ?_) (fun hc6 => ?_)
      · refine Rk.sp (G_iload_n (pc := 43) 1 rfl rfl dX8_sure_43) ?_
        refine Rk.sp (G_sipush (pc := 44) dX8_sure_44 rfl) ?_
        refine Rk.sp (G_imul (pc := 47) dX8_sure_47) ?_
        refine Rk.ist_w (pc := 48) 5 (fun v5_7 => [some (vr 0), some (vi a1), some (vi a2), some (vi a3), some (vi v4_2), some (vi v5_7), none]) (Nat.le_of_ble_eq_true rfl) rfl dX8_sure_48 (nmW _) (fun _ => rfl) (fun v5_7 hv5_7 => ?_)
        refine Rk.sp (G_iconst (pc := 50) dX8_sure_50) ?_
        refine Rk.isa_w (pc := 51) 6 (L' := [some (vr 0), some (vi a1), some (vi a2), some (vi a3), some (vi v4_2), some (vi v5_7), some (vi 0)]) (Nat.le_of_ble_eq_true rfl) rfl dX8_sure_51 rfl ?_
        refine Rk.fg [true, false, true, true, false, true, true] (L' := [some (vr 0), none, some (vi a2), some (vi a3), none, some (vi v5_7), some (vi 0)]) rfl ?_
        refine Rk.loop (pc := 53) (B := (fun p => Td_sure_53_b σ a2 a3 p.1 p.2)) (fun p => inR p.1 ∧ inR p.2) (fun p => [some (vr 0), none, some (vi a2), some (vi a3), none, some (vi p.1), some (vi p.2)]) (fun p => (ms false μ σ)) (fun p hp => ?_) (v5_7, 0) ⟨hv5_7, (inRk 0 rfl)⟩
        obtain ⟨v5_8, v6_9⟩ := p
        obtain ⟨hv5_8, hv6_9⟩ := hp
        try dsimp only
        unfold Td_sure_53_b
        refine Rk.sp (G_iload_w (pc := 53) 6 rfl dX8_sure_53) ?_
        refine Rk.sp (G_aload_n (pc := 55) 0 rfl rfl dX8_sure_55) ?_
        refine Rk.gR (pc := 56) 1 flX8_12 cl8 rfl lb0 dX8_sure_56 ?_
        refine Rk.cRI (pc := 59) (Cl.v [] [vi v6_9] dX8_sure_59 ckX8_258 lb1 rfl rfl rfl (Nat.le_of_ble_eq_true rfl) (Nat.le_of_ble_eq_true rfl)) (k_Wo_signs 1 σ lb1 hok) (fun r10 hr10 => ?_)
        refine Rk.icmp_ge (pc := 62) (tgt := 109) dX8_sure_62 (nmI hv6_9) (nmI hr10) rfl (fun hc11 => ?_) (fun hc11 => ?_)
        · refine Rk.sp (G_iload_n (pc := 65) 2 rfl rfl dX8_sure_65) ?_
          refine Rk.sp (G_iload_n (pc := 66) 3 rfl rfl dX8_sure_66) ?_
          refine Rk.sp (G_ior (pc := 67) dX8_sure_67) ?_
          refine Rk.sp (G_iload_w (pc := 68) 6 rfl dX8_sure_68) ?_
          refine Rk.sp (G_ishr (pc := 70) dX8_sure_70) ?_
          refine Rk.sp (G_iconst (pc := 71) dX8_sure_71) ?_
          refine Rk.sp (G_iand (pc := 72) dX8_sure_72) ?_
          refine Rk.if_eq (pc := 73) (tgt := 103) dX8_sure_73 (nmI (bAnd_R _ _)) rfl (fun hc12 => ?_) (fun hc12 => ?_)
          · refine Rk.inc (pc := 103) 6 (fun v6_13 => [some (vr 0), none, some (vi a2), some (vi a3), none, some (vi v5_8), some (vi v6_13)]) rfl (Nat.le_of_ble_eq_true rfl) rfl dX8_sure_103 (fun _ => rfl) (fun v6_13 hv6_13 => ?_)
            refine Rk.sp (G_goto (pc := 106) (tgt := 53) dX8_sure_106 rfl) ?_
            exact Rk.end_ (fun h => h ⟨hv5_8, hv6_13⟩)
          · refine Rk.sp (G_aload_n (pc := 76) 0 rfl rfl dX8_sure_76) ?_
            refine Rk.gR (pc := 77) 1 flX8_12 cl8 rfl lb0 dX8_sure_77 ?_
            refine Rk.sp (G_iload_w (pc := 80) 5 rfl dX8_sure_80) ?_
            refine Rk.sp (G_iload_w (pc := 82) 6 rfl dX8_sure_82) ?_
            refine Rk.sp (G_iload_n (pc := 84) 2 rfl rfl dX8_sure_84) ?_
            refine Rk.sp (G_iload_w (pc := 85) 6 rfl dX8_sure_85) ?_
            refine Rk.sp (G_ishr (pc := 87) dX8_sure_87) ?_
            refine Rk.sp (G_iconst (pc := 88) dX8_sure_88) ?_
            refine Rk.sp (G_iand (pc := 89) dX8_sure_89) ?_
            refine Rk.join (P := fun p => inR p) (pcj := 98) (fun p => [some (vr 0), none, some (vi a2), some (vi a3), none, none, some (vi v6_9)]) (fun p => [vi p, vi v6_9, vi v5_8, vr 1]) (fun p => (ms false μ σ)) ?_ (fun p hp => ?_)
            · refine Rk.if_eq (pc := 90) (tgt := 97) dX8_sure_90 (nmI (bAnd_R _ _)) rfl (fun hc14 => ?_) (fun hc14 => ?_)
              · refine Rk.sp (G_iconst (pc := 97) dX8_sure_97) ?_
                refine Rk.fg [true, false, true, true, false, false, true] (L' := [some (vr 0), none, some (vi a2), some (vi a3), none, none, some (vi v6_9)]) rfl ?_
                exact Rk.end_ (fun h => h (inRk 0 rfl))
              · refine Rk.sp (G_iconst (pc := 93) dX8_sure_93) ?_
                refine Rk.sp (G_goto (pc := 94) (tgt := 98) dX8_sure_94 rfl) ?_
                refine Rk.fg [true, false, true, true, false, false, true] (L' := [some (vr 0), none, some (vi a2), some (vi a3), none, none, some (vi v6_9)]) rfl ?_
                exact Rk.end_ (fun h => h (inRk 1 rfl))
            · revert hp; revert p; intro t15 ht15
              try dsimp only
              refine Rk.cRI (pc := 98) (Cl.v [vi v5_8, vi v6_9, vi t15] [] dX8_sure_98 ckX8_261 lb1 rfl rfl rfl (Nat.le_of_ble_eq_true rfl) (Nat.le_of_ble_eq_true rfl)) (k_Wo_surer 1 v5_8 v6_9 t15 σ lb1 hv5_8 hv6_9 ht15 hok) (fun r16 hr16 => ?_)
              refine Rk.isa_w (pc := 101) 5 (L' := [some (vr 0), none, some (vi a2), some (vi a3), none, some (vi r16), some (vi v6_9)]) (Nat.le_of_ble_eq_true rfl) rfl dX8_sure_101 rfl ?_
              refine Rk.inc (pc := 103) 6 (fun v6_17 => [some (vr 0), none, some (vi a2), some (vi a3), none, some (vi r16), some (vi v6_17)]) rfl (Nat.le_of_ble_eq_true rfl) rfl dX8_sure_103 (fun _ => rfl) (fun v6_17 hv6_17 => ?_)
              refine Rk.sp (G_goto (pc := 106) (tgt := 53) dX8_sure_106 rfl) ?_
              exact Rk.end_ (fun h => h ⟨hr16, hv6_17⟩)
        · refine Rk.sp (G_iload_w (pc := 109) 5 rfl dX8_sure_109) ?_
          exact Rk.end_ (fun h => G_ireturn (pc := 111) rfl dX8_sure_111 (q_RI h hv5_8))
      · refine Rk.sp (G_iconst (pc := 41) dX8_sure_41) ?_
        exact Rk.end_ (fun h => G_ireturn (pc := 42) rfl dX8_sure_42 (q_RI h (inRk (-1) rfl)))
    · refine Rk.sp (G_iconst (pc := 41) dX8_sure_41) ?_
      exact Rk.end_ (fun h => G_ireturn (pc := 42) rfl dX8_sure_42 (q_RI h (inRk (-1) rfl)))
theorem k_Td_table {κ : Kx} {μ : Sg} (a1 : Int) (a2 : Int) (a3 : Int) (σ : Sg) (ha1 : inR a1) (ha2 : inR a2) (ha3 : inR a3) (hok : okS σ) : CtZ κ mX8_table 1 [vr 0, vi a1, vi a2, vi a3] false μ σ (Td_table a1 a2 a3 σ) := by
  intro r τ h
  refine con_of (by decide) (Nat.le_of_ble_eq_true rfl) 0 ?_
  refine (?_ : Rk κ mX8_table _ 0 [some (vr 0), some (vi a1), some (vi a2), some (vi a3)] [] (ms false μ σ) (Td_table a1 a2 a3 σ) (fun a => a = (r, τ))) _ h rfl
  unfold Td_table
  refine Rk.sp (G_iload_n (pc := 0) 1 rfl rfl dX8_table_0) ?_
  refine Rk.sp (G_iconst (pc := 1) dX8_table_1) ?_
  refine Rk.sp (G_iconst (pc := 2) dX8_table_2) ?_
  refine Rk.cRZ (pc := 3) (Cl.s [vi a1, vi 0, vi 3] [] dX8_table_3 ckX8_81 rfl rfl (Nat.le_of_ble_eq_true rfl) (Nat.le_of_ble_eq_true rfl)) (k_Td_within a1 0 3 ha1 (inRk 0 rfl) (inRk 3 rfl)) (fun r1 hr1 => ?_)
  refine Rk.if_eq (pc := 6) (tgt := 29) dX8_table_6 (nmI (inZ.R hr1)) rfl (fun hc2 => ?_) (fun hc2 => ?_)
  · refine Rk.sp (G_iconst (pc := 29) dX8_table_29) ?_
    exact Rk.end_ (fun h => G_zreturn (pc := 30) rfl (nz inZ0) dX8_table_30 (q_Z h inZ0 hok))
  · refine Rk.sp (G_iload_n (pc := 9) 2 rfl rfl dX8_table_9) ?_
    refine Rk.sp (G_iconst (pc := 10) dX8_table_10) ?_
    refine Rk.sp (G_bipush (pc := 11) dX8_table_11 rfl) ?_
    refine Rk.cRZ (pc := 13) (Cl.s [vi a2, vi 0, vi 99] [] dX8_table_13 ckX8_81 rfl rfl (Nat.le_of_ble_eq_true rfl) (Nat.le_of_ble_eq_true rfl)) (k_Td_within a2 0 99 ha2 (inRk 0 rfl) (inRk 99 rfl)) (fun r3 hr3 => ?_)
    refine Rk.if_eq (pc := 16) (tgt := 29) dX8_table_16 (nmI (inZ.R hr3)) rfl (fun hc4 => ?_) (fun hc4 => ?_)
    · refine Rk.sp (G_iconst (pc := 29) dX8_table_29) ?_
      exact Rk.end_ (fun h => G_zreturn (pc := 30) rfl (nz inZ0) dX8_table_30 (q_Z h inZ0 hok))
    · refine Rk.sp (G_iload_n (pc := 19) 3 rfl rfl dX8_table_19) ?_
      refine Rk.sp (G_iconst (pc := 20) dX8_table_20) ?_
      refine Rk.sp (G_bipush (pc := 21) dX8_table_21 rfl) ?_
      refine Rk.cRZ (pc := 23) (Cl.s [vi a3, vi 0, vi 99] [] dX8_table_23 ckX8_81 rfl rfl (Nat.le_of_ble_eq_true rfl) (Nat.le_of_ble_eq_true rfl)) (k_Td_within a3 0 99 ha3 (inRk 0 rfl) (inRk 99 rfl)) (fun r5 hr5 => ?_)
      refine Rk.if_ne (pc := 26) (tgt := 31) dX8_table_26 (nmI (inZ.R hr5)) rfl (fun hc6 => ?_) (fun hc6 => ?_)
      · refine Rk.sp (G_iconst (pc := 29) dX8_table_29) ?_
        exact Rk.end_ (fun h => G_zreturn (pc := 30) rfl (nz inZ0) dX8_table_30 (q_Z h inZ0 hok))
      · refine Rk.sp (G_aload_n (pc := 31) 0 rfl rfl dX8_table_31) ?_
        refine Rk.gR (pc := 32) 1 flX8_12 cl8 rfl lb0 dX8_table_32 ?_
        refine Rk.gR (pc := 35) 30 flX8_306 cl7 rfl lb1 dX8_table_35 ?_
        refine Rk.sp (G_iload_n (pc := 38) 1 rfl rfl dX8_table_38) ?_
        refine Rk.sp (G_iload_n (pc := 39) 2 rfl rfl dX8_table_39) ?_
        refine Rk.as (pc := 40) hok (nmI ha2) lb30 dX8_table_40 (fun hi8 σ7 hσ7 => ?_)
        refine Rk.sp (G_aload_n (pc := 41) 0 rfl rfl dX8_table_41) ?_
        refine Rk.gR (pc := 42) 1 flX8_12 cl8 rfl lb0 dX8_table_42 ?_
        refine Rk.gR (pc := 45) 30 flX8_306 cl7 rfl lb1 dX8_table_45 ?_
        refine Rk.sp (G_iload_n (pc := 48) 1 rfl rfl dX8_table_48) ?_
        refine Rk.sp (G_iconst (pc := 49) dX8_table_49) ?_
        refine Rk.sp (G_iadd (pc := 50) dX8_table_50) ?_
        refine Rk.sp (G_iload_n (pc := 51) 3 rfl rfl dX8_table_51) ?_
        refine Rk.as (pc := 52) hσ7 (nmI ha3) lb30 dX8_table_52 (fun hi10 σ9 hσ9 => ?_)
        refine Rk.sp (G_iconst (pc := 53) dX8_table_53) ?_
        exact Rk.end_ (fun h => G_zreturn (pc := 54) rfl (nz inZ1) dX8_table_54 (q_Z h inZ1 hσ9))
theorem k_Td_takeBack {κ : Kx} {μ : Sg} (a1 : Int) (σ : Sg) (ha1 : inR a1) (hok : okS σ) : CtZ κ mX8_takeBack 3 [vr 0, vi a1] false μ σ (Td_takeBack a1 σ) := by
  intro r τ h
  refine con_of (by decide) (Nat.le_of_ble_eq_true rfl) 0 ?_
  refine (?_ : Rk κ mX8_takeBack _ 0 [some (vr 0), some (vi a1)] [] (ms false μ σ) (Td_takeBack a1 σ) (fun a => a = (r, τ))) _ h rfl
  unfold Td_takeBack
  refine Rk.sp (G_aload_n (pc := 0) 0 rfl rfl dX8_takeBack_0) ?_
  refine Rk.gR (pc := 1) 1 flX8_12 cl8 rfl lb0 dX8_takeBack_1 ?_
  refine Rk.gR (pc := 4) 2 flX8_71 cl7 rfl lb1 dX8_takeBack_4 ?_
  refine Rk.sp (G_iload_n (pc := 7) 1 rfl rfl dX8_takeBack_7) ?_
  refine Rk.cRZ (pc := 8) (Cl.v [vi a1] [] dX8_takeBack_8 ckX8_120 lb2 rfl rfl rfl (Nat.le_of_ble_eq_true rfl) (Nat.le_of_ble_eq_true rfl)) (k_Ta_has 2 a1 σ lb2 ha1 hok) (fun r1 hr1 => ?_)
  refine Rk.if_eq (pc := 11) (tgt := 28) dX8_takeBack_11 (nmI (inZ.R hr1)) rfl (fun hc2 => ?_) (fun hc2 => ?_)
  · refine Rk.sp (G_iconst (pc := 28) dX8_takeBack_28) ?_
    exact Rk.end_ (fun h => G_zreturn (pc := 29) rfl (nz inZ0) dX8_takeBack_29 (q_Z h inZ0 hok))
  · refine Rk.sp (G_aload_n (pc := 14) 0 rfl rfl dX8_takeBack_14) ?_
    refine Rk.gR (pc := 15) 1 flX8_12 cl8 rfl lb0 dX8_takeBack_15 ?_
    refine Rk.gR (pc := 18) 2 flX8_71 cl7 rfl lb1 dX8_takeBack_18 ?_
    refine Rk.sp (G_iload_n (pc := 21) 1 rfl rfl dX8_takeBack_21) ?_
    refine Rk.cRZ (pc := 22) (Cl.v [vi a1] [] dX8_takeBack_22 ckX8_123 lb2 rfl rfl rfl (Nat.le_of_ble_eq_true rfl) (Nat.le_of_ble_eq_true rfl)) (k_Ta_isOpen 2 a1 σ lb2 ha1 hok) (fun r3 hr3 => ?_)
    refine Rk.if_ne (pc := 25) (tgt := 30) dX8_takeBack_25 (nmI (inZ.R hr3)) rfl (fun hc4 => ?_) (fun hc4 => ?_)
    · refine Rk.sp (G_iconst (pc := 28) dX8_takeBack_28) ?_
      exact Rk.end_ (fun h => G_zreturn (pc := 29) rfl (nz inZ0) dX8_takeBack_29 (q_Z h inZ0 hok))
    · refine Rk.sp (G_aload_n (pc := 30) 0 rfl rfl dX8_takeBack_30) ?_
      refine Rk.gR (pc := 31) 61 flX8_22 cl8 rfl lb0 dX8_takeBack_31 ?_
      refine Rk.sp (G_aload_n (pc := 34) 0 rfl rfl dX8_takeBack_34) ?_
      refine Rk.gR (pc := 35) 1 flX8_12 cl8 rfl lb0 dX8_takeBack_35 ?_
      refine Rk.gR (pc := 38) 2 flX8_71 cl7 rfl lb1 dX8_takeBack_38 ?_
      refine Rk.cV (pc := 41) (Cl.v [vr 2] [] dX8_takeBack_41 ckX8_108 lb61 rfl rfl rfl (Nat.le_of_ble_eq_true rfl) (Nat.le_of_ble_eq_true rfl)) (k_Pa_keep 2 σ lb2 hok) (fun σ5 hσ5 => ?_)
      refine Rk.sp (G_aload_n (pc := 44) 0 rfl rfl dX8_takeBack_44) ?_
      refine Rk.gR (pc := 45) 152 flX8_45 cl8 rfl lb0 dX8_takeBack_45 ?_
      refine Rk.sp (G_aload_n (pc := 48) 0 rfl rfl dX8_takeBack_48) ?_
      refine Rk.gR (pc := 49) 1 flX8_12 cl8 rfl lb0 dX8_takeBack_49 ?_
      refine Rk.gR (pc := 52) 2 flX8_71 cl7 rfl lb1 dX8_takeBack_52 ?_
      refine Rk.sp (G_iconst (pc := 55) dX8_takeBack_55) ?_
      refine Rk.cV (pc := 56) (Cl.v [vr 2, vi 0] [] dX8_takeBack_56 ckX8_112 lb152 rfl rfl rfl (Nat.le_of_ble_eq_true rfl) (Nat.le_of_ble_eq_true rfl)) (k_Co_begin 2 0 σ5 lb2 (inRk 0 rfl) hσ5) (fun σ6 hσ6 => ?_)
      refine Rk.sp (G_aload_n (pc := 59) 0 rfl rfl dX8_takeBack_59) ?_
      refine Rk.gR (pc := 60) 152 flX8_45 cl8 rfl lb0 dX8_takeBack_60 ?_
      refine Rk.sp (G_iload_n (pc := 63) 1 rfl rfl dX8_takeBack_63) ?_
      refine Rk.cV (pc := 64) (Cl.v [vi a1] [] dX8_takeBack_64 ckX8_126 lb152 rfl rfl rfl (Nat.le_of_ble_eq_true rfl) (Nat.le_of_ble_eq_true rfl)) (k_Co_withdraw a1 σ6 ha1 hσ6) (fun σ7 hσ7 => ?_)
      refine Rk.sp (G_iconst (pc := 67) dX8_takeBack_67) ?_
      exact Rk.end_ (fun h => G_zreturn (pc := 68) rfl (nz inZ1) dX8_takeBack_68 (q_Z h inZ1 hσ7))
theorem k_Re_wordsOf {κ : Kx} {b : Bool} {μ σ : Sg} (a1 : Int) (ha1 : inR a1) : CtRS κ mX4_wordsOf 0 [vi a1] b μ σ (Re_wordsOf a1) := by
  intro r h
  refine con_of (by decide) (Nat.le_of_ble_eq_true rfl) 0 ?_
  refine (?_ : Rk κ mX4_wordsOf _ 0 [some (vi a1)] [] (ms b μ σ) (Re_wordsOf a1) (fun a => a = r)) _ h rfl
  unfold Re_wordsOf
  refine Rk.sp (G_iload_n (pc := 0) 0 rfl rfl dX4_wordsOf_0) ?_
  refine Rk.ite (fun hc1 => ?_) (fun hc1 => ?_)
  · refine Rk.tblI (pc := 1) (tgt := 28) 0 hc1 dX4_wordsOf_1 (nmI ha1) (by decide) (by decide) rfl rfl ?_
    refine Rk.sp (G_ldcS (pc := 28) 0 rfl dX4_wordsOf_28) ?_
    exact Rk.end_ (fun h => G_areturn (pc := 30) rfl dX4_wordsOf_30 (q_RS h (by decide)))
  · refine Rk.ite (fun hc2 => ?_) (fun hc2 => ?_)
    · refine Rk.tblI (pc := 1) (tgt := 31) 1 hc2 dX4_wordsOf_1 (nmI ha1) (by decide) (by decide) rfl rfl ?_
      refine Rk.sp (G_ldcS (pc := 31) 1 rfl dX4_wordsOf_31) ?_
      exact Rk.end_ (fun h => G_areturn (pc := 33) rfl dX4_wordsOf_33 (q_RS h (by decide)))
    · refine Rk.ite (fun hc3 => ?_) (fun hc3 => ?_)
      · refine Rk.tblI (pc := 1) (tgt := 34) 2 hc3 dX4_wordsOf_1 (nmI ha1) (by decide) (by decide) rfl rfl ?_
        refine Rk.sp (G_ldcS (pc := 34) 2 rfl dX4_wordsOf_34) ?_
        exact Rk.end_ (fun h => G_areturn (pc := 36) rfl dX4_wordsOf_36 (q_RS h (by decide)))
      · refine Rk.tblO (pc := 1) (tgt := 37) dX4_wordsOf_1 (nmI ha1) (by omega) rfl ?_
        refine Rk.sp (G_ldcS (pc := 37) 3 rfl dX4_wordsOf_37) ?_
        exact Rk.end_ (fun h => G_areturn (pc := 39) rfl dX4_wordsOf_39 (q_RS h (by decide)))
theorem k_Re_isLetter {κ : Kx} {b : Bool} {μ σ : Sg} (a1 : Int) (ha1 : inR a1) : CtRZ κ mX4_isLetter 0 [vi a1] b μ σ (Re_isLetter a1) := by
  intro r h
  refine con_of (by decide) (Nat.le_of_ble_eq_true rfl) 0 ?_
  refine (?_ : Rk κ mX4_isLetter _ 0 [some (vi a1)] [] (ms b μ σ) (Re_isLetter a1) (fun a => a = r)) _ h rfl
  unfold Re_isLetter
  refine Rk.sp (G_iload_n (pc := 0) 0 rfl rfl dX4_isLetter_0) ?_
  refine Rk.sp (G_bipush (pc := 1) dX4_isLetter_1 rfl) ?_
  refine Rk.sel (A := 12) (B := 24) (st' := []) ?_ ?_ ?_
  · refine Rk.icmp_lt (pc := 3) (tgt := 12) dX4_isLetter_3 (nmI ha1) (nmI (inRk 97 rfl)) rfl (fun hc1 => ?_) (fun hc1 => ?_)
    · exact Rk.end_ (fun h => h inZ1)
    · refine Rk.sp (G_iload_n (pc := 6) 0 rfl rfl dX4_isLetter_6) ?_
      refine Rk.sp (G_bipush (pc := 7) dX4_isLetter_7 rfl) ?_
      refine Rk.icmp_le (pc := 9) (tgt := 24) dX4_isLetter_9 (nmI ha1) (nmI (inRk 122 rfl)) rfl (fun hc2 => ?_) (fun hc2 => ?_)
      · exact Rk.end_ (fun h => h inZ1)
      · exact Rk.end_ (fun h => h inZ0)
  · refine Rk.sp (G_iconst (pc := 24) dX4_isLetter_24) ?_
    refine Rk.sp (G_goto (pc := 25) (tgt := 29) dX4_isLetter_25 rfl) ?_
    exact Rk.end_ (fun h => G_zreturn (pc := 29) rfl (nz inZ1) dX4_isLetter_29 (q_RZ h inZ1))
  · refine Rk.sp (G_iload_n (pc := 12) 0 rfl rfl dX4_isLetter_12) ?_
    refine Rk.sp (G_bipush (pc := 13) dX4_isLetter_13 rfl) ?_
    refine Rk.icmp_lt (pc := 15) (tgt := 28) dX4_isLetter_15 (nmI ha1) (nmI (inRk 65 rfl)) rfl (fun hc3 => ?_) (fun hc3 => ?_)
    · refine Rk.sp (G_iconst (pc := 28) dX4_isLetter_28) ?_
      exact Rk.end_ (fun h => G_zreturn (pc := 29) rfl (nz inZ0) dX4_isLetter_29 (q_RZ h inZ0))
    · refine Rk.sp (G_iload_n (pc := 18) 0 rfl rfl dX4_isLetter_18) ?_
      refine Rk.sp (G_bipush (pc := 19) dX4_isLetter_19 rfl) ?_
      refine Rk.icmp_gt (pc := 21) (tgt := 28) dX4_isLetter_21 (nmI ha1) (nmI (inRk 90 rfl)) rfl (fun hc4 => ?_) (fun hc4 => ?_)
      · refine Rk.sp (G_iconst (pc := 28) dX4_isLetter_28) ?_
        exact Rk.end_ (fun h => G_zreturn (pc := 29) rfl (nz inZ0) dX4_isLetter_29 (q_RZ h inZ0))
      · refine Rk.sp (G_iconst (pc := 24) dX4_isLetter_24) ?_
        refine Rk.sp (G_goto (pc := 25) (tgt := 29) dX4_isLetter_25 rfl) ?_
        exact Rk.end_ (fun h => G_zreturn (pc := 29) rfl (nz inZ1) dX4_isLetter_29 (q_RZ h inZ1))
theorem k_Re_findWord {κ : Kx} {μ : Sg} (a1 : Nat) (a2 : Int) (a3 : Int) (σ : Sg) (ha1 : a1 < nStr) (ha2 : inR a2) (ha3 : inR a3) (hok : okS σ) : CtRI κ mX4_findWord 4 [vr 141, vr (1000 + 2 * a1), vi a2, vi a3] false μ σ (Re_findWord a1 a2 a3 σ) := by
  intro r h
  refine con_of (by decide) (Nat.le_of_ble_eq_true rfl) 4 ?_
  refine (?_ : Rk κ mX4_findWord _ 0 [some (vr 141), some (vr (1000 + 2 * a1)), some (vi a2), some (vi a3), none, none, none, none] [] (ms false μ σ) (Re_findWord a1 a2 a3 σ) (fun a => a = r)) _ h rfl
  unfold Re_findWord
  refine Rk.sp (G_iconst (pc := 0) dX4_findWord_0) ?_
  refine Rk.isa_w (pc := 1) 4 (L' := [some (vr 141), some (vr (1000 + 2 * a1)), some (vi a2), some (vi a3), some (vi 0), none, none, none]) (Nat.le_of_ble_eq_true rfl) rfl dX4_findWord_1 rfl ?_
  refine Rk.sp (G_iload_n (pc := 3) 2 rfl rfl dX4_findWord_3) ?_
  refine Rk.isa_w (pc := 4) 5 (L' := [some (vr 141), some (vr (1000 + 2 * a1)), some (vi a2), some (vi a3), some (vi 0), some (vi a2), none, none]) (Nat.le_of_ble_eq_true rfl) rfl dX4_findWord_4 rfl ?_
  refine Rk.sp (G_iconst (pc := 6) dX4_findWord_6) ?_
  refine Rk.isa_w (pc := 7) 6 (L' := [some (vr 141), some (vr (1000 + 2 * a1)), some (vi a2), some (vi a3), some (vi 0), some (vi a2), some (vi 1), none]) (Nat.le_of_ble_eq_true rfl) rfl dX4_findWord_7 rfl ?_
  refine Rk.sp (G_iconst (pc := 9) dX4_findWord_9) ?_
  refine Rk.isa_w (pc := 10) 7 (L' := [some (vr 141), some (vr (1000 + 2 * a1)), some (vi a2), some (vi a3), some (vi 0), some (vi a2), some (vi 1), some (vi 0)]) (Nat.le_of_ble_eq_true rfl) rfl dX4_findWord_10 rfl ?_
  refine Rk.loop (pc := 12) (B := (fun p => Re_findWord_12_b a1 a3 a2 σ p.1 p.2.1 p.2.2.1 p.2.2.2)) (fun p => inR p.1 ∧ inR p.2.1 ∧ inR p.2.2.1 ∧ inR p.2.2.2) (fun p => [some (vr 141), some (vr (1000 + 2 * a1)), some (vi a2), some (vi a3), some (vi p.1), some (vi p.2.1), some (vi p.2.2.1), some (vi p.2.2.2)]) (fun p => (ms false μ σ)) (fun p hp => ?_) (0, a2, 1, 0) ⟨(inRk 0 rfl), ha2, (inRk 1 rfl), (inRk 0 rfl)⟩
  obtain ⟨v4_1, v5_2, v6_3, v7_4⟩ := p
  obtain ⟨hv4_1, hv5_2, hv6_3, hv7_4⟩ := hp
  try dsimp only
  unfold Re_findWord_12_b
  refine Rk.sp (G_iload_w (pc := 12) 7 rfl dX4_findWord_12) ?_
  refine Rk.sp (G_aload_n (pc := 14) 1 rfl rfl dX4_findWord_14) ?_
  refine Rk.cRI (pc := 15) (Cl.str [] [vi v7_4] dX4_findWord_15 ckX4_79 ha1 rfl rfl (Nat.le_of_ble_eq_true rfl) (Nat.le_of_ble_eq_true rfl)) (k_sL a1 ha1) (fun r5 hr5 => ?_)
  refine Rk.icmp_ge (pc := 18) (tgt := 101) dX4_findWord_18 (nmI hv7_4) (nmI hr5) rfl (fun hc6 => ?_) (fun hc6 => ?_)
  · refine Rk.sp (G_aload_n (pc := 21) 1 rfl rfl dX4_findWord_21) ?_
    refine Rk.sp (G_iload_w (pc := 22) 7 rfl dX4_findWord_22) ?_
    refine Rk.cRI (pc := 24) (Cl.str [vi v7_4] [] dX4_findWord_24 ckX4_84 ha1 rfl rfl (Nat.le_of_ble_eq_true rfl) (Nat.le_of_ble_eq_true rfl)) (k_sC a1 v7_4 ha1 hv7_4) (fun r7 hr7 => ?_)
    refine Rk.sp (G_bipush (pc := 27) dX4_findWord_27 rfl) ?_
    refine Rk.icmp_ne (pc := 29) (tgt := 58) dX4_findWord_29 (nmI hr7) (nmI (inRk 32 rfl)) rfl (fun hc8 => ?_) (fun hc8 => ?_)
    · refine Rk.sp (G_iload_w (pc := 32) 6 rfl dX4_findWord_32) ?_
      refine Rk.sel (A := 46) (B := 43) (st' := []) ?_ ?_ ?_
      · refine Rk.if_eq (pc := 34) (tgt := 46) dX4_findWord_34 (nmI hv6_3) rfl (fun hc9 => ?_) (fun hc9 => ?_)
        · exact Rk.end_ (fun h => h inZ1)
        · refine Rk.sp (G_iload_w (pc := 37) 5 rfl dX4_findWord_37) ?_
          refine Rk.sp (G_iload_n (pc := 39) 3 rfl rfl dX4_findWord_39) ?_
          refine Rk.icmp_ne (pc := 40) (tgt := 46) dX4_findWord_40 (nmI hv5_2) (nmI ha3) rfl (fun hc10 => ?_) (fun hc10 => ?_)
          · exact Rk.end_ (fun h => h inZ0)
          · exact Rk.end_ (fun h => h inZ1)
      · refine Rk.sp (G_iload_w (pc := 43) 4 rfl dX4_findWord_43) ?_
        exact Rk.end_ (fun h => G_ireturn (pc := 45) rfl dX4_findWord_45 (q_RI h hv4_1))
      · refine Rk.inc (pc := 46) 4 (fun v4_11 => [some (vr 141), some (vr (1000 + 2 * a1)), some (vi a2), some (vi a3), some (vi v4_11), some (vi v5_2), some (vi v6_3), some (vi v7_4)]) rfl (Nat.le_of_ble_eq_true rfl) rfl dX4_findWord_46 (fun _ => rfl) (fun v4_11 hv4_11 => ?_)
        refine Rk.sp (G_iload_n (pc := 49) 2 rfl rfl dX4_findWord_49) ?_
        refine Rk.isa_w (pc := 50) 5 (L' := [some (vr 141), some (vr (1000 + 2 * a1)), some (vi a2), some (vi a3), some (vi v4_11), some (vi a2), some (vi v6_3), some (vi v7_4)]) (Nat.le_of_ble_eq_true rfl) rfl dX4_findWord_50 rfl ?_
        refine Rk.sp (G_iconst (pc := 52) dX4_findWord_52) ?_
        refine Rk.isa_w (pc := 53) 6 (L' := [some (vr 141), some (vr (1000 + 2 * a1)), some (vi a2), some (vi a3), some (vi v4_11), some (vi a2), some (vi 1), some (vi v7_4)]) (Nat.le_of_ble_eq_true rfl) rfl dX4_findWord_53 rfl ?_
        refine Rk.sp (G_goto (pc := 55) (tgt := 95) dX4_findWord_55 rfl) ?_
        refine Rk.inc (pc := 95) 7 (fun v7_12 => [some (vr 141), some (vr (1000 + 2 * a1)), some (vi a2), some (vi a3), some (vi v4_11), some (vi a2), some (vi 1), some (vi v7_12)]) rfl (Nat.le_of_ble_eq_true rfl) rfl dX4_findWord_95 (fun _ => rfl) (fun v7_12 hv7_12 => ?_)
        refine Rk.sp (G_goto (pc := 98) (tgt := 12) dX4_findWord_98 rfl) ?_
        exact Rk.end_ (fun h => h ⟨hv4_11, ha2, (inRk 1 rfl), hv7_12⟩)
    · refine Rk.sp (G_iload_w (pc := 58) 6 rfl dX4_findWord_58) ?_
      refine Rk.if_eq (pc := 60) (tgt := 89) dX4_findWord_60 (nmI hv6_3) rfl (fun hc14 => ?_) (fun hc14 => ?_)
      · refine Rk.sp (G_iconst (pc := 89) dX4_findWord_89) ?_
        refine Rk.isa_w (pc := 90) 6 (L' := [some (vr 141), some (vr (1000 + 2 * a1)), some (vi a2), some (vi a3), some (vi v4_1), some (vi v5_2), some (vi 0), some (vi v7_4)]) (Nat.le_of_ble_eq_true rfl) rfl dX4_findWord_90 rfl ?_
        refine Rk.inc (pc := 92) 5 (fun v5_15 => [some (vr 141), some (vr (1000 + 2 * a1)), some (vi a2), some (vi a3), some (vi v4_1), some (vi v5_15), some (vi 0), some (vi v7_4)]) rfl (Nat.le_of_ble_eq_true rfl) rfl dX4_findWord_92 (fun _ => rfl) (fun v5_15 hv5_15 => ?_)
        refine Rk.inc (pc := 95) 7 (fun v7_16 => [some (vr 141), some (vr (1000 + 2 * a1)), some (vi a2), some (vi a3), some (vi v4_1), some (vi v5_15), some (vi 0), some (vi v7_16)]) rfl (Nat.le_of_ble_eq_true rfl) rfl dX4_findWord_95 (fun _ => rfl) (fun v7_16 hv7_16 => ?_)
        refine Rk.sp (G_goto (pc := 98) (tgt := 12) dX4_findWord_98 rfl) ?_
        exact Rk.end_ (fun h => h ⟨hv4_1, hv5_15, (inRk 0 rfl), hv7_16⟩)
      · refine Rk.sp (G_iload_w (pc := 63) 5 rfl dX4_findWord_63) ?_
        refine Rk.sp (G_iload_n (pc := 65) 3 rfl rfl dX4_findWord_65) ?_
        refine Rk.icmp_ge (pc := 66) (tgt := 89) dX4_findWord_66 (nmI hv5_2) (nmI ha3) rfl (fun hc17 => ?_) (fun hc17 => ?_)
        · refine Rk.sp (G_aload_n (pc := 69) 0 rfl rfl dX4_findWord_69) ?_
          refine Rk.gR (pc := 70) 145 flX4_24 cl4 rfl lb141 dX4_findWord_70 ?_
          refine Rk.sp (G_iload_w (pc := 73) 5 rfl dX4_findWord_73) ?_
          refine Rk.al (pc := 75) lb145 dX4_findWord_75 (fun hi18 => ?_)
          refine Rk.sp (G_aload_n (pc := 76) 1 rfl rfl dX4_findWord_76) ?_
          refine Rk.sp (G_iload_w (pc := 77) 7 rfl dX4_findWord_77) ?_
          refine Rk.cRI (pc := 79) (Cl.str [vi v7_4] [vi (σ 145 (v5_2).toNat)] dX4_findWord_79 ckX4_84 ha1 rfl rfl (Nat.le_of_ble_eq_true rfl) (Nat.le_of_ble_eq_true rfl)) (k_sC a1 v7_4 ha1 hv7_4) (fun r19 hr19 => ?_)
          refine Rk.icmp_ne (pc := 82) (tgt := 89) dX4_findWord_82 (nmI (hok _ _)) (nmI hr19) rfl (fun hc20 => ?_) (fun hc20 => ?_)
          · refine Rk.sp (G_iconst (pc := 85) dX4_findWord_85) ?_
            refine Rk.sp (G_goto (pc := 86) (tgt := 90) dX4_findWord_86 rfl) ?_
            refine Rk.isa_w (pc := 90) 6 (L' := [some (vr 141), some (vr (1000 + 2 * a1)), some (vi a2), some (vi a3), some (vi v4_1), some (vi v5_2), some (vi 1), some (vi v7_4)]) (Nat.le_of_ble_eq_true rfl) rfl dX4_findWord_90 rfl ?_
            refine Rk.inc (pc := 92) 5 (fun v5_21 => [some (vr 141), some (vr (1000 + 2 * a1)), some (vi a2), some (vi a3), some (vi v4_1), some (vi v5_21), some (vi 1), some (vi v7_4)]) rfl (Nat.le_of_ble_eq_true rfl) rfl dX4_findWord_92 (fun _ => rfl) (fun v5_21 hv5_21 => ?_)
            refine Rk.inc (pc := 95) 7 (fun v7_22 => [some (vr 141), some (vr (1000 + 2 * a1)), some (vi a2), some (vi a3), some (vi v4_1), some (vi v5_21), some (vi 1), some (vi v7_22)]) rfl (Nat.le_of_ble_eq_true rfl) rfl dX4_findWord_95 (fun _ => rfl) (fun v7_22 hv7_22 => ?_)
            refine Rk.sp (G_goto (pc := 98) (tgt := 12) dX4_findWord_98 rfl) ?_
            exact Rk.end_ (fun h => h ⟨hv4_1, hv5_21, (inRk 1 rfl), hv7_22⟩)
          · refine Rk.sp (G_iconst (pc := 89) dX4_findWord_89) ?_
            refine Rk.isa_w (pc := 90) 6 (L' := [some (vr 141), some (vr (1000 + 2 * a1)), some (vi a2), some (vi a3), some (vi v4_1), some (vi v5_2), some (vi 0), some (vi v7_4)]) (Nat.le_of_ble_eq_true rfl) rfl dX4_findWord_90 rfl ?_
            refine Rk.inc (pc := 92) 5 (fun v5_23 => [some (vr 141), some (vr (1000 + 2 * a1)), some (vi a2), some (vi a3), some (vi v4_1), some (vi v5_23), some (vi 0), some (vi v7_4)]) rfl (Nat.le_of_ble_eq_true rfl) rfl dX4_findWord_92 (fun _ => rfl) (fun v5_23 hv5_23 => ?_)
            refine Rk.inc (pc := 95) 7 (fun v7_24 => [some (vr 141), some (vr (1000 + 2 * a1)), some (vi a2), some (vi a3), some (vi v4_1), some (vi v5_23), some (vi 0), some (vi v7_24)]) rfl (Nat.le_of_ble_eq_true rfl) rfl dX4_findWord_95 (fun _ => rfl) (fun v7_24 hv7_24 => ?_)
            refine Rk.sp (G_goto (pc := 98) (tgt := 12) dX4_findWord_98 rfl) ?_
            exact Rk.end_ (fun h => h ⟨hv4_1, hv5_23, (inRk 0 rfl), hv7_24⟩)
        · refine Rk.sp (G_iconst (pc := 89) dX4_findWord_89) ?_
          refine Rk.isa_w (pc := 90) 6 (L' := [some (vr 141), some (vr (1000 + 2 * a1)), some (vi a2), some (vi a3), some (vi v4_1), some (vi v5_2), some (vi 0), some (vi v7_4)]) (Nat.le_of_ble_eq_true rfl) rfl dX4_findWord_90 rfl ?_
          refine Rk.inc (pc := 92) 5 (fun v5_25 => [some (vr 141), some (vr (1000 + 2 * a1)), some (vi a2), some (vi a3), some (vi v4_1), some (vi v5_25), some (vi 0), some (vi v7_4)]) rfl (Nat.le_of_ble_eq_true rfl) rfl dX4_findWord_92 (fun _ => rfl) (fun v5_25 hv5_25 => ?_)
          refine Rk.inc (pc := 95) 7 (fun v7_26 => [some (vr 141), some (vr (1000 + 2 * a1)), some (vi a2), some (vi a3), some (vi v4_1), some (vi v5_25), some (vi 0), some (vi v7_26)]) rfl (Nat.le_of_ble_eq_true rfl) rfl dX4_findWord_95 (fun _ => rfl) (fun v7_26 hv7_26 => ?_)
          refine Rk.sp (G_goto (pc := 98) (tgt := 12) dX4_findWord_98 rfl) ?_
          exact Rk.end_ (fun h => h ⟨hv4_1, hv5_25, (inRk 0 rfl), hv7_26⟩)
  · refine Rk.sp (G_iload_w (pc := 101) 6 rfl dX4_findWord_101) ?_
    refine Rk.if_eq (pc := 103) (tgt := 117) dX4_findWord_103 (nmI hv6_3) rfl (fun hc27 => ?_) (fun hc27 => ?_)
    · refine Rk.sp (G_iconst (pc := 117) dX4_findWord_117) ?_
      exact Rk.end_ (fun h => G_ireturn (pc := 118) rfl dX4_findWord_118 (q_RI h (inRk (-1) rfl)))
    · refine Rk.sp (G_iload_w (pc := 106) 5 rfl dX4_findWord_106) ?_
      refine Rk.sp (G_iload_n (pc := 108) 3 rfl rfl dX4_findWord_108) ?_
      refine Rk.icmp_ne (pc := 109) (tgt := 117) dX4_findWord_109 (nmI hv5_2) (nmI ha3) rfl (fun hc28 => ?_) (fun hc28 => ?_)
      · refine Rk.sp (G_iload_w (pc := 112) 4 rfl dX4_findWord_112) ?_
        refine Rk.sp (G_goto (pc := 114) (tgt := 118) dX4_findWord_114 rfl) ?_
        exact Rk.end_ (fun h => G_ireturn (pc := 118) rfl dX4_findWord_118 (q_RI h hv4_1))
      · refine Rk.sp (G_iconst (pc := 117) dX4_findWord_117) ?_
        exact Rk.end_ (fun h => G_ireturn (pc := 118) rfl dX4_findWord_118 (q_RI h (inRk (-1) rfl)))
theorem k_Re_addToken {κ : Kx} {μ : Sg} (a1 : Int) (a2 : Int) (a3 : Int) (σ : Sg) (ha1 : inR a1) (ha2 : inR a2) (ha3 : inR a3) (hok : okS σ) : CtV κ mX4_addToken 0 [vr 141, vi a1, vi a2, vi a3] false μ σ (Re_addToken a1 a2 a3 σ) := by
  intro τ h
  refine con_of (by decide) (Nat.le_of_ble_eq_true rfl) 0 ?_
  refine (?_ : Rk κ mX4_addToken _ 0 [some (vr 141), some (vi a1), some (vi a2), some (vi a3)] [] (ms false μ σ) (Re_addToken a1 a2 a3 σ) (fun a => a = τ)) _ h rfl
  unfold Re_addToken
  refine Rk.sp (G_aload_n (pc := 0) 0 rfl rfl dX4_addToken_0) ?_
  refine Rk.gI (pc := 1) flX4_47 cl4 rfl lb141 dX4_addToken_1 ?_
  refine Rk.sp (G_aload_n (pc := 4) 0 rfl rfl dX4_addToken_4) ?_
  refine Rk.gR (pc := 5) 146 flX4_28 cl4 rfl lb141 dX4_addToken_5 ?_
  refine Rk.sp (G_arrlen (pc := 8) (lb146).1 dX4_addToken_8) ?_
  refine Rk.icmp_ge (pc := 9) (tgt := 52) dX4_addToken_9 (nmI (hok _ _)) (nmI (inRk 401 rfl)) rfl (fun hc1 => ?_) (fun hc1 => ?_)
  · refine Rk.sp (G_aload_n (pc := 12) 0 rfl rfl dX4_addToken_12) ?_
    refine Rk.gR (pc := 13) 146 flX4_28 cl4 rfl lb141 dX4_addToken_13 ?_
    refine Rk.sp (G_aload_n (pc := 16) 0 rfl rfl dX4_addToken_16) ?_
    refine Rk.gI (pc := 17) flX4_47 cl4 rfl lb141 dX4_addToken_17 ?_
    refine Rk.sp (G_iload_n (pc := 20) 1 rfl rfl dX4_addToken_20) ?_
    refine Rk.as (pc := 21) hok (nmI ha1) lb146 dX4_addToken_21 (fun hi3 σ2 hσ2 => ?_)
    refine Rk.sp (G_aload_n (pc := 22) 0 rfl rfl dX4_addToken_22) ?_
    refine Rk.gR (pc := 23) 147 flX4_31 cl4 rfl lb141 dX4_addToken_23 ?_
    refine Rk.sp (G_aload_n (pc := 26) 0 rfl rfl dX4_addToken_26) ?_
    refine Rk.gI (pc := 27) flX4_47 cl4 rfl lb141 dX4_addToken_27 ?_
    refine Rk.sp (G_iload_n (pc := 30) 2 rfl rfl dX4_addToken_30) ?_
    refine Rk.as (pc := 31) hσ2 (nmI ha2) lb147 dX4_addToken_31 (fun hi5 σ4 hσ4 => ?_)
    refine Rk.sp (G_aload_n (pc := 32) 0 rfl rfl dX4_addToken_32) ?_
    refine Rk.gR (pc := 33) 148 flX4_34 cl4 rfl lb141 dX4_addToken_33 ?_
    refine Rk.sp (G_aload_n (pc := 36) 0 rfl rfl dX4_addToken_36) ?_
    refine Rk.gI (pc := 37) flX4_47 cl4 rfl lb141 dX4_addToken_37 ?_
    refine Rk.sp (G_iload_n (pc := 40) 3 rfl rfl dX4_addToken_40) ?_
    refine Rk.as (pc := 41) hσ4 (nmI ha3) lb148 dX4_addToken_41 (fun hi7 σ6 hσ6 => ?_)
    refine Rk.sp (G_aload_n (pc := 42) 0 rfl rfl dX4_addToken_42) ?_
    refine Rk.sp (G_dup (pc := 43) dX4_addToken_43 (fun _ h => by cases h)) ?_
    refine Rk.gI (pc := 44) flX4_47 cl4 rfl lb141 dX4_addToken_44 ?_
    refine Rk.sp (G_iconst (pc := 47) dX4_addToken_47) ?_
    refine Rk.sp (G_iadd (pc := 48) dX4_addToken_48) ?_
    refine Rk.pI (pc := 49) hσ6 (nmW _) flX4_47 cl4 rfl rfl lb141 dX4_addToken_49 (fun σ8 hσ8 => ?_)
    exact Rk.end_ (fun h => G_return (pc := 52) rfl dX4_addToken_52 (q_V h hσ8))
  · exact Rk.end_ (fun h => G_return (pc := 52) rfl dX4_addToken_52 (q_V h hok))
theorem k_Re_isDigit {κ : Kx} {b : Bool} {μ σ : Sg} (a1 : Int) (ha1 : inR a1) : CtRZ κ mX4_isDigit 0 [vi a1] b μ σ (Re_isDigit a1) := by
  intro r h
  refine con_of (by decide) (Nat.le_of_ble_eq_true rfl) 0 ?_
  refine (?_ : Rk κ mX4_isDigit _ 0 [some (vi a1)] [] (ms b μ σ) (Re_isDigit a1) (fun a => a = r)) _ h rfl
  unfold Re_isDigit
  refine Rk.sp (G_iload_n (pc := 0) 0 rfl rfl dX4_isDigit_0) ?_
  refine Rk.sp (G_bipush (pc := 1) dX4_isDigit_1 rfl) ?_
  refine Rk.icmp_lt (pc := 3) (tgt := 16) dX4_isDigit_3 (nmI ha1) (nmI (inRk 48 rfl)) rfl (fun hc1 => ?_) (fun hc1 => ?_)
  · refine Rk.sp (G_iconst (pc := 16) dX4_isDigit_16) ?_
    exact Rk.end_ (fun h => G_zreturn (pc := 17) rfl (nz inZ0) dX4_isDigit_17 (q_RZ h inZ0))
  · refine Rk.sp (G_iload_n (pc := 6) 0 rfl rfl dX4_isDigit_6) ?_
    refine Rk.sp (G_bipush (pc := 7) dX4_isDigit_7 rfl) ?_
    refine Rk.icmp_gt (pc := 9) (tgt := 16) dX4_isDigit_9 (nmI ha1) (nmI (inRk 57 rfl)) rfl (fun hc2 => ?_) (fun hc2 => ?_)
    · refine Rk.sp (G_iconst (pc := 16) dX4_isDigit_16) ?_
      exact Rk.end_ (fun h => G_zreturn (pc := 17) rfl (nz inZ0) dX4_isDigit_17 (q_RZ h inZ0))
    · refine Rk.sp (G_iconst (pc := 12) dX4_isDigit_12) ?_
      refine Rk.sp (G_goto (pc := 13) (tgt := 17) dX4_isDigit_13 rfl) ?_
      exact Rk.end_ (fun h => G_zreturn (pc := 17) rfl (nz inZ1) dX4_isDigit_17 (q_RZ h inZ1))
theorem k_Re_cutOne {κ : Kx} {μ : Sg} (a1 : Nat) (a2 : Int) (a3 : Int) (σ : Sg) (ha1 : a1 < nStr) (ha2 : inR a2) (ha3 : inR a3) (hok : okS σ) : CtI κ mX4_cutOne 5 [vr 141, vr (1000 + 2 * a1), vi a2, vi a3] false μ σ (Re_cutOne a1 a2 a3 σ) := by
  intro r τ h
  refine con_of (by decide) (Nat.le_of_ble_eq_true rfl) 2 ?_
  refine (?_ : Rk κ mX4_cutOne _ 0 [some (vr 141), some (vr (1000 + 2 * a1)), some (vi a2), some (vi a3), none, none] [] (ms false μ σ) (Re_cutOne a1 a2 a3 σ) (fun a => a = (r, τ))) _ h rfl
  unfold Re_cutOne
  refine Rk.sp (G_iload_n (pc := 0) 2 rfl rfl dX4_cutOne_0) ?_
  refine Rk.isa_w (pc := 1) 4 (L' := [some (vr 141), some (vr (1000 + 2 * a1)), some (vi a2), some (vi a3), some (vi a2), none]) (Nat.le_of_ble_eq_true rfl) rfl dX4_cutOne_1 rfl ?_
  refine Rk.sp (G_aload_n (pc := 3) 0 rfl rfl dX4_cutOne_3) ?_
  refine Rk.gR (pc := 4) 145 flX4_24 cl4 rfl lb141 dX4_cutOne_4 ?_
  refine Rk.sp (G_iload_w (pc := 7) 4 rfl dX4_cutOne_7) ?_
  refine Rk.al (pc := 9) lb145 dX4_cutOne_9 (fun hi1 => ?_)
  refine Rk.cRZ (pc := 10) (Cl.s [vi (σ 145 (a2).toNat)] [] dX4_cutOne_10 ckX4_69 rfl rfl (Nat.le_of_ble_eq_true rfl) (Nat.le_of_ble_eq_true rfl)) (k_Re_isLetter (σ 145 (a2).toNat) (hok _ _)) (fun r2 hr2 => ?_)
  refine Rk.if_eq (pc := 13) (tgt := 72) dX4_cutOne_13 (nmI (inZ.R hr2)) rfl (fun hc3 => ?_) (fun hc3 => ?_)
  · refine Rk.sp (G_aload_n (pc := 72) 0 rfl rfl dX4_cutOne_72) ?_
    refine Rk.gR (pc := 73) 145 flX4_24 cl4 rfl lb141 dX4_cutOne_73 ?_
    refine Rk.sp (G_iload_w (pc := 76) 4 rfl dX4_cutOne_76) ?_
    refine Rk.al (pc := 78) lb145 dX4_cutOne_78 (fun hi4 => ?_)
    refine Rk.cRZ (pc := 79) (Cl.s [vi (σ 145 (a2).toNat)] [] dX4_cutOne_79 ckX4_76 rfl rfl (Nat.le_of_ble_eq_true rfl) (Nat.le_of_ble_eq_true rfl)) (k_Re_isDigit (σ 145 (a2).toNat) (hok _ _)) (fun r5 hr5 => ?_)
    refine Rk.if_eq (pc := 82) (tgt := 167) dX4_cutOne_82 (nmI (inZ.R hr5)) rfl (fun hc6 => ?_) (fun hc6 => ?_)
    · refine Rk.sp (G_aload_n (pc := 167) 0 rfl rfl dX4_cutOne_167) ?_
      refine Rk.sp (G_iconst (pc := 168) dX4_cutOne_168) ?_
      refine Rk.sp (G_aload_n (pc := 169) 0 rfl rfl dX4_cutOne_169) ?_
      refine Rk.gR (pc := 170) 145 flX4_24 cl4 rfl lb141 dX4_cutOne_170 ?_
      refine Rk.sp (G_iload_w (pc := 173) 4 rfl dX4_cutOne_173) ?_
      refine Rk.al (pc := 175) lb145 dX4_cutOne_175 (fun hi7 => ?_)
      refine Rk.sp (G_iload_n (pc := 176) 2 rfl rfl dX4_cutOne_176) ?_
      refine Rk.cV (pc := 177) (Cl.v [vi 3, vi (σ 145 (a2).toNat), vi a2] [] dX4_cutOne_177 ckX4_57 lb141 rfl rfl rfl (Nat.le_of_ble_eq_true rfl) (Nat.le_of_ble_eq_true rfl)) (k_Re_addToken 3 (σ 145 (a2).toNat) a2 σ (inRk 3 rfl) (hok _ _) ha2 hok) (fun σ8 hσ8 => ?_)
      refine Rk.sp (G_iload_w (pc := 180) 4 rfl dX4_cutOne_180) ?_
      refine Rk.sp (G_iconst (pc := 182) dX4_cutOne_182) ?_
      refine Rk.sp (G_iadd (pc := 183) dX4_cutOne_183) ?_
      refine Rk.sp (Go.n0 (nmW _)) ?_
      exact Rk.end_ (fun h => G_ireturn (pc := 184) rfl dX4_cutOne_184 (q_I h (wrR _) hσ8))
    · refine Rk.sp (G_iconst (pc := 85) dX4_cutOne_85) ?_
      refine Rk.isa_w (pc := 86) 5 (L' := [some (vr 141), some (vr (1000 + 2 * a1)), some (vi a2), some (vi a3), some (vi a2), some (vi 0)]) (Nat.le_of_ble_eq_true rfl) rfl dX4_cutOne_86 rfl ?_
      refine Rk.fg [true, false, true, true, true, true] (L' := [some (vr 141), none, some (vi a2), some (vi a3), some (vi a2), some (vi 0)]) rfl ?_
      refine Rk.loop (pc := 88) (B := (fun p => Re_cutOne_88_b a3 σ a2 p.1 p.2)) (fun p => inR p.1 ∧ inR p.2) (fun p => [some (vr 141), none, some (vi a2), some (vi a3), some (vi p.1), some (vi p.2)]) (fun p => (ms false μ σ)) (fun p hp => ?_) (a2, 0) ⟨ha2, (inRk 0 rfl)⟩
      obtain ⟨v4_9, v5_10⟩ := p
      obtain ⟨hv4_9, hv5_10⟩ := hp
      try dsimp only
      unfold Re_cutOne_88_b
      refine Rk.sp (G_iload_w (pc := 88) 4 rfl dX4_cutOne_88) ?_
      refine Rk.sp (G_iload_n (pc := 90) 3 rfl rfl dX4_cutOne_90) ?_
      refine Rk.sel (A := 144) (B := 107) (st' := []) ?_ ?_ ?_
      · refine Rk.icmp_ge (pc := 91) (tgt := 144) dX4_cutOne_91 (nmI hv4_9) (nmI ha3) rfl (fun hc11 => ?_) (fun hc11 => ?_)
        · refine Rk.sp (G_aload_n (pc := 94) 0 rfl rfl dX4_cutOne_94) ?_
          refine Rk.gR (pc := 95) 145 flX4_24 cl4 rfl lb141 dX4_cutOne_95 ?_
          refine Rk.sp (G_iload_w (pc := 98) 4 rfl dX4_cutOne_98) ?_
          refine Rk.al (pc := 100) lb145 dX4_cutOne_100 (fun hi12 => ?_)
          refine Rk.cRZ (pc := 101) (Cl.s [vi (σ 145 (v4_9).toNat)] [] dX4_cutOne_101 ckX4_76 rfl rfl (Nat.le_of_ble_eq_true rfl) (Nat.le_of_ble_eq_true rfl)) (k_Re_isDigit (σ 145 (v4_9).toNat) (hok _ _)) (fun r13 hr13 => ?_)
          refine Rk.if_eq (pc := 104) (tgt := 144) dX4_cutOne_104 (nmI (inZ.R hr13)) rfl (fun hc14 => ?_) (fun hc14 => ?_)
          · exact Rk.end_ (fun h => h inZ1)
          · exact Rk.end_ (fun h => h inZ0)
        · exact Rk.end_ (fun h => h inZ1)
      · refine Rk.sp (G_iload_w (pc := 107) 4 rfl dX4_cutOne_107) ?_
        refine Rk.sp (G_iload_n (pc := 109) 2 rfl rfl dX4_cutOne_109) ?_
        refine Rk.sp (G_isub (pc := 110) dX4_cutOne_110) ?_
        refine Rk.sp (G_iconst (pc := 111) dX4_cutOne_111) ?_
        refine Rk.icmp_ge (pc := 112) (tgt := 134) dX4_cutOne_112 (nmW _) (nmI (inRk 4 rfl)) rfl (fun hc18 => ?_) (fun hc18 => ?_)
        · refine Rk.sp (G_iload_w (pc := 115) 5 rfl dX4_cutOne_115) ?_
          refine Rk.sp (G_bipush (pc := 117) dX4_cutOne_117 rfl) ?_
          refine Rk.sp (G_imul (pc := 119) dX4_cutOne_119) ?_
          refine Rk.sp (G_aload_n (pc := 120) 0 rfl rfl dX4_cutOne_120) ?_
          refine Rk.gR (pc := 121) 145 flX4_24 cl4 rfl lb141 dX4_cutOne_121 ?_
          refine Rk.sp (G_iload_w (pc := 124) 4 rfl dX4_cutOne_124) ?_
          refine Rk.al (pc := 126) lb145 dX4_cutOne_126 (fun hi19 => ?_)
          refine Rk.sp (G_iadd (pc := 127) dX4_cutOne_127) ?_
          refine Rk.sp (G_bipush (pc := 128) dX4_cutOne_128 rfl) ?_
          refine Rk.sp (G_isub (pc := 130) dX4_cutOne_130) ?_
          refine Rk.sp (G_goto (pc := 131) (tgt := 136) dX4_cutOne_131 rfl) ?_
          refine Rk.ist_w (pc := 136) 5 (fun v5_20 => [some (vr 141), none, some (vi a2), some (vi a3), some (vi v4_9), some (vi v5_20)]) (Nat.le_of_ble_eq_true rfl) rfl dX4_cutOne_136 (nmW _) (fun _ => rfl) (fun v5_20 hv5_20 => ?_)
          refine Rk.inc (pc := 138) 4 (fun v4_21 => [some (vr 141), none, some (vi a2), some (vi a3), some (vi v4_21), some (vi v5_20)]) rfl (Nat.le_of_ble_eq_true rfl) rfl dX4_cutOne_138 (fun _ => rfl) (fun v4_21 hv4_21 => ?_)
          refine Rk.sp (G_goto (pc := 141) (tgt := 88) dX4_cutOne_141 rfl) ?_
          exact Rk.end_ (fun h => h ⟨hv4_21, hv5_20⟩)
        · refine Rk.sp (G_iload_w (pc := 134) 5 rfl dX4_cutOne_134) ?_
          refine Rk.isa_w (pc := 136) 5 (L' := [some (vr 141), none, some (vi a2), some (vi a3), some (vi v4_9), some (vi v5_10)]) (Nat.le_of_ble_eq_true rfl) rfl dX4_cutOne_136 rfl ?_
          refine Rk.inc (pc := 138) 4 (fun v4_22 => [some (vr 141), none, some (vi a2), some (vi a3), some (vi v4_22), some (vi v5_10)]) rfl (Nat.le_of_ble_eq_true rfl) rfl dX4_cutOne_138 (fun _ => rfl) (fun v4_22 hv4_22 => ?_)
          refine Rk.sp (G_goto (pc := 141) (tgt := 88) dX4_cutOne_141 rfl) ?_
          exact Rk.end_ (fun h => h ⟨hv4_22, hv5_10⟩)
      · refine Rk.sp (G_aload_n (pc := 144) 0 rfl rfl dX4_cutOne_144) ?_
        refine Rk.sp (G_iload_w (pc := 145) 4 rfl dX4_cutOne_145) ?_
        refine Rk.sp (G_iload_n (pc := 147) 2 rfl rfl dX4_cutOne_147) ?_
        refine Rk.sp (G_isub (pc := 148) dX4_cutOne_148) ?_
        refine Rk.sp (G_iconst (pc := 149) dX4_cutOne_149) ?_
        refine Rk.icmp_le (pc := 150) (tgt := 157) dX4_cutOne_150 (nmW _) (nmI (inRk 4 rfl)) rfl (fun hc15 => ?_) (fun hc15 => ?_)
        · refine Rk.sp (G_iconst (pc := 153) dX4_cutOne_153) ?_
          refine Rk.sp (G_goto (pc := 154) (tgt := 158) dX4_cutOne_154 rfl) ?_
          refine Rk.sp (G_iload_w (pc := 158) 5 rfl dX4_cutOne_158) ?_
          refine Rk.sp (G_iload_n (pc := 160) 2 rfl rfl dX4_cutOne_160) ?_
          refine Rk.cV (pc := 161) (Cl.v [vi 4, vi v5_10, vi a2] [] dX4_cutOne_161 ckX4_57 lb141 rfl rfl rfl (Nat.le_of_ble_eq_true rfl) (Nat.le_of_ble_eq_true rfl)) (k_Re_addToken 4 v5_10 a2 σ (inRk 4 rfl) hv5_10 ha2 hok) (fun σ16 hσ16 => ?_)
          refine Rk.sp (G_iload_w (pc := 164) 4 rfl dX4_cutOne_164) ?_
          exact Rk.end_ (fun h => G_ireturn (pc := 166) rfl dX4_cutOne_166 (q_I h hv4_9 hσ16))
        · refine Rk.sp (G_iconst (pc := 157) dX4_cutOne_157) ?_
          refine Rk.sp (G_iload_w (pc := 158) 5 rfl dX4_cutOne_158) ?_
          refine Rk.sp (G_iload_n (pc := 160) 2 rfl rfl dX4_cutOne_160) ?_
          refine Rk.cV (pc := 161) (Cl.v [vi 2, vi v5_10, vi a2] [] dX4_cutOne_161 ckX4_57 lb141 rfl rfl rfl (Nat.le_of_ble_eq_true rfl) (Nat.le_of_ble_eq_true rfl)) (k_Re_addToken 2 v5_10 a2 σ (inRk 2 rfl) hv5_10 ha2 hok) (fun σ17 hσ17 => ?_)
          refine Rk.sp (G_iload_w (pc := 164) 4 rfl dX4_cutOne_164) ?_
          exact Rk.end_ (fun h => G_ireturn (pc := 166) rfl dX4_cutOne_166 (q_I h hv4_9 hσ17))
  · refine Rk.loop (pc := 16) (B := (fun p => Re_cutOne_16_b a3 σ a1 a2 p)) (fun p => inR p) (fun p => [some (vr 141), some (vr (1000 + 2 * a1)), some (vi a2), some (vi a3), some (vi p), none]) (fun p => (ms false μ σ)) (fun p hp => ?_) a2 ha2
    revert hp; revert p; intro v4_24 hv4_24
    try dsimp only
    unfold Re_cutOne_16_b
    refine Rk.sp (G_iload_w (pc := 16) 4 rfl dX4_cutOne_16) ?_
    refine Rk.sp (G_iload_n (pc := 18) 3 rfl rfl dX4_cutOne_18) ?_
    refine Rk.sel (A := 41) (B := 35) (st' := []) ?_ ?_ ?_
    · refine Rk.icmp_ge (pc := 19) (tgt := 41) dX4_cutOne_19 (nmI hv4_24) (nmI ha3) rfl (fun hc25 => ?_) (fun hc25 => ?_)
      · refine Rk.sp (G_aload_n (pc := 22) 0 rfl rfl dX4_cutOne_22) ?_
        refine Rk.gR (pc := 23) 145 flX4_24 cl4 rfl lb141 dX4_cutOne_23 ?_
        refine Rk.sp (G_iload_w (pc := 26) 4 rfl dX4_cutOne_26) ?_
        refine Rk.al (pc := 28) lb145 dX4_cutOne_28 (fun hi26 => ?_)
        refine Rk.cRZ (pc := 29) (Cl.s [vi (σ 145 (v4_24).toNat)] [] dX4_cutOne_29 ckX4_69 rfl rfl (Nat.le_of_ble_eq_true rfl) (Nat.le_of_ble_eq_true rfl)) (k_Re_isLetter (σ 145 (v4_24).toNat) (hok _ _)) (fun r27 hr27 => ?_)
        refine Rk.if_eq (pc := 32) (tgt := 41) dX4_cutOne_32 (nmI (inZ.R hr27)) rfl (fun hc28 => ?_) (fun hc28 => ?_)
        · exact Rk.end_ (fun h => h inZ1)
        · exact Rk.end_ (fun h => h inZ0)
      · exact Rk.end_ (fun h => h inZ1)
    · refine Rk.inc (pc := 35) 4 (fun v4_33 => [some (vr 141), some (vr (1000 + 2 * a1)), some (vi a2), some (vi a3), some (vi v4_33), none]) rfl (Nat.le_of_ble_eq_true rfl) rfl dX4_cutOne_35 (fun _ => rfl) (fun v4_33 hv4_33 => ?_)
      refine Rk.sp (G_goto (pc := 38) (tgt := 16) dX4_cutOne_38 rfl) ?_
      exact Rk.end_ (fun h => h hv4_33)
    · refine Rk.sp (G_aload_n (pc := 41) 0 rfl rfl dX4_cutOne_41) ?_
      refine Rk.sp (G_aload_n (pc := 42) 1 rfl rfl dX4_cutOne_42) ?_
      refine Rk.sp (G_iload_n (pc := 43) 2 rfl rfl dX4_cutOne_43) ?_
      refine Rk.sp (G_iload_w (pc := 44) 4 rfl dX4_cutOne_44) ?_
      refine Rk.cRI (pc := 46) (Cl.v [vr (1000 + 2 * a1), vi a2, vi v4_24] [] dX4_cutOne_46 ckX4_73 lb141 rfl rfl rfl (Nat.le_of_ble_eq_true rfl) (Nat.le_of_ble_eq_true rfl)) (k_Re_findWord a1 a2 v4_24 σ ha1 ha2 hv4_24 hok) (fun r29 hr29 => ?_)
      refine Rk.isa_w (pc := 49) 5 (L' := [some (vr 141), some (vr (1000 + 2 * a1)), some (vi a2), some (vi a3), some (vi v4_24), some (vi r29)]) (Nat.le_of_ble_eq_true rfl) rfl dX4_cutOne_49 rfl ?_
      refine Rk.sp (G_aload_n (pc := 51) 0 rfl rfl dX4_cutOne_51) ?_
      refine Rk.sp (G_iload_w (pc := 52) 5 rfl dX4_cutOne_52) ?_
      refine Rk.sp (G_iconst (pc := 54) dX4_cutOne_54) ?_
      refine Rk.icmp_ne (pc := 55) (tgt := 62) dX4_cutOne_55 (nmI hr29) (nmI (inRk (-1) rfl)) rfl (fun hc30 => ?_) (fun hc30 => ?_)
      · refine Rk.sp (G_iconst (pc := 58) dX4_cutOne_58) ?_
        refine Rk.sp (G_goto (pc := 59) (tgt := 63) dX4_cutOne_59 rfl) ?_
        refine Rk.sp (G_iload_w (pc := 63) 5 rfl dX4_cutOne_63) ?_
        refine Rk.sp (G_iload_n (pc := 65) 2 rfl rfl dX4_cutOne_65) ?_
        refine Rk.cV (pc := 66) (Cl.v [vi 4, vi r29, vi a2] [] dX4_cutOne_66 ckX4_57 lb141 rfl rfl rfl (Nat.le_of_ble_eq_true rfl) (Nat.le_of_ble_eq_true rfl)) (k_Re_addToken 4 r29 a2 σ (inRk 4 rfl) hr29 ha2 hok) (fun σ31 hσ31 => ?_)
        refine Rk.sp (G_iload_w (pc := 69) 4 rfl dX4_cutOne_69) ?_
        exact Rk.end_ (fun h => G_ireturn (pc := 71) rfl dX4_cutOne_71 (q_I h hv4_24 hσ31))
      · refine Rk.sp (G_iconst (pc := 62) dX4_cutOne_62) ?_
        refine Rk.sp (G_iload_w (pc := 63) 5 rfl dX4_cutOne_63) ?_
        refine Rk.sp (G_iload_n (pc := 65) 2 rfl rfl dX4_cutOne_65) ?_
        refine Rk.cV (pc := 66) (Cl.v [vi 1, vi r29, vi a2] [] dX4_cutOne_66 ckX4_57 lb141 rfl rfl rfl (Nat.le_of_ble_eq_true rfl) (Nat.le_of_ble_eq_true rfl)) (k_Re_addToken 1 r29 a2 σ (inRk 1 rfl) hr29 ha2 hok) (fun σ32 hσ32 => ?_)
        refine Rk.sp (G_iload_w (pc := 69) 4 rfl dX4_cutOne_69) ?_
        exact Rk.end_ (fun h => G_ireturn (pc := 71) rfl dX4_cutOne_71 (q_I h hv4_24 hσ32))
