set_option maxRecDepth 100000 in
theorem mkTa {κ : Kx} (hA : ad κ) {k : Nat} (hk : k ∈ tkC) {P : Nat → List Nat} (hP : ∀ a, k ≤ a → P a = []) : ConX κ mX6_init 1 12 546 [vr k] (k + 1) (pu P k [6, 7, 8, 9, 10, 11, 12, 13, 14, 15, 16, 17]) (k + 13) P := by
  obtain ⟨f0, f1, f2, f3, f4, f5, f6, f7, f8, f9, f10⟩ := tkFc k hk
  refine conX_of (M := mX6_init) (by decide +kernel) hA (Nat.le_of_ble_eq_true rfl) 0 ?_
  show Gc κ mX6_init (rmX 1 12 546) (zX κ (k + 13) P 12 546) 0 0 0 [some (vr k)] [] (k + 1) (pu P k [6, 7, 8, 9, 10, 11, 12, 13, 14, 15, 16, 17])
  refine Gc.aload 0 rfl rfl dX6_init_0 ?_
  show Gc κ mX6_init (rmX 1 12 546) (zX κ (k + 13) P 12 546) 0 0 1 [some (vr k)] [vr k] (k + 1) (pu P k [6, 7, 8, 9, 10, 11, 12, 13, 14, 15, 16, 17])
  refine Gc.obj moX6 ⟨(Nat.le_of_ble_eq_true rfl), (Nat.le_of_ble_eq_true rfl)⟩ (Nat.le_of_ble_eq_true rfl) dX6_init_1 ?_
  show Gc κ mX6_init (rmX 1 12 546) (zX κ (k + 13) P 12 546) 0 0 4 [some (vr k)] [] (k + 1) (pu P k [6, 7, 8, 9, 10, 11, 12, 13, 14, 15, 16, 17])
  refine Gc.aload 0 rfl rfl dX6_init_4 ?_
  show Gc κ mX6_init (rmX 1 12 546) (zX κ (k + 13) P 12 546) 0 0 5 [some (vr k)] [vr k] (k + 1) (pu P k [6, 7, 8, 9, 10, 11, 12, 13, 14, 15, 16, 17])
  refine Gc.iconst dX6_init_5 ?_
  show Gc κ mX6_init (rmX 1 12 546) (zX κ (k + 13) P 12 546) 0 0 6 [some (vr k)] [vi 2, vr k] (k + 1) (pu P k [6, 7, 8, 9, 10, 11, 12, 13, 14, 15, 16, 17])
  refine Gc.arr [0, 1] (by omega) (f2 1 (by decide) (by decide)) rfl (fun j _ => s0Z f4 j) acI (cn' := 1) (sl' := 2) rfl rfl (Nat.le_of_ble_eq_true rfl) (Nat.le_of_ble_eq_true rfl) dX6_init_6 ?_
  show Gc κ mX6_init (rmX 1 12 546) (zX κ (k + 13) P 12 546) 1 2 8 [some (vr k)] [vr (k + 1), vr k] (k + 2) (pu (pu P k [6, 7, 8, 9, 10, 11, 12, 13, 14, 15, 16, 17]) (k + 1) [0, 1])
  refine Gc.dup dX6_init_8 ?_
  show Gc κ mX6_init (rmX 1 12 546) (zX κ (k + 13) P 12 546) 1 2 9 [some (vr k)] [vr (k + 1), vr (k + 1), vr k] (k + 2) (pu (pu P k [6, 7, 8, 9, 10, 11, 12, 13, 14, 15, 16, 17]) (k + 1) [0, 1])
  refine Gc.iconst dX6_init_9 ?_
  show Gc κ mX6_init (rmX 1 12 546) (zX κ (k + 13) P 12 546) 1 2 10 [some (vr k)] [vi 0, vr (k + 1), vr (k + 1), vr k] (k + 2) (pu (pu P k [6, 7, 8, 9, 10, 11, 12, 13, 14, 15, 16, 17]) (k + 1) [0, 1])
  refine Gc.bipush dX6_init_10 (by decide) ?_
  show Gc κ mX6_init (rmX 1 12 546) (zX κ (k + 13) P 12 546) 1 2 12 [some (vr k)] [vi 10, vi 0, vr (k + 1), vr (k + 1), vr k] (k + 2) (pu (pu P k [6, 7, 8, 9, 10, 11, 12, 13, 14, 15, 16, 17]) (k + 1) [0, 1])
  refine Gc.iast (len := 2) (i := 0) (f2 1 (by decide) (by decide)) (by omega) (by omega) (by decide) rfl rfl (f9 0 (by decide)) dX6_init_12 ?_
  show Gc κ mX6_init (rmX 1 12 546) (zX κ (k + 13) P 12 546) 1 2 13 [some (vr k)] [vr (k + 1), vr k] (k + 2) (pu (pu P k [6, 7, 8, 9, 10, 11, 12, 13, 14, 15, 16, 17]) (k + 1) [1])
  refine Gc.dup dX6_init_13 ?_
  show Gc κ mX6_init (rmX 1 12 546) (zX κ (k + 13) P 12 546) 1 2 14 [some (vr k)] [vr (k + 1), vr (k + 1), vr k] (k + 2) (pu (pu P k [6, 7, 8, 9, 10, 11, 12, 13, 14, 15, 16, 17]) (k + 1) [1])
  refine Gc.iconst dX6_init_14 ?_
  show Gc κ mX6_init (rmX 1 12 546) (zX κ (k + 13) P 12 546) 1 2 15 [some (vr k)] [vi 1, vr (k + 1), vr (k + 1), vr k] (k + 2) (pu (pu P k [6, 7, 8, 9, 10, 11, 12, 13, 14, 15, 16, 17]) (k + 1) [1])
  refine Gc.bipush dX6_init_15 (by decide) ?_
  show Gc κ mX6_init (rmX 1 12 546) (zX κ (k + 13) P 12 546) 1 2 17 [some (vr k)] [vi 10, vi 1, vr (k + 1), vr (k + 1), vr k] (k + 2) (pu (pu P k [6, 7, 8, 9, 10, 11, 12, 13, 14, 15, 16, 17]) (k + 1) [1])
  refine Gc.iast (len := 2) (i := 1) (f2 1 (by decide) (by decide)) (by omega) (by omega) (by decide) rfl rfl (f9 1 (by decide)) dX6_init_17 ?_
  show Gc κ mX6_init (rmX 1 12 546) (zX κ (k + 13) P 12 546) 1 2 18 [some (vr k)] [vr (k + 1), vr k] (k + 2) (pu (pu P k [6, 7, 8, 9, 10, 11, 12, 13, 14, 15, 16, 17]) (k + 1) [])
  refine Gc.fin (pu_z (by omega) (hP (k + 1) (by omega))) ?_
  show Gc κ mX6_init (rmX 1 12 546) (zX κ (k + 13) P 12 546) 1 2 18 [some (vr k)] [vr (k + 1), vr k] (k + 2) (pu P k [6, 7, 8, 9, 10, 11, 12, 13, 14, 15, 16, 17])
  refine Gc.put (c := 6) (j := 6) mfX6_9 cl6 f1 (by omega) (by omega) rfl (f8 6 (by decide) (by decide)) (nfR (by decide +kernel)) (fun _ => ⟨rfl, rfl⟩) dX6_init_18 ?_
  show Gc κ mX6_init (rmX 1 12 546) (zX κ (k + 13) P 12 546) 1 2 21 [some (vr k)] [] (k + 2) (pu P k [7, 8, 9, 10, 11, 12, 13, 14, 15, 16, 17])
  refine Gc.aload 0 rfl rfl dX6_init_21 ?_
  show Gc κ mX6_init (rmX 1 12 546) (zX κ (k + 13) P 12 546) 1 2 22 [some (vr k)] [vr k] (k + 2) (pu P k [7, 8, 9, 10, 11, 12, 13, 14, 15, 16, 17])
  refine Gc.iconst dX6_init_22 ?_
  show Gc κ mX6_init (rmX 1 12 546) (zX κ (k + 13) P 12 546) 1 2 23 [some (vr k)] [vi 2, vr k] (k + 2) (pu P k [7, 8, 9, 10, 11, 12, 13, 14, 15, 16, 17])
  refine Gc.arr0 (pu_z (by omega) (hP (k + 2) (by omega))) (by omega) (f2 2 (by decide) (by decide)) rfl (fun j _ => s0Z f5 j) acI (cn' := 2) (sl' := 4) rfl rfl (Nat.le_of_ble_eq_true rfl) (Nat.le_of_ble_eq_true rfl) dX6_init_23 ?_
  show Gc κ mX6_init (rmX 1 12 546) (zX κ (k + 13) P 12 546) 2 4 25 [some (vr k)] [vr (k + 2), vr k] (k + 3) (pu P k [7, 8, 9, 10, 11, 12, 13, 14, 15, 16, 17])
  refine Gc.put (c := 6) (j := 7) mfX6_15 cl6 f1 (by omega) (by omega) rfl (f8 7 (by decide) (by decide)) (nfR (by decide +kernel)) (fun _ => ⟨rfl, rfl⟩) dX6_init_25 ?_
  show Gc κ mX6_init (rmX 1 12 546) (zX κ (k + 13) P 12 546) 2 4 28 [some (vr k)] [] (k + 3) (pu P k [8, 9, 10, 11, 12, 13, 14, 15, 16, 17])
  refine Gc.aload 0 rfl rfl dX6_init_28 ?_
  show Gc κ mX6_init (rmX 1 12 546) (zX κ (k + 13) P 12 546) 2 4 29 [some (vr k)] [vr k] (k + 3) (pu P k [8, 9, 10, 11, 12, 13, 14, 15, 16, 17])
  refine Gc.iconst dX6_init_29 ?_
  show Gc κ mX6_init (rmX 1 12 546) (zX κ (k + 13) P 12 546) 2 4 30 [some (vr k)] [vi 2, vr k] (k + 3) (pu P k [8, 9, 10, 11, 12, 13, 14, 15, 16, 17])
  refine Gc.arr [0, 1] (by omega) (f2 3 (by decide) (by decide)) rfl (fun j _ => s0Z f6 j) acI (cn' := 3) (sl' := 6) rfl rfl (Nat.le_of_ble_eq_true rfl) (Nat.le_of_ble_eq_true rfl) dX6_init_30 ?_
  show Gc κ mX6_init (rmX 1 12 546) (zX κ (k + 13) P 12 546) 3 6 32 [some (vr k)] [vr (k + 3), vr k] (k + 4) (pu (pu P k [8, 9, 10, 11, 12, 13, 14, 15, 16, 17]) (k + 3) [0, 1])
  refine Gc.dup dX6_init_32 ?_
  show Gc κ mX6_init (rmX 1 12 546) (zX κ (k + 13) P 12 546) 3 6 33 [some (vr k)] [vr (k + 3), vr (k + 3), vr k] (k + 4) (pu (pu P k [8, 9, 10, 11, 12, 13, 14, 15, 16, 17]) (k + 3) [0, 1])
  refine Gc.iconst dX6_init_33 ?_
  show Gc κ mX6_init (rmX 1 12 546) (zX κ (k + 13) P 12 546) 3 6 34 [some (vr k)] [vi 0, vr (k + 3), vr (k + 3), vr k] (k + 4) (pu (pu P k [8, 9, 10, 11, 12, 13, 14, 15, 16, 17]) (k + 3) [0, 1])
  refine Gc.iconst dX6_init_34 ?_
  show Gc κ mX6_init (rmX 1 12 546) (zX κ (k + 13) P 12 546) 3 6 35 [some (vr k)] [vi 1, vi 0, vr (k + 3), vr (k + 3), vr k] (k + 4) (pu (pu P k [8, 9, 10, 11, 12, 13, 14, 15, 16, 17]) (k + 3) [0, 1])
  refine Gc.iast (len := 2) (i := 0) (f2 3 (by decide) (by decide)) (by omega) (by omega) (by decide) rfl rfl (f10 0 (by decide)) dX6_init_35 ?_
  show Gc κ mX6_init (rmX 1 12 546) (zX κ (k + 13) P 12 546) 3 6 36 [some (vr k)] [vr (k + 3), vr k] (k + 4) (pu (pu P k [8, 9, 10, 11, 12, 13, 14, 15, 16, 17]) (k + 3) [1])
  refine Gc.dup dX6_init_36 ?_
  show Gc κ mX6_init (rmX 1 12 546) (zX κ (k + 13) P 12 546) 3 6 37 [some (vr k)] [vr (k + 3), vr (k + 3), vr k] (k + 4) (pu (pu P k [8, 9, 10, 11, 12, 13, 14, 15, 16, 17]) (k + 3) [1])
  refine Gc.iconst dX6_init_37 ?_
  show Gc κ mX6_init (rmX 1 12 546) (zX κ (k + 13) P 12 546) 3 6 38 [some (vr k)] [vi 1, vr (k + 3), vr (k + 3), vr k] (k + 4) (pu (pu P k [8, 9, 10, 11, 12, 13, 14, 15, 16, 17]) (k + 3) [1])
  refine Gc.iconst dX6_init_38 ?_
  show Gc κ mX6_init (rmX 1 12 546) (zX κ (k + 13) P 12 546) 3 6 39 [some (vr k)] [vi 1, vi 1, vr (k + 3), vr (k + 3), vr k] (k + 4) (pu (pu P k [8, 9, 10, 11, 12, 13, 14, 15, 16, 17]) (k + 3) [1])
  refine Gc.iast (len := 2) (i := 1) (f2 3 (by decide) (by decide)) (by omega) (by omega) (by decide) rfl rfl (f10 1 (by decide)) dX6_init_39 ?_
  show Gc κ mX6_init (rmX 1 12 546) (zX κ (k + 13) P 12 546) 3 6 40 [some (vr k)] [vr (k + 3), vr k] (k + 4) (pu (pu P k [8, 9, 10, 11, 12, 13, 14, 15, 16, 17]) (k + 3) [])
  refine Gc.fin (pu_z (by omega) (hP (k + 3) (by omega))) ?_
  show Gc κ mX6_init (rmX 1 12 546) (zX κ (k + 13) P 12 546) 3 6 40 [some (vr k)] [vr (k + 3), vr k] (k + 4) (pu P k [8, 9, 10, 11, 12, 13, 14, 15, 16, 17])
  refine Gc.put (c := 6) (j := 8) mfX6_18 cl6 f1 (by omega) (by omega) rfl (f8 8 (by decide) (by decide)) (nfR (by decide +kernel)) (fun _ => ⟨rfl, rfl⟩) dX6_init_40 ?_
  show Gc κ mX6_init (rmX 1 12 546) (zX κ (k + 13) P 12 546) 3 6 43 [some (vr k)] [] (k + 4) (pu P k [9, 10, 11, 12, 13, 14, 15, 16, 17])
  refine Gc.aload 0 rfl rfl dX6_init_43 ?_
  show Gc κ mX6_init (rmX 1 12 546) (zX κ (k + 13) P 12 546) 3 6 44 [some (vr k)] [vr k] (k + 4) (pu P k [9, 10, 11, 12, 13, 14, 15, 16, 17])
  refine Gc.bipush dX6_init_44 (by decide) ?_
  show Gc κ mX6_init (rmX 1 12 546) (zX κ (k + 13) P 12 546) 3 6 46 [some (vr k)] [vi 60, vr k] (k + 4) (pu P k [9, 10, 11, 12, 13, 14, 15, 16, 17])
  refine Gc.arr0 (pu_z (by omega) (hP (k + 4) (by omega))) (by omega) (f3 4 (by decide) (by decide)) rfl (fun j _ => s0Z (f7 4 (by decide) (by decide)) j) acI (cn' := 4) (sl' := 66) rfl rfl (Nat.le_of_ble_eq_true rfl) (Nat.le_of_ble_eq_true rfl) dX6_init_46 ?_
  show Gc κ mX6_init (rmX 1 12 546) (zX κ (k + 13) P 12 546) 4 66 48 [some (vr k)] [vr (k + 4), vr k] (k + 5) (pu P k [9, 10, 11, 12, 13, 14, 15, 16, 17])
  refine Gc.put (c := 6) (j := 9) mfX6_21 cl6 f1 (by omega) (by omega) rfl (f8 9 (by decide) (by decide)) (nfR (by decide +kernel)) (fun _ => ⟨rfl, rfl⟩) dX6_init_48 ?_
  show Gc κ mX6_init (rmX 1 12 546) (zX κ (k + 13) P 12 546) 4 66 51 [some (vr k)] [] (k + 5) (pu P k [10, 11, 12, 13, 14, 15, 16, 17])
  refine Gc.aload 0 rfl rfl dX6_init_51 ?_
  show Gc κ mX6_init (rmX 1 12 546) (zX κ (k + 13) P 12 546) 4 66 52 [some (vr k)] [vr k] (k + 5) (pu P k [10, 11, 12, 13, 14, 15, 16, 17])
  refine Gc.bipush dX6_init_52 (by decide) ?_
  show Gc κ mX6_init (rmX 1 12 546) (zX κ (k + 13) P 12 546) 4 66 54 [some (vr k)] [vi 60, vr k] (k + 5) (pu P k [10, 11, 12, 13, 14, 15, 16, 17])
  refine Gc.arr0 (pu_z (by omega) (hP (k + 5) (by omega))) (by omega) (f3 5 (by decide) (by decide)) rfl (fun j _ => s0Z (f7 5 (by decide) (by decide)) j) acI (cn' := 5) (sl' := 126) rfl rfl (Nat.le_of_ble_eq_true rfl) (Nat.le_of_ble_eq_true rfl) dX6_init_54 ?_
  show Gc κ mX6_init (rmX 1 12 546) (zX κ (k + 13) P 12 546) 5 126 56 [some (vr k)] [vr (k + 5), vr k] (k + 6) (pu P k [10, 11, 12, 13, 14, 15, 16, 17])
  refine Gc.put (c := 6) (j := 10) mfX6_24 cl6 f1 (by omega) (by omega) rfl (f8 10 (by decide) (by decide)) (nfR (by decide +kernel)) (fun _ => ⟨rfl, rfl⟩) dX6_init_56 ?_
  show Gc κ mX6_init (rmX 1 12 546) (zX κ (k + 13) P 12 546) 5 126 59 [some (vr k)] [] (k + 6) (pu P k [11, 12, 13, 14, 15, 16, 17])
  refine Gc.aload 0 rfl rfl dX6_init_59 ?_
  show Gc κ mX6_init (rmX 1 12 546) (zX κ (k + 13) P 12 546) 5 126 60 [some (vr k)] [vr k] (k + 6) (pu P k [11, 12, 13, 14, 15, 16, 17])
  refine Gc.bipush dX6_init_60 (by decide) ?_
  show Gc κ mX6_init (rmX 1 12 546) (zX κ (k + 13) P 12 546) 5 126 62 [some (vr k)] [vi 60, vr k] (k + 6) (pu P k [11, 12, 13, 14, 15, 16, 17])
  refine Gc.arr0 (pu_z (by omega) (hP (k + 6) (by omega))) (by omega) (f3 6 (by decide) (by decide)) rfl (fun j _ => s0Z (f7 6 (by decide) (by decide)) j) acI (cn' := 6) (sl' := 186) rfl rfl (Nat.le_of_ble_eq_true rfl) (Nat.le_of_ble_eq_true rfl) dX6_init_62 ?_
  show Gc κ mX6_init (rmX 1 12 546) (zX κ (k + 13) P 12 546) 6 186 64 [some (vr k)] [vr (k + 6), vr k] (k + 7) (pu P k [11, 12, 13, 14, 15, 16, 17])
  refine Gc.put (c := 6) (j := 11) mfX6_27 cl6 f1 (by omega) (by omega) rfl (f8 11 (by decide) (by decide)) (nfR (by decide +kernel)) (fun _ => ⟨rfl, rfl⟩) dX6_init_64 ?_
  show Gc κ mX6_init (rmX 1 12 546) (zX κ (k + 13) P 12 546) 6 186 67 [some (vr k)] [] (k + 7) (pu P k [12, 13, 14, 15, 16, 17])
  refine Gc.aload 0 rfl rfl dX6_init_67 ?_
  show Gc κ mX6_init (rmX 1 12 546) (zX κ (k + 13) P 12 546) 6 186 68 [some (vr k)] [vr k] (k + 7) (pu P k [12, 13, 14, 15, 16, 17])
  refine Gc.bipush dX6_init_68 (by decide) ?_
  show Gc κ mX6_init (rmX 1 12 546) (zX κ (k + 13) P 12 546) 6 186 70 [some (vr k)] [vi 60, vr k] (k + 7) (pu P k [12, 13, 14, 15, 16, 17])
  refine Gc.arr0 (pu_z (by omega) (hP (k + 7) (by omega))) (by omega) (f3 7 (by decide) (by decide)) rfl (fun j _ => s0Z (f7 7 (by decide) (by decide)) j) acI (cn' := 7) (sl' := 246) rfl rfl (Nat.le_of_ble_eq_true rfl) (Nat.le_of_ble_eq_true rfl) dX6_init_70 ?_
  show Gc κ mX6_init (rmX 1 12 546) (zX κ (k + 13) P 12 546) 7 246 72 [some (vr k)] [vr (k + 7), vr k] (k + 8) (pu P k [12, 13, 14, 15, 16, 17])
  refine Gc.put (c := 6) (j := 12) mfX6_30 cl6 f1 (by omega) (by omega) rfl (f8 12 (by decide) (by decide)) (nfR (by decide +kernel)) (fun _ => ⟨rfl, rfl⟩) dX6_init_72 ?_
  show Gc κ mX6_init (rmX 1 12 546) (zX κ (k + 13) P 12 546) 7 246 75 [some (vr k)] [] (k + 8) (pu P k [13, 14, 15, 16, 17])
  refine Gc.aload 0 rfl rfl dX6_init_75 ?_
  show Gc κ mX6_init (rmX 1 12 546) (zX κ (k + 13) P 12 546) 7 246 76 [some (vr k)] [vr k] (k + 8) (pu P k [13, 14, 15, 16, 17])
  refine Gc.bipush dX6_init_76 (by decide) ?_
  show Gc κ mX6_init (rmX 1 12 546) (zX κ (k + 13) P 12 546) 7 246 78 [some (vr k)] [vi 60, vr k] (k + 8) (pu P k [13, 14, 15, 16, 17])
  refine Gc.arr0 (pu_z (by omega) (hP (k + 8) (by omega))) (by omega) (f3 8 (by decide) (by decide)) rfl (fun j _ => s0Z (f7 8 (by decide) (by decide)) j) acI (cn' := 8) (sl' := 306) rfl rfl (Nat.le_of_ble_eq_true rfl) (Nat.le_of_ble_eq_true rfl) dX6_init_78 ?_
  show Gc κ mX6_init (rmX 1 12 546) (zX κ (k + 13) P 12 546) 8 306 80 [some (vr k)] [vr (k + 8), vr k] (k + 9) (pu P k [13, 14, 15, 16, 17])
  refine Gc.put (c := 6) (j := 13) mfX6_33 cl6 f1 (by omega) (by omega) rfl (f8 13 (by decide) (by decide)) (nfR (by decide +kernel)) (fun _ => ⟨rfl, rfl⟩) dX6_init_80 ?_
  show Gc κ mX6_init (rmX 1 12 546) (zX κ (k + 13) P 12 546) 8 306 83 [some (vr k)] [] (k + 9) (pu P k [14, 15, 16, 17])
  refine Gc.aload 0 rfl rfl dX6_init_83 ?_
  show Gc κ mX6_init (rmX 1 12 546) (zX κ (k + 13) P 12 546) 8 306 84 [some (vr k)] [vr k] (k + 9) (pu P k [14, 15, 16, 17])
  refine Gc.bipush dX6_init_84 (by decide) ?_
  show Gc κ mX6_init (rmX 1 12 546) (zX κ (k + 13) P 12 546) 8 306 86 [some (vr k)] [vi 60, vr k] (k + 9) (pu P k [14, 15, 16, 17])
  refine Gc.arr0 (pu_z (by omega) (hP (k + 9) (by omega))) (by omega) (f3 9 (by decide) (by decide)) rfl (fun j _ => s0Z (f7 9 (by decide) (by decide)) j) acI (cn' := 9) (sl' := 366) rfl rfl (Nat.le_of_ble_eq_true rfl) (Nat.le_of_ble_eq_true rfl) dX6_init_86 ?_
  show Gc κ mX6_init (rmX 1 12 546) (zX κ (k + 13) P 12 546) 9 366 88 [some (vr k)] [vr (k + 9), vr k] (k + 10) (pu P k [14, 15, 16, 17])
  refine Gc.put (c := 6) (j := 14) mfX6_36 cl6 f1 (by omega) (by omega) rfl (f8 14 (by decide) (by decide)) (nfR (by decide +kernel)) (fun _ => ⟨rfl, rfl⟩) dX6_init_88 ?_
  show Gc κ mX6_init (rmX 1 12 546) (zX κ (k + 13) P 12 546) 9 366 91 [some (vr k)] [] (k + 10) (pu P k [15, 16, 17])
  refine Gc.aload 0 rfl rfl dX6_init_91 ?_
  show Gc κ mX6_init (rmX 1 12 546) (zX κ (k + 13) P 12 546) 9 366 92 [some (vr k)] [vr k] (k + 10) (pu P k [15, 16, 17])
  refine Gc.bipush dX6_init_92 (by decide) ?_
  show Gc κ mX6_init (rmX 1 12 546) (zX κ (k + 13) P 12 546) 9 366 94 [some (vr k)] [vi 60, vr k] (k + 10) (pu P k [15, 16, 17])
  refine Gc.arr0 (pu_z (by omega) (hP (k + 10) (by omega))) (by omega) (f3 10 (by decide) (by decide)) rfl (fun j _ => s0Z (f7 10 (by decide) (by decide)) j) acI (cn' := 10) (sl' := 426) rfl rfl (Nat.le_of_ble_eq_true rfl) (Nat.le_of_ble_eq_true rfl) dX6_init_94 ?_
  show Gc κ mX6_init (rmX 1 12 546) (zX κ (k + 13) P 12 546) 10 426 96 [some (vr k)] [vr (k + 10), vr k] (k + 11) (pu P k [15, 16, 17])
  refine Gc.put (c := 6) (j := 15) mfX6_39 cl6 f1 (by omega) (by omega) rfl (f8 15 (by decide) (by decide)) (nfR (by decide +kernel)) (fun _ => ⟨rfl, rfl⟩) dX6_init_96 ?_
  show Gc κ mX6_init (rmX 1 12 546) (zX κ (k + 13) P 12 546) 10 426 99 [some (vr k)] [] (k + 11) (pu P k [16, 17])
  refine Gc.aload 0 rfl rfl dX6_init_99 ?_
  show Gc κ mX6_init (rmX 1 12 546) (zX κ (k + 13) P 12 546) 10 426 100 [some (vr k)] [vr k] (k + 11) (pu P k [16, 17])
  refine Gc.bipush dX6_init_100 (by decide) ?_
  show Gc κ mX6_init (rmX 1 12 546) (zX κ (k + 13) P 12 546) 10 426 102 [some (vr k)] [vi 60, vr k] (k + 11) (pu P k [16, 17])
  refine Gc.arr0 (pu_z (by omega) (hP (k + 11) (by omega))) (by omega) (f3 11 (by decide) (by decide)) rfl (fun j _ => s0Z (f7 11 (by decide) (by decide)) j) acI (cn' := 11) (sl' := 486) rfl rfl (Nat.le_of_ble_eq_true rfl) (Nat.le_of_ble_eq_true rfl) dX6_init_102 ?_
  show Gc κ mX6_init (rmX 1 12 546) (zX κ (k + 13) P 12 546) 11 486 104 [some (vr k)] [vr (k + 11), vr k] (k + 12) (pu P k [16, 17])
  refine Gc.put (c := 6) (j := 16) mfX6_42 cl6 f1 (by omega) (by omega) rfl (f8 16 (by decide) (by decide)) (nfR (by decide +kernel)) (fun _ => ⟨rfl, rfl⟩) dX6_init_104 ?_
  show Gc κ mX6_init (rmX 1 12 546) (zX κ (k + 13) P 12 546) 11 486 107 [some (vr k)] [] (k + 12) (pu P k [17])
  refine Gc.aload 0 rfl rfl dX6_init_107 ?_
  show Gc κ mX6_init (rmX 1 12 546) (zX κ (k + 13) P 12 546) 11 486 108 [some (vr k)] [vr k] (k + 12) (pu P k [17])
  refine Gc.bipush dX6_init_108 (by decide) ?_
  show Gc κ mX6_init (rmX 1 12 546) (zX κ (k + 13) P 12 546) 11 486 110 [some (vr k)] [vi 60, vr k] (k + 12) (pu P k [17])
  refine Gc.arr0 (pu_z (by omega) (hP (k + 12) (by omega))) (by omega) (f3 12 (by decide) (by decide)) rfl (fun j _ => s0Z (f7 12 (by decide) (by decide)) j) acI (cn' := 12) (sl' := 546) rfl rfl (Nat.le_of_ble_eq_true rfl) (Nat.le_of_ble_eq_true rfl) dX6_init_110 ?_
  show Gc κ mX6_init (rmX 1 12 546) (zX κ (k + 13) P 12 546) 12 546 112 [some (vr k)] [vr (k + 12), vr k] (k + 13) (pu P k [17])
  refine Gc.put (c := 6) (j := 17) mfX6_45 cl6 f1 (by omega) (by omega) rfl (f8 17 (by decide) (by decide)) (nfR (by decide +kernel)) (fun _ => ⟨rfl, rfl⟩) dX6_init_112 ?_
  show Gc κ mX6_init (rmX 1 12 546) (zX κ (k + 13) P 12 546) 12 546 115 [some (vr k)] [] (k + 13) (pu P k [])
  refine Gc.fin (hP k (by omega)) ?_
  show Gc κ mX6_init (rmX 1 12 546) (zX κ (k + 13) P 12 546) 12 546 115 [some (vr k)] [] (k + 13) P
  exact Gc.ret rfl dX6_init_115
set_option maxRecDepth 100000 in
theorem mkSh17 {κ : Kx} (hA : ad κ) {P : Nat → List Nat} (hP : ∀ a, 17 ≤ a → P a = []) : ConX κ mX5_init 1 2 464 [vr 17, vi 64, vi 400] 18 (pu P 17 [4, 5]) 20 P := by
  refine conX_of (M := mX5_init) (by decide +kernel) hA (Nat.le_of_ble_eq_true rfl) 0 ?_
  show Gc κ mX5_init (rmX 1 2 464) (zX κ 20 P 2 464) 0 0 0 [some (vr 17), some (vi 64), some (vi 400)] [] 18 (pu P 17 [4, 5])
  refine Gc.aload 0 rfl rfl dX5_init_0 ?_
  show Gc κ mX5_init (rmX 1 2 464) (zX κ 20 P 2 464) 0 0 1 [some (vr 17), some (vi 64), some (vi 400)] [vr 17] 18 (pu P 17 [4, 5])
  refine Gc.obj moX5 ⟨(Nat.le_of_ble_eq_true rfl), (Nat.le_of_ble_eq_true rfl)⟩ (Nat.le_of_ble_eq_true rfl) dX5_init_1 ?_
  show Gc κ mX5_init (rmX 1 2 464) (zX κ 20 P 2 464) 0 0 4 [some (vr 17), some (vi 64), some (vi 400)] [] 18 (pu P 17 [4, 5])
  refine Gc.aload 0 rfl rfl dX5_init_4 ?_
  show Gc κ mX5_init (rmX 1 2 464) (zX κ 20 P 2 464) 0 0 5 [some (vr 17), some (vi 64), some (vi 400)] [vr 17] 18 (pu P 17 [4, 5])
  refine Gc.iload 1 rfl rfl dX5_init_5 ?_
  show Gc κ mX5_init (rmX 1 2 464) (zX κ 20 P 2 464) 0 0 6 [some (vr 17), some (vi 64), some (vi 400)] [vi 64, vr 17] 18 (pu P 17 [4, 5])
  refine Gc.arr0 (pu_z (by omega) (hP 18 (by omega))) (by decide) (by decide +kernel) rfl (fun j _ => s0Z (by decide +kernel) j) acI (cn' := 1) (sl' := 64) rfl rfl (Nat.le_of_ble_eq_true rfl) (Nat.le_of_ble_eq_true rfl) dX5_init_6 ?_
  show Gc κ mX5_init (rmX 1 2 464) (zX κ 20 P 2 464) 1 64 8 [some (vr 17), some (vi 64), some (vi 400)] [vr 18, vr 17] 19 (pu P 17 [4, 5])
  refine Gc.put (c := 5) (j := 4) mfX5_7 cl5 (by decide +kernel) (by decide) (by decide) rfl (by decide +kernel) (nfR (by decide +kernel)) (fun _ => ⟨rfl, rfl⟩) dX5_init_8 ?_
  show Gc κ mX5_init (rmX 1 2 464) (zX κ 20 P 2 464) 1 64 11 [some (vr 17), some (vi 64), some (vi 400)] [] 19 (pu P 17 [5])
  refine Gc.aload 0 rfl rfl dX5_init_11 ?_
  show Gc κ mX5_init (rmX 1 2 464) (zX κ 20 P 2 464) 1 64 12 [some (vr 17), some (vi 64), some (vi 400)] [vr 17] 19 (pu P 17 [5])
  refine Gc.iload 2 rfl rfl dX5_init_12 ?_
  show Gc κ mX5_init (rmX 1 2 464) (zX κ 20 P 2 464) 1 64 13 [some (vr 17), some (vi 64), some (vi 400)] [vi 400, vr 17] 19 (pu P 17 [5])
  refine Gc.arr0 (pu_z (by omega) (hP 19 (by omega))) (by decide) (by decide +kernel) rfl (fun j _ => s0Z (by decide +kernel) j) acI (cn' := 2) (sl' := 464) rfl rfl (Nat.le_of_ble_eq_true rfl) (Nat.le_of_ble_eq_true rfl) dX5_init_13 ?_
  show Gc κ mX5_init (rmX 1 2 464) (zX κ 20 P 2 464) 2 464 15 [some (vr 17), some (vi 64), some (vi 400)] [vr 19, vr 17] 20 (pu P 17 [5])
  refine Gc.put (c := 5) (j := 5) mfX5_13 cl5 (by decide +kernel) (by decide) (by decide) rfl (by decide +kernel) (nfR (by decide +kernel)) (fun _ => ⟨rfl, rfl⟩) dX5_init_15 ?_
  show Gc κ mX5_init (rmX 1 2 464) (zX κ 20 P 2 464) 2 464 18 [some (vr 17), some (vi 64), some (vi 400)] [] 20 (pu P 17 [])
  refine Gc.fin (hP 17 (by omega)) ?_
  show Gc κ mX5_init (rmX 1 2 464) (zX κ 20 P 2 464) 2 464 18 [some (vr 17), some (vi 64), some (vi 400)] [] 20 P
  exact Gc.ret rfl dX5_init_18
set_option maxRecDepth 100000 in
theorem mkSh20 {κ : Kx} (hA : ad κ) {P : Nat → List Nat} (hP : ∀ a, 20 ≤ a → P a = []) : ConX κ mX5_init 1 2 64 [vr 20, vi 64, vi 0] 21 (pu P 20 [4, 5]) 23 P := by
  refine conX_of (M := mX5_init) (by decide +kernel) hA (Nat.le_of_ble_eq_true rfl) 0 ?_
  show Gc κ mX5_init (rmX 1 2 64) (zX κ 23 P 2 64) 0 0 0 [some (vr 20), some (vi 64), some (vi 0)] [] 21 (pu P 20 [4, 5])
  refine Gc.aload 0 rfl rfl dX5_init_0 ?_
  show Gc κ mX5_init (rmX 1 2 64) (zX κ 23 P 2 64) 0 0 1 [some (vr 20), some (vi 64), some (vi 0)] [vr 20] 21 (pu P 20 [4, 5])
  refine Gc.obj moX5 ⟨(Nat.le_of_ble_eq_true rfl), (Nat.le_of_ble_eq_true rfl)⟩ (Nat.le_of_ble_eq_true rfl) dX5_init_1 ?_
  show Gc κ mX5_init (rmX 1 2 64) (zX κ 23 P 2 64) 0 0 4 [some (vr 20), some (vi 64), some (vi 0)] [] 21 (pu P 20 [4, 5])
  refine Gc.aload 0 rfl rfl dX5_init_4 ?_
  show Gc κ mX5_init (rmX 1 2 64) (zX κ 23 P 2 64) 0 0 5 [some (vr 20), some (vi 64), some (vi 0)] [vr 20] 21 (pu P 20 [4, 5])
  refine Gc.iload 1 rfl rfl dX5_init_5 ?_
  show Gc κ mX5_init (rmX 1 2 64) (zX κ 23 P 2 64) 0 0 6 [some (vr 20), some (vi 64), some (vi 0)] [vi 64, vr 20] 21 (pu P 20 [4, 5])
  refine Gc.arr0 (pu_z (by omega) (hP 21 (by omega))) (by decide) (by decide +kernel) rfl (fun j _ => s0Z (by decide +kernel) j) acI (cn' := 1) (sl' := 64) rfl rfl (Nat.le_of_ble_eq_true rfl) (Nat.le_of_ble_eq_true rfl) dX5_init_6 ?_
  show Gc κ mX5_init (rmX 1 2 64) (zX κ 23 P 2 64) 1 64 8 [some (vr 20), some (vi 64), some (vi 0)] [vr 21, vr 20] 22 (pu P 20 [4, 5])
  refine Gc.put (c := 5) (j := 4) mfX5_7 cl5 (by decide +kernel) (by decide) (by decide) rfl (by decide +kernel) (nfR (by decide +kernel)) (fun _ => ⟨rfl, rfl⟩) dX5_init_8 ?_
  show Gc κ mX5_init (rmX 1 2 64) (zX κ 23 P 2 64) 1 64 11 [some (vr 20), some (vi 64), some (vi 0)] [] 22 (pu P 20 [5])
  refine Gc.aload 0 rfl rfl dX5_init_11 ?_
  show Gc κ mX5_init (rmX 1 2 64) (zX κ 23 P 2 64) 1 64 12 [some (vr 20), some (vi 64), some (vi 0)] [vr 20] 22 (pu P 20 [5])
  refine Gc.iload 2 rfl rfl dX5_init_12 ?_
  show Gc κ mX5_init (rmX 1 2 64) (zX κ 23 P 2 64) 1 64 13 [some (vr 20), some (vi 64), some (vi 0)] [vi 0, vr 20] 22 (pu P 20 [5])
  refine Gc.arr0 (pu_z (by omega) (hP 22 (by omega))) (by decide) (by decide +kernel) rfl (fun j _ => s0Z (by decide +kernel) j) acI (cn' := 2) (sl' := 64) rfl rfl (Nat.le_of_ble_eq_true rfl) (Nat.le_of_ble_eq_true rfl) dX5_init_13 ?_
  show Gc κ mX5_init (rmX 1 2 64) (zX κ 23 P 2 64) 2 64 15 [some (vr 20), some (vi 64), some (vi 0)] [vr 22, vr 20] 23 (pu P 20 [5])
  refine Gc.put (c := 5) (j := 5) mfX5_13 cl5 (by decide +kernel) (by decide) (by decide) rfl (by decide +kernel) (nfR (by decide +kernel)) (fun _ => ⟨rfl, rfl⟩) dX5_init_15 ?_
  show Gc κ mX5_init (rmX 1 2 64) (zX κ 23 P 2 64) 2 64 18 [some (vr 20), some (vi 64), some (vi 0)] [] 23 (pu P 20 [])
  refine Gc.fin (hP 20 (by omega)) ?_
  show Gc κ mX5_init (rmX 1 2 64) (zX κ 23 P 2 64) 2 64 18 [some (vr 20), some (vi 64), some (vi 0)] [] 23 P
  exact Gc.ret rfl dX5_init_18
set_option maxRecDepth 100000 in
theorem mkSh23 {κ : Kx} (hA : ad κ) {P : Nat → List Nat} (hP : ∀ a, 23 ≤ a → P a = []) : ConX κ mX5_init 1 2 96 [vr 23, vi 96, vi 0] 24 (pu P 23 [4, 5]) 26 P := by
  refine conX_of (M := mX5_init) (by decide +kernel) hA (Nat.le_of_ble_eq_true rfl) 0 ?_
  show Gc κ mX5_init (rmX 1 2 96) (zX κ 26 P 2 96) 0 0 0 [some (vr 23), some (vi 96), some (vi 0)] [] 24 (pu P 23 [4, 5])
  refine Gc.aload 0 rfl rfl dX5_init_0 ?_
  show Gc κ mX5_init (rmX 1 2 96) (zX κ 26 P 2 96) 0 0 1 [some (vr 23), some (vi 96), some (vi 0)] [vr 23] 24 (pu P 23 [4, 5])
  refine Gc.obj moX5 ⟨(Nat.le_of_ble_eq_true rfl), (Nat.le_of_ble_eq_true rfl)⟩ (Nat.le_of_ble_eq_true rfl) dX5_init_1 ?_
  show Gc κ mX5_init (rmX 1 2 96) (zX κ 26 P 2 96) 0 0 4 [some (vr 23), some (vi 96), some (vi 0)] [] 24 (pu P 23 [4, 5])
  refine Gc.aload 0 rfl rfl dX5_init_4 ?_
  show Gc κ mX5_init (rmX 1 2 96) (zX κ 26 P 2 96) 0 0 5 [some (vr 23), some (vi 96), some (vi 0)] [vr 23] 24 (pu P 23 [4, 5])
  refine Gc.iload 1 rfl rfl dX5_init_5 ?_
  show Gc κ mX5_init (rmX 1 2 96) (zX κ 26 P 2 96) 0 0 6 [some (vr 23), some (vi 96), some (vi 0)] [vi 96, vr 23] 24 (pu P 23 [4, 5])
  refine Gc.arr0 (pu_z (by omega) (hP 24 (by omega))) (by decide) (by decide +kernel) rfl (fun j _ => s0Z (by decide +kernel) j) acI (cn' := 1) (sl' := 96) rfl rfl (Nat.le_of_ble_eq_true rfl) (Nat.le_of_ble_eq_true rfl) dX5_init_6 ?_
  show Gc κ mX5_init (rmX 1 2 96) (zX κ 26 P 2 96) 1 96 8 [some (vr 23), some (vi 96), some (vi 0)] [vr 24, vr 23] 25 (pu P 23 [4, 5])
  refine Gc.put (c := 5) (j := 4) mfX5_7 cl5 (by decide +kernel) (by decide) (by decide) rfl (by decide +kernel) (nfR (by decide +kernel)) (fun _ => ⟨rfl, rfl⟩) dX5_init_8 ?_
  show Gc κ mX5_init (rmX 1 2 96) (zX κ 26 P 2 96) 1 96 11 [some (vr 23), some (vi 96), some (vi 0)] [] 25 (pu P 23 [5])
  refine Gc.aload 0 rfl rfl dX5_init_11 ?_
  show Gc κ mX5_init (rmX 1 2 96) (zX κ 26 P 2 96) 1 96 12 [some (vr 23), some (vi 96), some (vi 0)] [vr 23] 25 (pu P 23 [5])
  refine Gc.iload 2 rfl rfl dX5_init_12 ?_
  show Gc κ mX5_init (rmX 1 2 96) (zX κ 26 P 2 96) 1 96 13 [some (vr 23), some (vi 96), some (vi 0)] [vi 0, vr 23] 25 (pu P 23 [5])
  refine Gc.arr0 (pu_z (by omega) (hP 25 (by omega))) (by decide) (by decide +kernel) rfl (fun j _ => s0Z (by decide +kernel) j) acI (cn' := 2) (sl' := 96) rfl rfl (Nat.le_of_ble_eq_true rfl) (Nat.le_of_ble_eq_true rfl) dX5_init_13 ?_
  show Gc κ mX5_init (rmX 1 2 96) (zX κ 26 P 2 96) 2 96 15 [some (vr 23), some (vi 96), some (vi 0)] [vr 25, vr 23] 26 (pu P 23 [5])
  refine Gc.put (c := 5) (j := 5) mfX5_13 cl5 (by decide +kernel) (by decide) (by decide) rfl (by decide +kernel) (nfR (by decide +kernel)) (fun _ => ⟨rfl, rfl⟩) dX5_init_15 ?_
  show Gc κ mX5_init (rmX 1 2 96) (zX κ 26 P 2 96) 2 96 18 [some (vr 23), some (vi 96), some (vi 0)] [] 26 (pu P 23 [])
  refine Gc.fin (hP 23 (by omega)) ?_
  show Gc κ mX5_init (rmX 1 2 96) (zX κ 26 P 2 96) 2 96 18 [some (vr 23), some (vi 96), some (vi 0)] [] 26 P
  exact Gc.ret rfl dX5_init_18
set_option maxRecDepth 100000 in
theorem mkSh26 {κ : Kx} (hA : ad κ) {P : Nat → List Nat} (hP : ∀ a, 26 ≤ a → P a = []) : ConX κ mX5_init 1 2 16 [vr 26, vi 16, vi 0] 27 (pu P 26 [4, 5]) 29 P := by
  refine conX_of (M := mX5_init) (by decide +kernel) hA (Nat.le_of_ble_eq_true rfl) 0 ?_
  show Gc κ mX5_init (rmX 1 2 16) (zX κ 29 P 2 16) 0 0 0 [some (vr 26), some (vi 16), some (vi 0)] [] 27 (pu P 26 [4, 5])
  refine Gc.aload 0 rfl rfl dX5_init_0 ?_
  show Gc κ mX5_init (rmX 1 2 16) (zX κ 29 P 2 16) 0 0 1 [some (vr 26), some (vi 16), some (vi 0)] [vr 26] 27 (pu P 26 [4, 5])
  refine Gc.obj moX5 ⟨(Nat.le_of_ble_eq_true rfl), (Nat.le_of_ble_eq_true rfl)⟩ (Nat.le_of_ble_eq_true rfl) dX5_init_1 ?_
  show Gc κ mX5_init (rmX 1 2 16) (zX κ 29 P 2 16) 0 0 4 [some (vr 26), some (vi 16), some (vi 0)] [] 27 (pu P 26 [4, 5])
  refine Gc.aload 0 rfl rfl dX5_init_4 ?_
  show Gc κ mX5_init (rmX 1 2 16) (zX κ 29 P 2 16) 0 0 5 [some (vr 26), some (vi 16), some (vi 0)] [vr 26] 27 (pu P 26 [4, 5])
  refine Gc.iload 1 rfl rfl dX5_init_5 ?_
  show Gc κ mX5_init (rmX 1 2 16) (zX κ 29 P 2 16) 0 0 6 [some (vr 26), some (vi 16), some (vi 0)] [vi 16, vr 26] 27 (pu P 26 [4, 5])
  refine Gc.arr0 (pu_z (by omega) (hP 27 (by omega))) (by decide) (by decide +kernel) rfl (fun j _ => s0Z (by decide +kernel) j) acI (cn' := 1) (sl' := 16) rfl rfl (Nat.le_of_ble_eq_true rfl) (Nat.le_of_ble_eq_true rfl) dX5_init_6 ?_
  show Gc κ mX5_init (rmX 1 2 16) (zX κ 29 P 2 16) 1 16 8 [some (vr 26), some (vi 16), some (vi 0)] [vr 27, vr 26] 28 (pu P 26 [4, 5])
  refine Gc.put (c := 5) (j := 4) mfX5_7 cl5 (by decide +kernel) (by decide) (by decide) rfl (by decide +kernel) (nfR (by decide +kernel)) (fun _ => ⟨rfl, rfl⟩) dX5_init_8 ?_
  show Gc κ mX5_init (rmX 1 2 16) (zX κ 29 P 2 16) 1 16 11 [some (vr 26), some (vi 16), some (vi 0)] [] 28 (pu P 26 [5])
  refine Gc.aload 0 rfl rfl dX5_init_11 ?_
  show Gc κ mX5_init (rmX 1 2 16) (zX κ 29 P 2 16) 1 16 12 [some (vr 26), some (vi 16), some (vi 0)] [vr 26] 28 (pu P 26 [5])
  refine Gc.iload 2 rfl rfl dX5_init_12 ?_
  show Gc κ mX5_init (rmX 1 2 16) (zX κ 29 P 2 16) 1 16 13 [some (vr 26), some (vi 16), some (vi 0)] [vi 0, vr 26] 28 (pu P 26 [5])
  refine Gc.arr0 (pu_z (by omega) (hP 28 (by omega))) (by decide) (by decide +kernel) rfl (fun j _ => s0Z (by decide +kernel) j) acI (cn' := 2) (sl' := 16) rfl rfl (Nat.le_of_ble_eq_true rfl) (Nat.le_of_ble_eq_true rfl) dX5_init_13 ?_
  show Gc κ mX5_init (rmX 1 2 16) (zX κ 29 P 2 16) 2 16 15 [some (vr 26), some (vi 16), some (vi 0)] [vr 28, vr 26] 29 (pu P 26 [5])
  refine Gc.put (c := 5) (j := 5) mfX5_13 cl5 (by decide +kernel) (by decide) (by decide) rfl (by decide +kernel) (nfR (by decide +kernel)) (fun _ => ⟨rfl, rfl⟩) dX5_init_15 ?_
  show Gc κ mX5_init (rmX 1 2 16) (zX κ 29 P 2 16) 2 16 18 [some (vr 26), some (vi 16), some (vi 0)] [] 29 (pu P 26 [])
  refine Gc.fin (hP 26 (by omega)) ?_
  show Gc κ mX5_init (rmX 1 2 16) (zX κ 29 P 2 16) 2 16 18 [some (vr 26), some (vi 16), some (vi 0)] [] 29 P
  exact Gc.ret rfl dX5_init_18
set_option maxRecDepth 100000 in
theorem mkSh47 {κ : Kx} (hA : ad κ) {P : Nat → List Nat} (hP : ∀ a, 47 ≤ a → P a = []) : ConX κ mX5_init 1 2 464 [vr 47, vi 64, vi 400] 48 (pu P 47 [4, 5]) 50 P := by
  refine conX_of (M := mX5_init) (by decide +kernel) hA (Nat.le_of_ble_eq_true rfl) 0 ?_
  show Gc κ mX5_init (rmX 1 2 464) (zX κ 50 P 2 464) 0 0 0 [some (vr 47), some (vi 64), some (vi 400)] [] 48 (pu P 47 [4, 5])
  refine Gc.aload 0 rfl rfl dX5_init_0 ?_
  show Gc κ mX5_init (rmX 1 2 464) (zX κ 50 P 2 464) 0 0 1 [some (vr 47), some (vi 64), some (vi 400)] [vr 47] 48 (pu P 47 [4, 5])
  refine Gc.obj moX5 ⟨(Nat.le_of_ble_eq_true rfl), (Nat.le_of_ble_eq_true rfl)⟩ (Nat.le_of_ble_eq_true rfl) dX5_init_1 ?_
  show Gc κ mX5_init (rmX 1 2 464) (zX κ 50 P 2 464) 0 0 4 [some (vr 47), some (vi 64), some (vi 400)] [] 48 (pu P 47 [4, 5])
  refine Gc.aload 0 rfl rfl dX5_init_4 ?_
  show Gc κ mX5_init (rmX 1 2 464) (zX κ 50 P 2 464) 0 0 5 [some (vr 47), some (vi 64), some (vi 400)] [vr 47] 48 (pu P 47 [4, 5])
  refine Gc.iload 1 rfl rfl dX5_init_5 ?_
  show Gc κ mX5_init (rmX 1 2 464) (zX κ 50 P 2 464) 0 0 6 [some (vr 47), some (vi 64), some (vi 400)] [vi 64, vr 47] 48 (pu P 47 [4, 5])
  refine Gc.arr0 (pu_z (by omega) (hP 48 (by omega))) (by decide) (by decide +kernel) rfl (fun j _ => s0Z (by decide +kernel) j) acI (cn' := 1) (sl' := 64) rfl rfl (Nat.le_of_ble_eq_true rfl) (Nat.le_of_ble_eq_true rfl) dX5_init_6 ?_
  show Gc κ mX5_init (rmX 1 2 464) (zX κ 50 P 2 464) 1 64 8 [some (vr 47), some (vi 64), some (vi 400)] [vr 48, vr 47] 49 (pu P 47 [4, 5])
  refine Gc.put (c := 5) (j := 4) mfX5_7 cl5 (by decide +kernel) (by decide) (by decide) rfl (by decide +kernel) (nfR (by decide +kernel)) (fun _ => ⟨rfl, rfl⟩) dX5_init_8 ?_
  show Gc κ mX5_init (rmX 1 2 464) (zX κ 50 P 2 464) 1 64 11 [some (vr 47), some (vi 64), some (vi 400)] [] 49 (pu P 47 [5])
  refine Gc.aload 0 rfl rfl dX5_init_11 ?_
  show Gc κ mX5_init (rmX 1 2 464) (zX κ 50 P 2 464) 1 64 12 [some (vr 47), some (vi 64), some (vi 400)] [vr 47] 49 (pu P 47 [5])
  refine Gc.iload 2 rfl rfl dX5_init_12 ?_
  show Gc κ mX5_init (rmX 1 2 464) (zX κ 50 P 2 464) 1 64 13 [some (vr 47), some (vi 64), some (vi 400)] [vi 400, vr 47] 49 (pu P 47 [5])
  refine Gc.arr0 (pu_z (by omega) (hP 49 (by omega))) (by decide) (by decide +kernel) rfl (fun j _ => s0Z (by decide +kernel) j) acI (cn' := 2) (sl' := 464) rfl rfl (Nat.le_of_ble_eq_true rfl) (Nat.le_of_ble_eq_true rfl) dX5_init_13 ?_
  show Gc κ mX5_init (rmX 1 2 464) (zX κ 50 P 2 464) 2 464 15 [some (vr 47), some (vi 64), some (vi 400)] [vr 49, vr 47] 50 (pu P 47 [5])
  refine Gc.put (c := 5) (j := 5) mfX5_13 cl5 (by decide +kernel) (by decide) (by decide) rfl (by decide +kernel) (nfR (by decide +kernel)) (fun _ => ⟨rfl, rfl⟩) dX5_init_15 ?_
  show Gc κ mX5_init (rmX 1 2 464) (zX κ 50 P 2 464) 2 464 18 [some (vr 47), some (vi 64), some (vi 400)] [] 50 (pu P 47 [])
  refine Gc.fin (hP 47 (by omega)) ?_
  show Gc κ mX5_init (rmX 1 2 464) (zX κ 50 P 2 464) 2 464 18 [some (vr 47), some (vi 64), some (vi 400)] [] 50 P
  exact Gc.ret rfl dX5_init_18
set_option maxRecDepth 100000 in
theorem mkSh50 {κ : Kx} (hA : ad κ) {P : Nat → List Nat} (hP : ∀ a, 50 ≤ a → P a = []) : ConX κ mX5_init 1 2 64 [vr 50, vi 64, vi 0] 51 (pu P 50 [4, 5]) 53 P := by
  refine conX_of (M := mX5_init) (by decide +kernel) hA (Nat.le_of_ble_eq_true rfl) 0 ?_
  show Gc κ mX5_init (rmX 1 2 64) (zX κ 53 P 2 64) 0 0 0 [some (vr 50), some (vi 64), some (vi 0)] [] 51 (pu P 50 [4, 5])
  refine Gc.aload 0 rfl rfl dX5_init_0 ?_
  show Gc κ mX5_init (rmX 1 2 64) (zX κ 53 P 2 64) 0 0 1 [some (vr 50), some (vi 64), some (vi 0)] [vr 50] 51 (pu P 50 [4, 5])
  refine Gc.obj moX5 ⟨(Nat.le_of_ble_eq_true rfl), (Nat.le_of_ble_eq_true rfl)⟩ (Nat.le_of_ble_eq_true rfl) dX5_init_1 ?_
  show Gc κ mX5_init (rmX 1 2 64) (zX κ 53 P 2 64) 0 0 4 [some (vr 50), some (vi 64), some (vi 0)] [] 51 (pu P 50 [4, 5])
  refine Gc.aload 0 rfl rfl dX5_init_4 ?_
  show Gc κ mX5_init (rmX 1 2 64) (zX κ 53 P 2 64) 0 0 5 [some (vr 50), some (vi 64), some (vi 0)] [vr 50] 51 (pu P 50 [4, 5])
  refine Gc.iload 1 rfl rfl dX5_init_5 ?_
  show Gc κ mX5_init (rmX 1 2 64) (zX κ 53 P 2 64) 0 0 6 [some (vr 50), some (vi 64), some (vi 0)] [vi 64, vr 50] 51 (pu P 50 [4, 5])
  refine Gc.arr0 (pu_z (by omega) (hP 51 (by omega))) (by decide) (by decide +kernel) rfl (fun j _ => s0Z (by decide +kernel) j) acI (cn' := 1) (sl' := 64) rfl rfl (Nat.le_of_ble_eq_true rfl) (Nat.le_of_ble_eq_true rfl) dX5_init_6 ?_
  show Gc κ mX5_init (rmX 1 2 64) (zX κ 53 P 2 64) 1 64 8 [some (vr 50), some (vi 64), some (vi 0)] [vr 51, vr 50] 52 (pu P 50 [4, 5])
  refine Gc.put (c := 5) (j := 4) mfX5_7 cl5 (by decide +kernel) (by decide) (by decide) rfl (by decide +kernel) (nfR (by decide +kernel)) (fun _ => ⟨rfl, rfl⟩) dX5_init_8 ?_
  show Gc κ mX5_init (rmX 1 2 64) (zX κ 53 P 2 64) 1 64 11 [some (vr 50), some (vi 64), some (vi 0)] [] 52 (pu P 50 [5])
  refine Gc.aload 0 rfl rfl dX5_init_11 ?_
  show Gc κ mX5_init (rmX 1 2 64) (zX κ 53 P 2 64) 1 64 12 [some (vr 50), some (vi 64), some (vi 0)] [vr 50] 52 (pu P 50 [5])
  refine Gc.iload 2 rfl rfl dX5_init_12 ?_
  show Gc κ mX5_init (rmX 1 2 64) (zX κ 53 P 2 64) 1 64 13 [some (vr 50), some (vi 64), some (vi 0)] [vi 0, vr 50] 52 (pu P 50 [5])
  refine Gc.arr0 (pu_z (by omega) (hP 52 (by omega))) (by decide) (by decide +kernel) rfl (fun j _ => s0Z (by decide +kernel) j) acI (cn' := 2) (sl' := 64) rfl rfl (Nat.le_of_ble_eq_true rfl) (Nat.le_of_ble_eq_true rfl) dX5_init_13 ?_
  show Gc κ mX5_init (rmX 1 2 64) (zX κ 53 P 2 64) 2 64 15 [some (vr 50), some (vi 64), some (vi 0)] [vr 52, vr 50] 53 (pu P 50 [5])
  refine Gc.put (c := 5) (j := 5) mfX5_13 cl5 (by decide +kernel) (by decide) (by decide) rfl (by decide +kernel) (nfR (by decide +kernel)) (fun _ => ⟨rfl, rfl⟩) dX5_init_15 ?_
  show Gc κ mX5_init (rmX 1 2 64) (zX κ 53 P 2 64) 2 64 18 [some (vr 50), some (vi 64), some (vi 0)] [] 53 (pu P 50 [])
  refine Gc.fin (hP 50 (by omega)) ?_
  show Gc κ mX5_init (rmX 1 2 64) (zX κ 53 P 2 64) 2 64 18 [some (vr 50), some (vi 64), some (vi 0)] [] 53 P
  exact Gc.ret rfl dX5_init_18
set_option maxRecDepth 100000 in
theorem mkSh53 {κ : Kx} (hA : ad κ) {P : Nat → List Nat} (hP : ∀ a, 53 ≤ a → P a = []) : ConX κ mX5_init 1 2 96 [vr 53, vi 96, vi 0] 54 (pu P 53 [4, 5]) 56 P := by
  refine conX_of (M := mX5_init) (by decide +kernel) hA (Nat.le_of_ble_eq_true rfl) 0 ?_
  show Gc κ mX5_init (rmX 1 2 96) (zX κ 56 P 2 96) 0 0 0 [some (vr 53), some (vi 96), some (vi 0)] [] 54 (pu P 53 [4, 5])
  refine Gc.aload 0 rfl rfl dX5_init_0 ?_
  show Gc κ mX5_init (rmX 1 2 96) (zX κ 56 P 2 96) 0 0 1 [some (vr 53), some (vi 96), some (vi 0)] [vr 53] 54 (pu P 53 [4, 5])
  refine Gc.obj moX5 ⟨(Nat.le_of_ble_eq_true rfl), (Nat.le_of_ble_eq_true rfl)⟩ (Nat.le_of_ble_eq_true rfl) dX5_init_1 ?_
  show Gc κ mX5_init (rmX 1 2 96) (zX κ 56 P 2 96) 0 0 4 [some (vr 53), some (vi 96), some (vi 0)] [] 54 (pu P 53 [4, 5])
  refine Gc.aload 0 rfl rfl dX5_init_4 ?_
  show Gc κ mX5_init (rmX 1 2 96) (zX κ 56 P 2 96) 0 0 5 [some (vr 53), some (vi 96), some (vi 0)] [vr 53] 54 (pu P 53 [4, 5])
  refine Gc.iload 1 rfl rfl dX5_init_5 ?_
  show Gc κ mX5_init (rmX 1 2 96) (zX κ 56 P 2 96) 0 0 6 [some (vr 53), some (vi 96), some (vi 0)] [vi 96, vr 53] 54 (pu P 53 [4, 5])
  refine Gc.arr0 (pu_z (by omega) (hP 54 (by omega))) (by decide) (by decide +kernel) rfl (fun j _ => s0Z (by decide +kernel) j) acI (cn' := 1) (sl' := 96) rfl rfl (Nat.le_of_ble_eq_true rfl) (Nat.le_of_ble_eq_true rfl) dX5_init_6 ?_
  show Gc κ mX5_init (rmX 1 2 96) (zX κ 56 P 2 96) 1 96 8 [some (vr 53), some (vi 96), some (vi 0)] [vr 54, vr 53] 55 (pu P 53 [4, 5])
  refine Gc.put (c := 5) (j := 4) mfX5_7 cl5 (by decide +kernel) (by decide) (by decide) rfl (by decide +kernel) (nfR (by decide +kernel)) (fun _ => ⟨rfl, rfl⟩) dX5_init_8 ?_
  show Gc κ mX5_init (rmX 1 2 96) (zX κ 56 P 2 96) 1 96 11 [some (vr 53), some (vi 96), some (vi 0)] [] 55 (pu P 53 [5])
  refine Gc.aload 0 rfl rfl dX5_init_11 ?_
  show Gc κ mX5_init (rmX 1 2 96) (zX κ 56 P 2 96) 1 96 12 [some (vr 53), some (vi 96), some (vi 0)] [vr 53] 55 (pu P 53 [5])
  refine Gc.iload 2 rfl rfl dX5_init_12 ?_
  show Gc κ mX5_init (rmX 1 2 96) (zX κ 56 P 2 96) 1 96 13 [some (vr 53), some (vi 96), some (vi 0)] [vi 0, vr 53] 55 (pu P 53 [5])
  refine Gc.arr0 (pu_z (by omega) (hP 55 (by omega))) (by decide) (by decide +kernel) rfl (fun j _ => s0Z (by decide +kernel) j) acI (cn' := 2) (sl' := 96) rfl rfl (Nat.le_of_ble_eq_true rfl) (Nat.le_of_ble_eq_true rfl) dX5_init_13 ?_
  show Gc κ mX5_init (rmX 1 2 96) (zX κ 56 P 2 96) 2 96 15 [some (vr 53), some (vi 96), some (vi 0)] [vr 55, vr 53] 56 (pu P 53 [5])
  refine Gc.put (c := 5) (j := 5) mfX5_13 cl5 (by decide +kernel) (by decide) (by decide) rfl (by decide +kernel) (nfR (by decide +kernel)) (fun _ => ⟨rfl, rfl⟩) dX5_init_15 ?_
  show Gc κ mX5_init (rmX 1 2 96) (zX κ 56 P 2 96) 2 96 18 [some (vr 53), some (vi 96), some (vi 0)] [] 56 (pu P 53 [])
  refine Gc.fin (hP 53 (by omega)) ?_
  show Gc κ mX5_init (rmX 1 2 96) (zX κ 56 P 2 96) 2 96 18 [some (vr 53), some (vi 96), some (vi 0)] [] 56 P
  exact Gc.ret rfl dX5_init_18
set_option maxRecDepth 100000 in
theorem mkSh56 {κ : Kx} (hA : ad κ) {P : Nat → List Nat} (hP : ∀ a, 56 ≤ a → P a = []) : ConX κ mX5_init 1 2 16 [vr 56, vi 16, vi 0] 57 (pu P 56 [4, 5]) 59 P := by
  refine conX_of (M := mX5_init) (by decide +kernel) hA (Nat.le_of_ble_eq_true rfl) 0 ?_
  show Gc κ mX5_init (rmX 1 2 16) (zX κ 59 P 2 16) 0 0 0 [some (vr 56), some (vi 16), some (vi 0)] [] 57 (pu P 56 [4, 5])
  refine Gc.aload 0 rfl rfl dX5_init_0 ?_
  show Gc κ mX5_init (rmX 1 2 16) (zX κ 59 P 2 16) 0 0 1 [some (vr 56), some (vi 16), some (vi 0)] [vr 56] 57 (pu P 56 [4, 5])
  refine Gc.obj moX5 ⟨(Nat.le_of_ble_eq_true rfl), (Nat.le_of_ble_eq_true rfl)⟩ (Nat.le_of_ble_eq_true rfl) dX5_init_1 ?_
  show Gc κ mX5_init (rmX 1 2 16) (zX κ 59 P 2 16) 0 0 4 [some (vr 56), some (vi 16), some (vi 0)] [] 57 (pu P 56 [4, 5])
  refine Gc.aload 0 rfl rfl dX5_init_4 ?_
  show Gc κ mX5_init (rmX 1 2 16) (zX κ 59 P 2 16) 0 0 5 [some (vr 56), some (vi 16), some (vi 0)] [vr 56] 57 (pu P 56 [4, 5])
  refine Gc.iload 1 rfl rfl dX5_init_5 ?_
  show Gc κ mX5_init (rmX 1 2 16) (zX κ 59 P 2 16) 0 0 6 [some (vr 56), some (vi 16), some (vi 0)] [vi 16, vr 56] 57 (pu P 56 [4, 5])
  refine Gc.arr0 (pu_z (by omega) (hP 57 (by omega))) (by decide) (by decide +kernel) rfl (fun j _ => s0Z (by decide +kernel) j) acI (cn' := 1) (sl' := 16) rfl rfl (Nat.le_of_ble_eq_true rfl) (Nat.le_of_ble_eq_true rfl) dX5_init_6 ?_
  show Gc κ mX5_init (rmX 1 2 16) (zX κ 59 P 2 16) 1 16 8 [some (vr 56), some (vi 16), some (vi 0)] [vr 57, vr 56] 58 (pu P 56 [4, 5])
  refine Gc.put (c := 5) (j := 4) mfX5_7 cl5 (by decide +kernel) (by decide) (by decide) rfl (by decide +kernel) (nfR (by decide +kernel)) (fun _ => ⟨rfl, rfl⟩) dX5_init_8 ?_
  show Gc κ mX5_init (rmX 1 2 16) (zX κ 59 P 2 16) 1 16 11 [some (vr 56), some (vi 16), some (vi 0)] [] 58 (pu P 56 [5])
  refine Gc.aload 0 rfl rfl dX5_init_11 ?_
  show Gc κ mX5_init (rmX 1 2 16) (zX κ 59 P 2 16) 1 16 12 [some (vr 56), some (vi 16), some (vi 0)] [vr 56] 58 (pu P 56 [5])
  refine Gc.iload 2 rfl rfl dX5_init_12 ?_
  show Gc κ mX5_init (rmX 1 2 16) (zX κ 59 P 2 16) 1 16 13 [some (vr 56), some (vi 16), some (vi 0)] [vi 0, vr 56] 58 (pu P 56 [5])
  refine Gc.arr0 (pu_z (by omega) (hP 58 (by omega))) (by decide) (by decide +kernel) rfl (fun j _ => s0Z (by decide +kernel) j) acI (cn' := 2) (sl' := 16) rfl rfl (Nat.le_of_ble_eq_true rfl) (Nat.le_of_ble_eq_true rfl) dX5_init_13 ?_
  show Gc κ mX5_init (rmX 1 2 16) (zX κ 59 P 2 16) 2 16 15 [some (vr 56), some (vi 16), some (vi 0)] [vr 58, vr 56] 59 (pu P 56 [5])
  refine Gc.put (c := 5) (j := 5) mfX5_13 cl5 (by decide +kernel) (by decide) (by decide) rfl (by decide +kernel) (nfR (by decide +kernel)) (fun _ => ⟨rfl, rfl⟩) dX5_init_15 ?_
  show Gc κ mX5_init (rmX 1 2 16) (zX κ 59 P 2 16) 2 16 18 [some (vr 56), some (vi 16), some (vi 0)] [] 59 (pu P 56 [])
  refine Gc.fin (hP 56 (by omega)) ?_
  show Gc κ mX5_init (rmX 1 2 16) (zX κ 59 P 2 16) 2 16 18 [some (vr 56), some (vi 16), some (vi 0)] [] 59 P
  exact Gc.ret rfl dX5_init_18
set_option maxRecDepth 100000 in
theorem mkSh142 {κ : Kx} (hA : ad κ) {P : Nat → List Nat} (hP : ∀ a, 142 ≤ a → P a = []) : ConX κ mX5_init 1 2 496 [vr 142, vi 96, vi 400] 143 (pu P 142 [4, 5]) 145 P := by
  refine conX_of (M := mX5_init) (by decide +kernel) hA (Nat.le_of_ble_eq_true rfl) 0 ?_
  show Gc κ mX5_init (rmX 1 2 496) (zX κ 145 P 2 496) 0 0 0 [some (vr 142), some (vi 96), some (vi 400)] [] 143 (pu P 142 [4, 5])
  refine Gc.aload 0 rfl rfl dX5_init_0 ?_
  show Gc κ mX5_init (rmX 1 2 496) (zX κ 145 P 2 496) 0 0 1 [some (vr 142), some (vi 96), some (vi 400)] [vr 142] 143 (pu P 142 [4, 5])
  refine Gc.obj moX5 ⟨(Nat.le_of_ble_eq_true rfl), (Nat.le_of_ble_eq_true rfl)⟩ (Nat.le_of_ble_eq_true rfl) dX5_init_1 ?_
  show Gc κ mX5_init (rmX 1 2 496) (zX κ 145 P 2 496) 0 0 4 [some (vr 142), some (vi 96), some (vi 400)] [] 143 (pu P 142 [4, 5])
  refine Gc.aload 0 rfl rfl dX5_init_4 ?_
  show Gc κ mX5_init (rmX 1 2 496) (zX κ 145 P 2 496) 0 0 5 [some (vr 142), some (vi 96), some (vi 400)] [vr 142] 143 (pu P 142 [4, 5])
  refine Gc.iload 1 rfl rfl dX5_init_5 ?_
  show Gc κ mX5_init (rmX 1 2 496) (zX κ 145 P 2 496) 0 0 6 [some (vr 142), some (vi 96), some (vi 400)] [vi 96, vr 142] 143 (pu P 142 [4, 5])
  refine Gc.arr0 (pu_z (by omega) (hP 143 (by omega))) (by decide) (by decide +kernel) rfl (fun j _ => s0Z (by decide +kernel) j) acI (cn' := 1) (sl' := 96) rfl rfl (Nat.le_of_ble_eq_true rfl) (Nat.le_of_ble_eq_true rfl) dX5_init_6 ?_
  show Gc κ mX5_init (rmX 1 2 496) (zX κ 145 P 2 496) 1 96 8 [some (vr 142), some (vi 96), some (vi 400)] [vr 143, vr 142] 144 (pu P 142 [4, 5])
  refine Gc.put (c := 5) (j := 4) mfX5_7 cl5 (by decide +kernel) (by decide) (by decide) rfl (by decide +kernel) (nfR (by decide +kernel)) (fun _ => ⟨rfl, rfl⟩) dX5_init_8 ?_
  show Gc κ mX5_init (rmX 1 2 496) (zX κ 145 P 2 496) 1 96 11 [some (vr 142), some (vi 96), some (vi 400)] [] 144 (pu P 142 [5])
  refine Gc.aload 0 rfl rfl dX5_init_11 ?_
  show Gc κ mX5_init (rmX 1 2 496) (zX κ 145 P 2 496) 1 96 12 [some (vr 142), some (vi 96), some (vi 400)] [vr 142] 144 (pu P 142 [5])
  refine Gc.iload 2 rfl rfl dX5_init_12 ?_
  show Gc κ mX5_init (rmX 1 2 496) (zX κ 145 P 2 496) 1 96 13 [some (vr 142), some (vi 96), some (vi 400)] [vi 400, vr 142] 144 (pu P 142 [5])
  refine Gc.arr0 (pu_z (by omega) (hP 144 (by omega))) (by decide) (by decide +kernel) rfl (fun j _ => s0Z (by decide +kernel) j) acI (cn' := 2) (sl' := 496) rfl rfl (Nat.le_of_ble_eq_true rfl) (Nat.le_of_ble_eq_true rfl) dX5_init_13 ?_
  show Gc κ mX5_init (rmX 1 2 496) (zX κ 145 P 2 496) 2 496 15 [some (vr 142), some (vi 96), some (vi 400)] [vr 144, vr 142] 145 (pu P 142 [5])
  refine Gc.put (c := 5) (j := 5) mfX5_13 cl5 (by decide +kernel) (by decide) (by decide) rfl (by decide +kernel) (nfR (by decide +kernel)) (fun _ => ⟨rfl, rfl⟩) dX5_init_15 ?_
  show Gc κ mX5_init (rmX 1 2 496) (zX κ 145 P 2 496) 2 496 18 [some (vr 142), some (vi 96), some (vi 400)] [] 145 (pu P 142 [])
  refine Gc.fin (hP 142 (by omega)) ?_
  show Gc κ mX5_init (rmX 1 2 496) (zX κ 145 P 2 496) 2 496 18 [some (vr 142), some (vi 96), some (vi 400)] [] 145 P
  exact Gc.ret rfl dX5_init_18
set_option maxRecDepth 100000 in
theorem mkWo1 {κ : Kx} (hA : ad κ) {P : Nat → List Nat} (hP : ∀ a, 1 ≤ a → P a = []) : ConX κ mX7_init 2 29 1850 [vr 1] 2 (pu P 1 [0, 1, 2, 3, 5]) 31 P := by
  refine conX_of (M := mX7_init) (by decide +kernel) hA (Nat.le_of_ble_eq_true rfl) 0 ?_
  show Gc κ mX7_init (rmX 2 29 1850) (zX κ 31 P 29 1850) 0 0 0 [some (vr 1)] [] 2 (pu P 1 [0, 1, 2, 3, 5])
  refine Gc.aload 0 rfl rfl dX7_init_0 ?_
  show Gc κ mX7_init (rmX 2 29 1850) (zX κ 31 P 29 1850) 0 0 1 [some (vr 1)] [vr 1] 2 (pu P 1 [0, 1, 2, 3, 5])
  refine Gc.obj moX7 ⟨(Nat.le_of_ble_eq_true rfl), (Nat.le_of_ble_eq_true rfl)⟩ (Nat.le_of_ble_eq_true rfl) dX7_init_1 ?_
  show Gc κ mX7_init (rmX 2 29 1850) (zX κ 31 P 29 1850) 0 0 4 [some (vr 1)] [] 2 (pu P 1 [0, 1, 2, 3, 5])
  refine Gc.aload 0 rfl rfl dX7_init_4 ?_
  show Gc κ mX7_init (rmX 2 29 1850) (zX κ 31 P 29 1850) 0 0 5 [some (vr 1)] [vr 1] 2 (pu P 1 [0, 1, 2, 3, 5])
  refine Gc.new (c := 6) [6, 7, 8, 9, 10, 11, 12, 13, 14, 15, 16, 17] (by decide) (by decide +kernel) cl6 mnX7_7 rfl (by decide +kernel) (by decide +kernel) (cn' := 1) (sl' := 18) rfl rfl (Nat.le_of_ble_eq_true rfl) (Nat.le_of_ble_eq_true rfl) dX7_init_5 ?_
  show Gc κ mX7_init (rmX 2 29 1850) (zX κ 31 P 29 1850) 1 18 8 [some (vr 1)] [vr 2, vr 1] 3 (pu (pu P 1 [0, 1, 2, 3, 5]) 2 [6, 7, 8, 9, 10, 11, 12, 13, 14, 15, 16, 17])
  refine Gc.dup dX7_init_8 ?_
  show Gc κ mX7_init (rmX 2 29 1850) (zX κ 31 P 29 1850) 1 18 9 [some (vr 1)] [vr 2, vr 2, vr 1] 3 (pu (pu P 1 [0, 1, 2, 3, 5]) 2 [6, 7, 8, 9, 10, 11, 12, 13, 14, 15, 16, 17])
  refine Gc.call [] [vr 2, vr 1] mcX7_9 rfl rfl (Nat.le_of_ble_eq_true rfl) ⟨(Nat.le_of_ble_eq_true rfl), (Nat.le_of_ble_eq_true rfl)⟩ (cn' := 13) (sl' := 564) rfl rfl (Nat.le_of_ble_eq_true rfl) (Nat.le_of_ble_eq_true rfl) dX7_init_9 (mkTa hA (k := 2) (by decide) (fun a ha => (pu_z (by omega) (hP a (by omega))))) ?_
  show Gc κ mX7_init (rmX 2 29 1850) (zX κ 31 P 29 1850) 13 564 12 [some (vr 1)] [vr 2, vr 1] 15 (pu P 1 [0, 1, 2, 3, 5])
  refine Gc.put (c := 7) (j := 0) mfX7_10 cl7 (by decide +kernel) (by decide) (by decide) rfl (by decide +kernel) (nfR (by decide +kernel)) (fun _ => ⟨rfl, rfl⟩) dX7_init_12 ?_
  show Gc κ mX7_init (rmX 2 29 1850) (zX κ 31 P 29 1850) 13 564 15 [some (vr 1)] [] 15 (pu P 1 [1, 2, 3, 5])
  refine Gc.aload 0 rfl rfl dX7_init_15 ?_
  show Gc κ mX7_init (rmX 2 29 1850) (zX κ 31 P 29 1850) 13 564 16 [some (vr 1)] [vr 1] 15 (pu P 1 [1, 2, 3, 5])
  refine Gc.sipush dX7_init_16 (by decide) ?_
  show Gc κ mX7_init (rmX 2 29 1850) (zX κ 31 P 29 1850) 13 564 19 [some (vr 1)] [vi 600, vr 1] 15 (pu P 1 [1, 2, 3, 5])
  refine Gc.arr0 (pu_z (by omega) (hP 15 (by omega))) (by decide) (by decide +kernel) rfl (fun j _ => s0Z (by decide +kernel) j) acI (cn' := 14) (sl' := 1164) rfl rfl (Nat.le_of_ble_eq_true rfl) (Nat.le_of_ble_eq_true rfl) dX7_init_19 ?_
  show Gc κ mX7_init (rmX 2 29 1850) (zX κ 31 P 29 1850) 14 1164 21 [some (vr 1)] [vr 15, vr 1] 16 (pu P 1 [1, 2, 3, 5])
  refine Gc.put (c := 7) (j := 1) mfX7_16 cl7 (by decide +kernel) (by decide) (by decide) rfl (by decide +kernel) (nfR (by decide +kernel)) (fun _ => ⟨rfl, rfl⟩) dX7_init_21 ?_
  show Gc κ mX7_init (rmX 2 29 1850) (zX κ 31 P 29 1850) 14 1164 24 [some (vr 1)] [] 16 (pu P 1 [2, 3, 5])
  refine Gc.aload 0 rfl rfl dX7_init_24 ?_
  show Gc κ mX7_init (rmX 2 29 1850) (zX κ 31 P 29 1850) 14 1164 25 [some (vr 1)] [vr 1] 16 (pu P 1 [2, 3, 5])
  refine Gc.iconst dX7_init_25 ?_
  show Gc κ mX7_init (rmX 2 29 1850) (zX κ 31 P 29 1850) 14 1164 26 [some (vr 1)] [vi 4, vr 1] 16 (pu P 1 [2, 3, 5])
  refine Gc.anew [0, 1, 2, 3] (.inl ⟨rfl, rfl, rfl, rfl⟩) (by decide) (by decide +kernel) rfl (by decide) maX7_20 (cn' := 15) (sl' := 1168) rfl rfl (Nat.le_of_ble_eq_true rfl) (Nat.le_of_ble_eq_true rfl) dX7_init_26 ?_
  show Gc κ mX7_init (rmX 2 29 1850) (zX κ 31 P 29 1850) 15 1168 29 [some (vr 1)] [vr 16, vr 1] 17 (pu (pu P 1 [2, 3, 5]) 16 [0, 1, 2, 3])
  refine Gc.dup dX7_init_29 ?_
  show Gc κ mX7_init (rmX 2 29 1850) (zX κ 31 P 29 1850) 15 1168 30 [some (vr 1)] [vr 16, vr 16, vr 1] 17 (pu (pu P 1 [2, 3, 5]) 16 [0, 1, 2, 3])
  refine Gc.iconst dX7_init_30 ?_
  show Gc κ mX7_init (rmX 2 29 1850) (zX κ 31 P 29 1850) 15 1168 31 [some (vr 1)] [vi 0, vr 16, vr 16, vr 1] 17 (pu (pu P 1 [2, 3, 5]) 16 [0, 1, 2, 3])
  refine Gc.new (c := 5) [4, 5] (by decide) (by decide +kernel) cl5 mnX7_20 rfl (by decide +kernel) (by decide +kernel) (cn' := 16) (sl' := 1174) rfl rfl (Nat.le_of_ble_eq_true rfl) (Nat.le_of_ble_eq_true rfl) dX7_init_31 ?_
  show Gc κ mX7_init (rmX 2 29 1850) (zX κ 31 P 29 1850) 16 1174 34 [some (vr 1)] [vr 17, vi 0, vr 16, vr 16, vr 1] 18 (pu (pu (pu P 1 [2, 3, 5]) 16 [0, 1, 2, 3]) 17 [4, 5])
  refine Gc.dup dX7_init_34 ?_
  show Gc κ mX7_init (rmX 2 29 1850) (zX κ 31 P 29 1850) 16 1174 35 [some (vr 1)] [vr 17, vr 17, vi 0, vr 16, vr 16, vr 1] 18 (pu (pu (pu P 1 [2, 3, 5]) 16 [0, 1, 2, 3]) 17 [4, 5])
  refine Gc.bipush dX7_init_35 (by decide) ?_
  show Gc κ mX7_init (rmX 2 29 1850) (zX κ 31 P 29 1850) 16 1174 37 [some (vr 1)] [vi 64, vr 17, vr 17, vi 0, vr 16, vr 16, vr 1] 18 (pu (pu (pu P 1 [2, 3, 5]) 16 [0, 1, 2, 3]) 17 [4, 5])
  refine Gc.sipush dX7_init_37 (by decide) ?_
  show Gc κ mX7_init (rmX 2 29 1850) (zX κ 31 P 29 1850) 16 1174 40 [some (vr 1)] [vi 400, vi 64, vr 17, vr 17, vi 0, vr 16, vr 16, vr 1] 18 (pu (pu (pu P 1 [2, 3, 5]) 16 [0, 1, 2, 3]) 17 [4, 5])
  refine Gc.call [vi 64, vi 400] [vr 17, vi 0, vr 16, vr 16, vr 1] mcX7_24 rfl rfl (Nat.le_of_ble_eq_true rfl) ⟨(Nat.le_of_ble_eq_true rfl), (Nat.le_of_ble_eq_true rfl)⟩ (cn' := 18) (sl' := 1638) rfl rfl (Nat.le_of_ble_eq_true rfl) (Nat.le_of_ble_eq_true rfl) dX7_init_40 (mkSh17 hA (fun a ha => (pu_z (by omega) (pu_z (by omega) (hP a (by omega)))))) ?_
  show Gc κ mX7_init (rmX 2 29 1850) (zX κ 31 P 29 1850) 18 1638 43 [some (vr 1)] [vr 17, vi 0, vr 16, vr 16, vr 1] 20 (pu (pu P 1 [2, 3, 5]) 16 [0, 1, 2, 3])
  refine Gc.aast (len := 4) (i := 0) (.inl ⟨rfl, rfl, rfl, rfl⟩) (by decide +kernel) (by decide) (by decide) (by decide) rfl rfl (by decide +kernel) (by decide) (by decide +kernel) dX7_init_43 ?_
  show Gc κ mX7_init (rmX 2 29 1850) (zX κ 31 P 29 1850) 18 1638 44 [some (vr 1)] [vr 16, vr 1] 20 (pu (pu P 1 [2, 3, 5]) 16 [1, 2, 3])
  refine Gc.dup dX7_init_44 ?_
  show Gc κ mX7_init (rmX 2 29 1850) (zX κ 31 P 29 1850) 18 1638 45 [some (vr 1)] [vr 16, vr 16, vr 1] 20 (pu (pu P 1 [2, 3, 5]) 16 [1, 2, 3])
  refine Gc.iconst dX7_init_45 ?_
  show Gc κ mX7_init (rmX 2 29 1850) (zX κ 31 P 29 1850) 18 1638 46 [some (vr 1)] [vi 1, vr 16, vr 16, vr 1] 20 (pu (pu P 1 [2, 3, 5]) 16 [1, 2, 3])
  refine Gc.new (c := 5) [4, 5] (by decide) (by decide +kernel) cl5 mnX7_20 rfl (by decide +kernel) (by decide +kernel) (cn' := 19) (sl' := 1644) rfl rfl (Nat.le_of_ble_eq_true rfl) (Nat.le_of_ble_eq_true rfl) dX7_init_46 ?_
  show Gc κ mX7_init (rmX 2 29 1850) (zX κ 31 P 29 1850) 19 1644 49 [some (vr 1)] [vr 20, vi 1, vr 16, vr 16, vr 1] 21 (pu (pu (pu P 1 [2, 3, 5]) 16 [1, 2, 3]) 20 [4, 5])
  refine Gc.dup dX7_init_49 ?_
  show Gc κ mX7_init (rmX 2 29 1850) (zX κ 31 P 29 1850) 19 1644 50 [some (vr 1)] [vr 20, vr 20, vi 1, vr 16, vr 16, vr 1] 21 (pu (pu (pu P 1 [2, 3, 5]) 16 [1, 2, 3]) 20 [4, 5])
  refine Gc.bipush dX7_init_50 (by decide) ?_
  show Gc κ mX7_init (rmX 2 29 1850) (zX κ 31 P 29 1850) 19 1644 52 [some (vr 1)] [vi 64, vr 20, vr 20, vi 1, vr 16, vr 16, vr 1] 21 (pu (pu (pu P 1 [2, 3, 5]) 16 [1, 2, 3]) 20 [4, 5])
  refine Gc.iconst dX7_init_52 ?_
  show Gc κ mX7_init (rmX 2 29 1850) (zX κ 31 P 29 1850) 19 1644 53 [some (vr 1)] [vi 0, vi 64, vr 20, vr 20, vi 1, vr 16, vr 16, vr 1] 21 (pu (pu (pu P 1 [2, 3, 5]) 16 [1, 2, 3]) 20 [4, 5])
  refine Gc.call [vi 64, vi 0] [vr 20, vi 1, vr 16, vr 16, vr 1] mcX7_24 rfl rfl (Nat.le_of_ble_eq_true rfl) ⟨(Nat.le_of_ble_eq_true rfl), (Nat.le_of_ble_eq_true rfl)⟩ (cn' := 21) (sl' := 1708) rfl rfl (Nat.le_of_ble_eq_true rfl) (Nat.le_of_ble_eq_true rfl) dX7_init_53 (mkSh20 hA (fun a ha => (pu_z (by omega) (pu_z (by omega) (hP a (by omega)))))) ?_
  show Gc κ mX7_init (rmX 2 29 1850) (zX κ 31 P 29 1850) 21 1708 56 [some (vr 1)] [vr 20, vi 1, vr 16, vr 16, vr 1] 23 (pu (pu P 1 [2, 3, 5]) 16 [1, 2, 3])
  refine Gc.aast (len := 4) (i := 1) (.inl ⟨rfl, rfl, rfl, rfl⟩) (by decide +kernel) (by decide) (by decide) (by decide) rfl rfl (by decide +kernel) (by decide) (by decide +kernel) dX7_init_56 ?_
  show Gc κ mX7_init (rmX 2 29 1850) (zX κ 31 P 29 1850) 21 1708 57 [some (vr 1)] [vr 16, vr 1] 23 (pu (pu P 1 [2, 3, 5]) 16 [2, 3])
  refine Gc.dup dX7_init_57 ?_
  show Gc κ mX7_init (rmX 2 29 1850) (zX κ 31 P 29 1850) 21 1708 58 [some (vr 1)] [vr 16, vr 16, vr 1] 23 (pu (pu P 1 [2, 3, 5]) 16 [2, 3])
  refine Gc.iconst dX7_init_58 ?_
  show Gc κ mX7_init (rmX 2 29 1850) (zX κ 31 P 29 1850) 21 1708 59 [some (vr 1)] [vi 2, vr 16, vr 16, vr 1] 23 (pu (pu P 1 [2, 3, 5]) 16 [2, 3])
  refine Gc.new (c := 5) [4, 5] (by decide) (by decide +kernel) cl5 mnX7_20 rfl (by decide +kernel) (by decide +kernel) (cn' := 22) (sl' := 1714) rfl rfl (Nat.le_of_ble_eq_true rfl) (Nat.le_of_ble_eq_true rfl) dX7_init_59 ?_
  show Gc κ mX7_init (rmX 2 29 1850) (zX κ 31 P 29 1850) 22 1714 62 [some (vr 1)] [vr 23, vi 2, vr 16, vr 16, vr 1] 24 (pu (pu (pu P 1 [2, 3, 5]) 16 [2, 3]) 23 [4, 5])
  refine Gc.dup dX7_init_62 ?_
  show Gc κ mX7_init (rmX 2 29 1850) (zX κ 31 P 29 1850) 22 1714 63 [some (vr 1)] [vr 23, vr 23, vi 2, vr 16, vr 16, vr 1] 24 (pu (pu (pu P 1 [2, 3, 5]) 16 [2, 3]) 23 [4, 5])
  refine Gc.bipush dX7_init_63 (by decide) ?_
  show Gc κ mX7_init (rmX 2 29 1850) (zX κ 31 P 29 1850) 22 1714 65 [some (vr 1)] [vi 96, vr 23, vr 23, vi 2, vr 16, vr 16, vr 1] 24 (pu (pu (pu P 1 [2, 3, 5]) 16 [2, 3]) 23 [4, 5])
  refine Gc.iconst dX7_init_65 ?_
  show Gc κ mX7_init (rmX 2 29 1850) (zX κ 31 P 29 1850) 22 1714 66 [some (vr 1)] [vi 0, vi 96, vr 23, vr 23, vi 2, vr 16, vr 16, vr 1] 24 (pu (pu (pu P 1 [2, 3, 5]) 16 [2, 3]) 23 [4, 5])
  refine Gc.call [vi 96, vi 0] [vr 23, vi 2, vr 16, vr 16, vr 1] mcX7_24 rfl rfl (Nat.le_of_ble_eq_true rfl) ⟨(Nat.le_of_ble_eq_true rfl), (Nat.le_of_ble_eq_true rfl)⟩ (cn' := 24) (sl' := 1810) rfl rfl (Nat.le_of_ble_eq_true rfl) (Nat.le_of_ble_eq_true rfl) dX7_init_66 (mkSh23 hA (fun a ha => (pu_z (by omega) (pu_z (by omega) (hP a (by omega)))))) ?_
  show Gc κ mX7_init (rmX 2 29 1850) (zX κ 31 P 29 1850) 24 1810 69 [some (vr 1)] [vr 23, vi 2, vr 16, vr 16, vr 1] 26 (pu (pu P 1 [2, 3, 5]) 16 [2, 3])
  refine Gc.aast (len := 4) (i := 2) (.inl ⟨rfl, rfl, rfl, rfl⟩) (by decide +kernel) (by decide) (by decide) (by decide) rfl rfl (by decide +kernel) (by decide) (by decide +kernel) dX7_init_69 ?_
  show Gc κ mX7_init (rmX 2 29 1850) (zX κ 31 P 29 1850) 24 1810 70 [some (vr 1)] [vr 16, vr 1] 26 (pu (pu P 1 [2, 3, 5]) 16 [3])
  refine Gc.dup dX7_init_70 ?_
  show Gc κ mX7_init (rmX 2 29 1850) (zX κ 31 P 29 1850) 24 1810 71 [some (vr 1)] [vr 16, vr 16, vr 1] 26 (pu (pu P 1 [2, 3, 5]) 16 [3])
  refine Gc.iconst dX7_init_71 ?_
  show Gc κ mX7_init (rmX 2 29 1850) (zX κ 31 P 29 1850) 24 1810 72 [some (vr 1)] [vi 3, vr 16, vr 16, vr 1] 26 (pu (pu P 1 [2, 3, 5]) 16 [3])
  refine Gc.new (c := 5) [4, 5] (by decide) (by decide +kernel) cl5 mnX7_20 rfl (by decide +kernel) (by decide +kernel) (cn' := 25) (sl' := 1816) rfl rfl (Nat.le_of_ble_eq_true rfl) (Nat.le_of_ble_eq_true rfl) dX7_init_72 ?_
  show Gc κ mX7_init (rmX 2 29 1850) (zX κ 31 P 29 1850) 25 1816 75 [some (vr 1)] [vr 26, vi 3, vr 16, vr 16, vr 1] 27 (pu (pu (pu P 1 [2, 3, 5]) 16 [3]) 26 [4, 5])
  refine Gc.dup dX7_init_75 ?_
  show Gc κ mX7_init (rmX 2 29 1850) (zX κ 31 P 29 1850) 25 1816 76 [some (vr 1)] [vr 26, vr 26, vi 3, vr 16, vr 16, vr 1] 27 (pu (pu (pu P 1 [2, 3, 5]) 16 [3]) 26 [4, 5])
  refine Gc.bipush dX7_init_76 (by decide) ?_
  show Gc κ mX7_init (rmX 2 29 1850) (zX κ 31 P 29 1850) 25 1816 78 [some (vr 1)] [vi 16, vr 26, vr 26, vi 3, vr 16, vr 16, vr 1] 27 (pu (pu (pu P 1 [2, 3, 5]) 16 [3]) 26 [4, 5])
  refine Gc.iconst dX7_init_78 ?_
  show Gc κ mX7_init (rmX 2 29 1850) (zX κ 31 P 29 1850) 25 1816 79 [some (vr 1)] [vi 0, vi 16, vr 26, vr 26, vi 3, vr 16, vr 16, vr 1] 27 (pu (pu (pu P 1 [2, 3, 5]) 16 [3]) 26 [4, 5])
  refine Gc.call [vi 16, vi 0] [vr 26, vi 3, vr 16, vr 16, vr 1] mcX7_24 rfl rfl (Nat.le_of_ble_eq_true rfl) ⟨(Nat.le_of_ble_eq_true rfl), (Nat.le_of_ble_eq_true rfl)⟩ (cn' := 27) (sl' := 1832) rfl rfl (Nat.le_of_ble_eq_true rfl) (Nat.le_of_ble_eq_true rfl) dX7_init_79 (mkSh26 hA (fun a ha => (pu_z (by omega) (pu_z (by omega) (hP a (by omega)))))) ?_
  show Gc κ mX7_init (rmX 2 29 1850) (zX κ 31 P 29 1850) 27 1832 82 [some (vr 1)] [vr 26, vi 3, vr 16, vr 16, vr 1] 29 (pu (pu P 1 [2, 3, 5]) 16 [3])
  refine Gc.aast (len := 4) (i := 3) (.inl ⟨rfl, rfl, rfl, rfl⟩) (by decide +kernel) (by decide) (by decide) (by decide) rfl rfl (by decide +kernel) (by decide) (by decide +kernel) dX7_init_82 ?_
  show Gc κ mX7_init (rmX 2 29 1850) (zX κ 31 P 29 1850) 27 1832 83 [some (vr 1)] [vr 16, vr 1] 29 (pu (pu P 1 [2, 3, 5]) 16 [])
  refine Gc.fin (pu_z (by omega) (hP 16 (by omega))) ?_
  show Gc κ mX7_init (rmX 2 29 1850) (zX κ 31 P 29 1850) 27 1832 83 [some (vr 1)] [vr 16, vr 1] 29 (pu P 1 [2, 3, 5])
  refine Gc.put (c := 7) (j := 2) mfX7_27 cl7 (by decide +kernel) (by decide) (by decide) rfl (by decide +kernel) (nfR (by decide +kernel)) (fun _ => ⟨rfl, rfl⟩) dX7_init_83 ?_
  show Gc κ mX7_init (rmX 2 29 1850) (zX κ 31 P 29 1850) 27 1832 86 [some (vr 1)] [] 29 (pu P 1 [3, 5])
  refine Gc.aload 0 rfl rfl dX7_init_86 ?_
  show Gc κ mX7_init (rmX 2 29 1850) (zX κ 31 P 29 1850) 27 1832 87 [some (vr 1)] [vr 1] 29 (pu P 1 [3, 5])
  refine Gc.bipush dX7_init_87 (by decide) ?_
  show Gc κ mX7_init (rmX 2 29 1850) (zX κ 31 P 29 1850) 27 1832 89 [some (vr 1)] [vi 10, vr 1] 29 (pu P 1 [3, 5])
  refine Gc.arr0 (pu_z (by omega) (hP 29 (by omega))) (by decide) (by decide +kernel) rfl (fun j _ => s0Z (by decide +kernel) j) acI (cn' := 28) (sl' := 1842) rfl rfl (Nat.le_of_ble_eq_true rfl) (Nat.le_of_ble_eq_true rfl) dX7_init_89 ?_
  show Gc κ mX7_init (rmX 2 29 1850) (zX κ 31 P 29 1850) 28 1842 91 [some (vr 1)] [vr 29, vr 1] 30 (pu P 1 [3, 5])
  refine Gc.put (c := 7) (j := 3) mfX7_31 cl7 (by decide +kernel) (by decide) (by decide) rfl (by decide +kernel) (nfR (by decide +kernel)) (fun _ => ⟨rfl, rfl⟩) dX7_init_91 ?_
  show Gc κ mX7_init (rmX 2 29 1850) (zX κ 31 P 29 1850) 28 1842 94 [some (vr 1)] [] 30 (pu P 1 [5])
  refine Gc.aload 0 rfl rfl dX7_init_94 ?_
  show Gc κ mX7_init (rmX 2 29 1850) (zX κ 31 P 29 1850) 28 1842 95 [some (vr 1)] [vr 1] 30 (pu P 1 [5])
  refine Gc.bipush dX7_init_95 (by decide) ?_
  show Gc κ mX7_init (rmX 2 29 1850) (zX κ 31 P 29 1850) 28 1842 97 [some (vr 1)] [vi 8, vr 1] 30 (pu P 1 [5])
  refine Gc.arr0 (pu_z (by omega) (hP 30 (by omega))) (by decide) (by decide +kernel) rfl (fun j _ => s0Z (by decide +kernel) j) acI (cn' := 29) (sl' := 1850) rfl rfl (Nat.le_of_ble_eq_true rfl) (Nat.le_of_ble_eq_true rfl) dX7_init_97 ?_
  show Gc κ mX7_init (rmX 2 29 1850) (zX κ 31 P 29 1850) 29 1850 99 [some (vr 1)] [vr 30, vr 1] 31 (pu P 1 [5])
  refine Gc.put (c := 7) (j := 5) mfX7_34 cl7 (by decide +kernel) (by decide) (by decide) rfl (by decide +kernel) (nfR (by decide +kernel)) (fun _ => ⟨rfl, rfl⟩) dX7_init_99 ?_
  show Gc κ mX7_init (rmX 2 29 1850) (zX κ 31 P 29 1850) 29 1850 102 [some (vr 1)] [] 31 (pu P 1 [])
  refine Gc.fin (hP 1 (by omega)) ?_
  show Gc κ mX7_init (rmX 2 29 1850) (zX κ 31 P 29 1850) 29 1850 102 [some (vr 1)] [] 31 P
  exact Gc.ret rfl dX7_init_102
set_option maxRecDepth 100000 in
theorem mkWo31 {κ : Kx} (hA : ad κ) {P : Nat → List Nat} (hP : ∀ a, 31 ≤ a → P a = []) : ConX κ mX7_init 2 29 1850 [vr 31] 32 (pu P 31 [0, 1, 2, 3, 5]) 61 P := by
  refine conX_of (M := mX7_init) (by decide +kernel) hA (Nat.le_of_ble_eq_true rfl) 0 ?_
  show Gc κ mX7_init (rmX 2 29 1850) (zX κ 61 P 29 1850) 0 0 0 [some (vr 31)] [] 32 (pu P 31 [0, 1, 2, 3, 5])
  refine Gc.aload 0 rfl rfl dX7_init_0 ?_
  show Gc κ mX7_init (rmX 2 29 1850) (zX κ 61 P 29 1850) 0 0 1 [some (vr 31)] [vr 31] 32 (pu P 31 [0, 1, 2, 3, 5])
  refine Gc.obj moX7 ⟨(Nat.le_of_ble_eq_true rfl), (Nat.le_of_ble_eq_true rfl)⟩ (Nat.le_of_ble_eq_true rfl) dX7_init_1 ?_
  show Gc κ mX7_init (rmX 2 29 1850) (zX κ 61 P 29 1850) 0 0 4 [some (vr 31)] [] 32 (pu P 31 [0, 1, 2, 3, 5])
  refine Gc.aload 0 rfl rfl dX7_init_4 ?_
  show Gc κ mX7_init (rmX 2 29 1850) (zX κ 61 P 29 1850) 0 0 5 [some (vr 31)] [vr 31] 32 (pu P 31 [0, 1, 2, 3, 5])
  refine Gc.new (c := 6) [6, 7, 8, 9, 10, 11, 12, 13, 14, 15, 16, 17] (by decide) (by decide +kernel) cl6 mnX7_7 rfl (by decide +kernel) (by decide +kernel) (cn' := 1) (sl' := 18) rfl rfl (Nat.le_of_ble_eq_true rfl) (Nat.le_of_ble_eq_true rfl) dX7_init_5 ?_
  show Gc κ mX7_init (rmX 2 29 1850) (zX κ 61 P 29 1850) 1 18 8 [some (vr 31)] [vr 32, vr 31] 33 (pu (pu P 31 [0, 1, 2, 3, 5]) 32 [6, 7, 8, 9, 10, 11, 12, 13, 14, 15, 16, 17])
  refine Gc.dup dX7_init_8 ?_
  show Gc κ mX7_init (rmX 2 29 1850) (zX κ 61 P 29 1850) 1 18 9 [some (vr 31)] [vr 32, vr 32, vr 31] 33 (pu (pu P 31 [0, 1, 2, 3, 5]) 32 [6, 7, 8, 9, 10, 11, 12, 13, 14, 15, 16, 17])
  refine Gc.call [] [vr 32, vr 31] mcX7_9 rfl rfl (Nat.le_of_ble_eq_true rfl) ⟨(Nat.le_of_ble_eq_true rfl), (Nat.le_of_ble_eq_true rfl)⟩ (cn' := 13) (sl' := 564) rfl rfl (Nat.le_of_ble_eq_true rfl) (Nat.le_of_ble_eq_true rfl) dX7_init_9 (mkTa hA (k := 32) (by decide) (fun a ha => (pu_z (by omega) (hP a (by omega))))) ?_
  show Gc κ mX7_init (rmX 2 29 1850) (zX κ 61 P 29 1850) 13 564 12 [some (vr 31)] [vr 32, vr 31] 45 (pu P 31 [0, 1, 2, 3, 5])
  refine Gc.put (c := 7) (j := 0) mfX7_10 cl7 (by decide +kernel) (by decide) (by decide) rfl (by decide +kernel) (nfR (by decide +kernel)) (fun _ => ⟨rfl, rfl⟩) dX7_init_12 ?_
  show Gc κ mX7_init (rmX 2 29 1850) (zX κ 61 P 29 1850) 13 564 15 [some (vr 31)] [] 45 (pu P 31 [1, 2, 3, 5])
  refine Gc.aload 0 rfl rfl dX7_init_15 ?_
  show Gc κ mX7_init (rmX 2 29 1850) (zX κ 61 P 29 1850) 13 564 16 [some (vr 31)] [vr 31] 45 (pu P 31 [1, 2, 3, 5])
  refine Gc.sipush dX7_init_16 (by decide) ?_
  show Gc κ mX7_init (rmX 2 29 1850) (zX κ 61 P 29 1850) 13 564 19 [some (vr 31)] [vi 600, vr 31] 45 (pu P 31 [1, 2, 3, 5])
  refine Gc.arr0 (pu_z (by omega) (hP 45 (by omega))) (by decide) (by decide +kernel) rfl (fun j _ => s0Z (by decide +kernel) j) acI (cn' := 14) (sl' := 1164) rfl rfl (Nat.le_of_ble_eq_true rfl) (Nat.le_of_ble_eq_true rfl) dX7_init_19 ?_
  show Gc κ mX7_init (rmX 2 29 1850) (zX κ 61 P 29 1850) 14 1164 21 [some (vr 31)] [vr 45, vr 31] 46 (pu P 31 [1, 2, 3, 5])
  refine Gc.put (c := 7) (j := 1) mfX7_16 cl7 (by decide +kernel) (by decide) (by decide) rfl (by decide +kernel) (nfR (by decide +kernel)) (fun _ => ⟨rfl, rfl⟩) dX7_init_21 ?_
  show Gc κ mX7_init (rmX 2 29 1850) (zX κ 61 P 29 1850) 14 1164 24 [some (vr 31)] [] 46 (pu P 31 [2, 3, 5])
  refine Gc.aload 0 rfl rfl dX7_init_24 ?_
  show Gc κ mX7_init (rmX 2 29 1850) (zX κ 61 P 29 1850) 14 1164 25 [some (vr 31)] [vr 31] 46 (pu P 31 [2, 3, 5])
  refine Gc.iconst dX7_init_25 ?_
  show Gc κ mX7_init (rmX 2 29 1850) (zX κ 61 P 29 1850) 14 1164 26 [some (vr 31)] [vi 4, vr 31] 46 (pu P 31 [2, 3, 5])
  refine Gc.anew [0, 1, 2, 3] (.inl ⟨rfl, rfl, rfl, rfl⟩) (by decide) (by decide +kernel) rfl (by decide) maX7_20 (cn' := 15) (sl' := 1168) rfl rfl (Nat.le_of_ble_eq_true rfl) (Nat.le_of_ble_eq_true rfl) dX7_init_26 ?_
  show Gc κ mX7_init (rmX 2 29 1850) (zX κ 61 P 29 1850) 15 1168 29 [some (vr 31)] [vr 46, vr 31] 47 (pu (pu P 31 [2, 3, 5]) 46 [0, 1, 2, 3])
  refine Gc.dup dX7_init_29 ?_
  show Gc κ mX7_init (rmX 2 29 1850) (zX κ 61 P 29 1850) 15 1168 30 [some (vr 31)] [vr 46, vr 46, vr 31] 47 (pu (pu P 31 [2, 3, 5]) 46 [0, 1, 2, 3])
  refine Gc.iconst dX7_init_30 ?_
  show Gc κ mX7_init (rmX 2 29 1850) (zX κ 61 P 29 1850) 15 1168 31 [some (vr 31)] [vi 0, vr 46, vr 46, vr 31] 47 (pu (pu P 31 [2, 3, 5]) 46 [0, 1, 2, 3])
  refine Gc.new (c := 5) [4, 5] (by decide) (by decide +kernel) cl5 mnX7_20 rfl (by decide +kernel) (by decide +kernel) (cn' := 16) (sl' := 1174) rfl rfl (Nat.le_of_ble_eq_true rfl) (Nat.le_of_ble_eq_true rfl) dX7_init_31 ?_
  show Gc κ mX7_init (rmX 2 29 1850) (zX κ 61 P 29 1850) 16 1174 34 [some (vr 31)] [vr 47, vi 0, vr 46, vr 46, vr 31] 48 (pu (pu (pu P 31 [2, 3, 5]) 46 [0, 1, 2, 3]) 47 [4, 5])
  refine Gc.dup dX7_init_34 ?_
  show Gc κ mX7_init (rmX 2 29 1850) (zX κ 61 P 29 1850) 16 1174 35 [some (vr 31)] [vr 47, vr 47, vi 0, vr 46, vr 46, vr 31] 48 (pu (pu (pu P 31 [2, 3, 5]) 46 [0, 1, 2, 3]) 47 [4, 5])
  refine Gc.bipush dX7_init_35 (by decide) ?_
  show Gc κ mX7_init (rmX 2 29 1850) (zX κ 61 P 29 1850) 16 1174 37 [some (vr 31)] [vi 64, vr 47, vr 47, vi 0, vr 46, vr 46, vr 31] 48 (pu (pu (pu P 31 [2, 3, 5]) 46 [0, 1, 2, 3]) 47 [4, 5])
  refine Gc.sipush dX7_init_37 (by decide) ?_
  show Gc κ mX7_init (rmX 2 29 1850) (zX κ 61 P 29 1850) 16 1174 40 [some (vr 31)] [vi 400, vi 64, vr 47, vr 47, vi 0, vr 46, vr 46, vr 31] 48 (pu (pu (pu P 31 [2, 3, 5]) 46 [0, 1, 2, 3]) 47 [4, 5])
  refine Gc.call [vi 64, vi 400] [vr 47, vi 0, vr 46, vr 46, vr 31] mcX7_24 rfl rfl (Nat.le_of_ble_eq_true rfl) ⟨(Nat.le_of_ble_eq_true rfl), (Nat.le_of_ble_eq_true rfl)⟩ (cn' := 18) (sl' := 1638) rfl rfl (Nat.le_of_ble_eq_true rfl) (Nat.le_of_ble_eq_true rfl) dX7_init_40 (mkSh47 hA (fun a ha => (pu_z (by omega) (pu_z (by omega) (hP a (by omega)))))) ?_
  show Gc κ mX7_init (rmX 2 29 1850) (zX κ 61 P 29 1850) 18 1638 43 [some (vr 31)] [vr 47, vi 0, vr 46, vr 46, vr 31] 50 (pu (pu P 31 [2, 3, 5]) 46 [0, 1, 2, 3])
  refine Gc.aast (len := 4) (i := 0) (.inl ⟨rfl, rfl, rfl, rfl⟩) (by decide +kernel) (by decide) (by decide) (by decide) rfl rfl (by decide +kernel) (by decide) (by decide +kernel) dX7_init_43 ?_
  show Gc κ mX7_init (rmX 2 29 1850) (zX κ 61 P 29 1850) 18 1638 44 [some (vr 31)] [vr 46, vr 31] 50 (pu (pu P 31 [2, 3, 5]) 46 [1, 2, 3])
  refine Gc.dup dX7_init_44 ?_
  show Gc κ mX7_init (rmX 2 29 1850) (zX κ 61 P 29 1850) 18 1638 45 [some (vr 31)] [vr 46, vr 46, vr 31] 50 (pu (pu P 31 [2, 3, 5]) 46 [1, 2, 3])
  refine Gc.iconst dX7_init_45 ?_
  show Gc κ mX7_init (rmX 2 29 1850) (zX κ 61 P 29 1850) 18 1638 46 [some (vr 31)] [vi 1, vr 46, vr 46, vr 31] 50 (pu (pu P 31 [2, 3, 5]) 46 [1, 2, 3])
  refine Gc.new (c := 5) [4, 5] (by decide) (by decide +kernel) cl5 mnX7_20 rfl (by decide +kernel) (by decide +kernel) (cn' := 19) (sl' := 1644) rfl rfl (Nat.le_of_ble_eq_true rfl) (Nat.le_of_ble_eq_true rfl) dX7_init_46 ?_
  show Gc κ mX7_init (rmX 2 29 1850) (zX κ 61 P 29 1850) 19 1644 49 [some (vr 31)] [vr 50, vi 1, vr 46, vr 46, vr 31] 51 (pu (pu (pu P 31 [2, 3, 5]) 46 [1, 2, 3]) 50 [4, 5])
  refine Gc.dup dX7_init_49 ?_
  show Gc κ mX7_init (rmX 2 29 1850) (zX κ 61 P 29 1850) 19 1644 50 [some (vr 31)] [vr 50, vr 50, vi 1, vr 46, vr 46, vr 31] 51 (pu (pu (pu P 31 [2, 3, 5]) 46 [1, 2, 3]) 50 [4, 5])
  refine Gc.bipush dX7_init_50 (by decide) ?_
  show Gc κ mX7_init (rmX 2 29 1850) (zX κ 61 P 29 1850) 19 1644 52 [some (vr 31)] [vi 64, vr 50, vr 50, vi 1, vr 46, vr 46, vr 31] 51 (pu (pu (pu P 31 [2, 3, 5]) 46 [1, 2, 3]) 50 [4, 5])
  refine Gc.iconst dX7_init_52 ?_
  show Gc κ mX7_init (rmX 2 29 1850) (zX κ 61 P 29 1850) 19 1644 53 [some (vr 31)] [vi 0, vi 64, vr 50, vr 50, vi 1, vr 46, vr 46, vr 31] 51 (pu (pu (pu P 31 [2, 3, 5]) 46 [1, 2, 3]) 50 [4, 5])
  refine Gc.call [vi 64, vi 0] [vr 50, vi 1, vr 46, vr 46, vr 31] mcX7_24 rfl rfl (Nat.le_of_ble_eq_true rfl) ⟨(Nat.le_of_ble_eq_true rfl), (Nat.le_of_ble_eq_true rfl)⟩ (cn' := 21) (sl' := 1708) rfl rfl (Nat.le_of_ble_eq_true rfl) (Nat.le_of_ble_eq_true rfl) dX7_init_53 (mkSh50 hA (fun a ha => (pu_z (by omega) (pu_z (by omega) (hP a (by omega)))))) ?_
  show Gc κ mX7_init (rmX 2 29 1850) (zX κ 61 P 29 1850) 21 1708 56 [some (vr 31)] [vr 50, vi 1, vr 46, vr 46, vr 31] 53 (pu (pu P 31 [2, 3, 5]) 46 [1, 2, 3])
  refine Gc.aast (len := 4) (i := 1) (.inl ⟨rfl, rfl, rfl, rfl⟩) (by decide +kernel) (by decide) (by decide) (by decide) rfl rfl (by decide +kernel) (by decide) (by decide +kernel) dX7_init_56 ?_
  show Gc κ mX7_init (rmX 2 29 1850) (zX κ 61 P 29 1850) 21 1708 57 [some (vr 31)] [vr 46, vr 31] 53 (pu (pu P 31 [2, 3, 5]) 46 [2, 3])
  refine Gc.dup dX7_init_57 ?_
  show Gc κ mX7_init (rmX 2 29 1850) (zX κ 61 P 29 1850) 21 1708 58 [some (vr 31)] [vr 46, vr 46, vr 31] 53 (pu (pu P 31 [2, 3, 5]) 46 [2, 3])
  refine Gc.iconst dX7_init_58 ?_
  show Gc κ mX7_init (rmX 2 29 1850) (zX κ 61 P 29 1850) 21 1708 59 [some (vr 31)] [vi 2, vr 46, vr 46, vr 31] 53 (pu (pu P 31 [2, 3, 5]) 46 [2, 3])
  refine Gc.new (c := 5) [4, 5] (by decide) (by decide +kernel) cl5 mnX7_20 rfl (by decide +kernel) (by decide +kernel) (cn' := 22) (sl' := 1714) rfl rfl (Nat.le_of_ble_eq_true rfl) (Nat.le_of_ble_eq_true rfl) dX7_init_59 ?_
  show Gc κ mX7_init (rmX 2 29 1850) (zX κ 61 P 29 1850) 22 1714 62 [some (vr 31)] [vr 53, vi 2, vr 46, vr 46, vr 31] 54 (pu (pu (pu P 31 [2, 3, 5]) 46 [2, 3]) 53 [4, 5])
  refine Gc.dup dX7_init_62 ?_
  show Gc κ mX7_init (rmX 2 29 1850) (zX κ 61 P 29 1850) 22 1714 63 [some (vr 31)] [vr 53, vr 53, vi 2, vr 46, vr 46, vr 31] 54 (pu (pu (pu P 31 [2, 3, 5]) 46 [2, 3]) 53 [4, 5])
  refine Gc.bipush dX7_init_63 (by decide) ?_
  show Gc κ mX7_init (rmX 2 29 1850) (zX κ 61 P 29 1850) 22 1714 65 [some (vr 31)] [vi 96, vr 53, vr 53, vi 2, vr 46, vr 46, vr 31] 54 (pu (pu (pu P 31 [2, 3, 5]) 46 [2, 3]) 53 [4, 5])
  refine Gc.iconst dX7_init_65 ?_
  show Gc κ mX7_init (rmX 2 29 1850) (zX κ 61 P 29 1850) 22 1714 66 [some (vr 31)] [vi 0, vi 96, vr 53, vr 53, vi 2, vr 46, vr 46, vr 31] 54 (pu (pu (pu P 31 [2, 3, 5]) 46 [2, 3]) 53 [4, 5])
  refine Gc.call [vi 96, vi 0] [vr 53, vi 2, vr 46, vr 46, vr 31] mcX7_24 rfl rfl (Nat.le_of_ble_eq_true rfl) ⟨(Nat.le_of_ble_eq_true rfl), (Nat.le_of_ble_eq_true rfl)⟩ (cn' := 24) (sl' := 1810) rfl rfl (Nat.le_of_ble_eq_true rfl) (Nat.le_of_ble_eq_true rfl) dX7_init_66 (mkSh53 hA (fun a ha => (pu_z (by omega) (pu_z (by omega) (hP a (by omega)))))) ?_
  show Gc κ mX7_init (rmX 2 29 1850) (zX κ 61 P 29 1850) 24 1810 69 [some (vr 31)] [vr 53, vi 2, vr 46, vr 46, vr 31] 56 (pu (pu P 31 [2, 3, 5]) 46 [2, 3])
  refine Gc.aast (len := 4) (i := 2) (.inl ⟨rfl, rfl, rfl, rfl⟩) (by decide +kernel) (by decide) (by decide) (by decide) rfl rfl (by decide +kernel) (by decide) (by decide +kernel) dX7_init_69 ?_
  show Gc κ mX7_init (rmX 2 29 1850) (zX κ 61 P 29 1850) 24 1810 70 [some (vr 31)] [vr 46, vr 31] 56 (pu (pu P 31 [2, 3, 5]) 46 [3])
  refine Gc.dup dX7_init_70 ?_
  show Gc κ mX7_init (rmX 2 29 1850) (zX κ 61 P 29 1850) 24 1810 71 [some (vr 31)] [vr 46, vr 46, vr 31] 56 (pu (pu P 31 [2, 3, 5]) 46 [3])
  refine Gc.iconst dX7_init_71 ?_
  show Gc κ mX7_init (rmX 2 29 1850) (zX κ 61 P 29 1850) 24 1810 72 [some (vr 31)] [vi 3, vr 46, vr 46, vr 31] 56 (pu (pu P 31 [2, 3, 5]) 46 [3])
  refine Gc.new (c := 5) [4, 5] (by decide) (by decide +kernel) cl5 mnX7_20 rfl (by decide +kernel) (by decide +kernel) (cn' := 25) (sl' := 1816) rfl rfl (Nat.le_of_ble_eq_true rfl) (Nat.le_of_ble_eq_true rfl) dX7_init_72 ?_
  show Gc κ mX7_init (rmX 2 29 1850) (zX κ 61 P 29 1850) 25 1816 75 [some (vr 31)] [vr 56, vi 3, vr 46, vr 46, vr 31] 57 (pu (pu (pu P 31 [2, 3, 5]) 46 [3]) 56 [4, 5])
  refine Gc.dup dX7_init_75 ?_
  show Gc κ mX7_init (rmX 2 29 1850) (zX κ 61 P 29 1850) 25 1816 76 [some (vr 31)] [vr 56, vr 56, vi 3, vr 46, vr 46, vr 31] 57 (pu (pu (pu P 31 [2, 3, 5]) 46 [3]) 56 [4, 5])
  refine Gc.bipush dX7_init_76 (by decide) ?_
  show Gc κ mX7_init (rmX 2 29 1850) (zX κ 61 P 29 1850) 25 1816 78 [some (vr 31)] [vi 16, vr 56, vr 56, vi 3, vr 46, vr 46, vr 31] 57 (pu (pu (pu P 31 [2, 3, 5]) 46 [3]) 56 [4, 5])
  refine Gc.iconst dX7_init_78 ?_
  show Gc κ mX7_init (rmX 2 29 1850) (zX κ 61 P 29 1850) 25 1816 79 [some (vr 31)] [vi 0, vi 16, vr 56, vr 56, vi 3, vr 46, vr 46, vr 31] 57 (pu (pu (pu P 31 [2, 3, 5]) 46 [3]) 56 [4, 5])
  refine Gc.call [vi 16, vi 0] [vr 56, vi 3, vr 46, vr 46, vr 31] mcX7_24 rfl rfl (Nat.le_of_ble_eq_true rfl) ⟨(Nat.le_of_ble_eq_true rfl), (Nat.le_of_ble_eq_true rfl)⟩ (cn' := 27) (sl' := 1832) rfl rfl (Nat.le_of_ble_eq_true rfl) (Nat.le_of_ble_eq_true rfl) dX7_init_79 (mkSh56 hA (fun a ha => (pu_z (by omega) (pu_z (by omega) (hP a (by omega)))))) ?_
  show Gc κ mX7_init (rmX 2 29 1850) (zX κ 61 P 29 1850) 27 1832 82 [some (vr 31)] [vr 56, vi 3, vr 46, vr 46, vr 31] 59 (pu (pu P 31 [2, 3, 5]) 46 [3])
  refine Gc.aast (len := 4) (i := 3) (.inl ⟨rfl, rfl, rfl, rfl⟩) (by decide +kernel) (by decide) (by decide) (by decide) rfl rfl (by decide +kernel) (by decide) (by decide +kernel) dX7_init_82 ?_
  show Gc κ mX7_init (rmX 2 29 1850) (zX κ 61 P 29 1850) 27 1832 83 [some (vr 31)] [vr 46, vr 31] 59 (pu (pu P 31 [2, 3, 5]) 46 [])
  refine Gc.fin (pu_z (by omega) (hP 46 (by omega))) ?_
  show Gc κ mX7_init (rmX 2 29 1850) (zX κ 61 P 29 1850) 27 1832 83 [some (vr 31)] [vr 46, vr 31] 59 (pu P 31 [2, 3, 5])
  refine Gc.put (c := 7) (j := 2) mfX7_27 cl7 (by decide +kernel) (by decide) (by decide) rfl (by decide +kernel) (nfR (by decide +kernel)) (fun _ => ⟨rfl, rfl⟩) dX7_init_83 ?_
  show Gc κ mX7_init (rmX 2 29 1850) (zX κ 61 P 29 1850) 27 1832 86 [some (vr 31)] [] 59 (pu P 31 [3, 5])
  refine Gc.aload 0 rfl rfl dX7_init_86 ?_
  show Gc κ mX7_init (rmX 2 29 1850) (zX κ 61 P 29 1850) 27 1832 87 [some (vr 31)] [vr 31] 59 (pu P 31 [3, 5])
  refine Gc.bipush dX7_init_87 (by decide) ?_
  show Gc κ mX7_init (rmX 2 29 1850) (zX κ 61 P 29 1850) 27 1832 89 [some (vr 31)] [vi 10, vr 31] 59 (pu P 31 [3, 5])
  refine Gc.arr0 (pu_z (by omega) (hP 59 (by omega))) (by decide) (by decide +kernel) rfl (fun j _ => s0Z (by decide +kernel) j) acI (cn' := 28) (sl' := 1842) rfl rfl (Nat.le_of_ble_eq_true rfl) (Nat.le_of_ble_eq_true rfl) dX7_init_89 ?_
  show Gc κ mX7_init (rmX 2 29 1850) (zX κ 61 P 29 1850) 28 1842 91 [some (vr 31)] [vr 59, vr 31] 60 (pu P 31 [3, 5])
  refine Gc.put (c := 7) (j := 3) mfX7_31 cl7 (by decide +kernel) (by decide) (by decide) rfl (by decide +kernel) (nfR (by decide +kernel)) (fun _ => ⟨rfl, rfl⟩) dX7_init_91 ?_
  show Gc κ mX7_init (rmX 2 29 1850) (zX κ 61 P 29 1850) 28 1842 94 [some (vr 31)] [] 60 (pu P 31 [5])
  refine Gc.aload 0 rfl rfl dX7_init_94 ?_
  show Gc κ mX7_init (rmX 2 29 1850) (zX κ 61 P 29 1850) 28 1842 95 [some (vr 31)] [vr 31] 60 (pu P 31 [5])
  refine Gc.bipush dX7_init_95 (by decide) ?_
  show Gc κ mX7_init (rmX 2 29 1850) (zX κ 61 P 29 1850) 28 1842 97 [some (vr 31)] [vi 8, vr 31] 60 (pu P 31 [5])
  refine Gc.arr0 (pu_z (by omega) (hP 60 (by omega))) (by decide) (by decide +kernel) rfl (fun j _ => s0Z (by decide +kernel) j) acI (cn' := 29) (sl' := 1850) rfl rfl (Nat.le_of_ble_eq_true rfl) (Nat.le_of_ble_eq_true rfl) dX7_init_97 ?_
  show Gc κ mX7_init (rmX 2 29 1850) (zX κ 61 P 29 1850) 29 1850 99 [some (vr 31)] [vr 60, vr 31] 61 (pu P 31 [5])
  refine Gc.put (c := 7) (j := 5) mfX7_34 cl7 (by decide +kernel) (by decide) (by decide) rfl (by decide +kernel) (nfR (by decide +kernel)) (fun _ => ⟨rfl, rfl⟩) dX7_init_99 ?_
  show Gc κ mX7_init (rmX 2 29 1850) (zX κ 61 P 29 1850) 29 1850 102 [some (vr 31)] [] 61 (pu P 31 [])
  refine Gc.fin (hP 31 (by omega)) ?_
  show Gc κ mX7_init (rmX 2 29 1850) (zX κ 61 P 29 1850) 29 1850 102 [some (vr 31)] [] 61 P
  exact Gc.ret rfl dX7_init_102
set_option maxRecDepth 100000 in
theorem mkPa {κ : Kx} (hA : ad κ) {P : Nat → List Nat} (hP : ∀ a, 61 ≤ a → P a = []) : ConX κ mX3_init 2 79 3390 [vr 61] 62 (pu P 61 [0]) 141 P := by
  refine conX_of (M := mX3_init) (by decide +kernel) hA (Nat.le_of_ble_eq_true rfl) 1 ?_
  show Gc κ mX3_init (rmX 2 79 3390) (zX κ 141 P 79 3390) 0 0 0 [some (vr 61), none] [] 62 (pu P 61 [0])
  refine Gc.aload 0 rfl rfl dX3_init_0 ?_
  show Gc κ mX3_init (rmX 2 79 3390) (zX κ 141 P 79 3390) 0 0 1 [some (vr 61), none] [vr 61] 62 (pu P 61 [0])
  refine Gc.obj moX3 ⟨(Nat.le_of_ble_eq_true rfl), (Nat.le_of_ble_eq_true rfl)⟩ (Nat.le_of_ble_eq_true rfl) dX3_init_1 ?_
  show Gc κ mX3_init (rmX 2 79 3390) (zX κ 141 P 79 3390) 0 0 4 [some (vr 61), none] [] 62 (pu P 61 [0])
  refine Gc.aload 0 rfl rfl dX3_init_4 ?_
  show Gc κ mX3_init (rmX 2 79 3390) (zX κ 141 P 79 3390) 0 0 5 [some (vr 61), none] [vr 61] 62 (pu P 61 [0])
  refine Gc.bipush dX3_init_5 (by decide) ?_
  show Gc κ mX3_init (rmX 2 79 3390) (zX κ 141 P 79 3390) 0 0 7 [some (vr 61), none] [vi 6, vr 61] 62 (pu P 61 [0])
  refine Gc.anew [0, 1, 2, 3, 4, 5] (.inr ⟨rfl, rfl, rfl, rfl⟩) (by decide) (by decide +kernel) rfl (by decide) maX3_9 (cn' := 1) (sl' := 6) rfl rfl (Nat.le_of_ble_eq_true rfl) (Nat.le_of_ble_eq_true rfl) dX3_init_7 ?_
  show Gc κ mX3_init (rmX 2 79 3390) (zX κ 141 P 79 3390) 1 6 10 [some (vr 61), none] [vr 62, vr 61] 63 (pu (pu P 61 [0]) 62 [0, 1, 2, 3, 4, 5])
  refine Gc.comm (by decide) ?_
  show Gc κ mX3_init (rmX 2 79 3390) (zX κ 141 P 79 3390) 1 6 10 [some (vr 61), none] [vr 62, vr 61] 63 (pu (pu P 62 [0, 1, 2, 3, 4, 5]) 61 [0])
  refine Gc.put (c := 3) (j := 0) mfX3_11 cl3 (by decide +kernel) (by decide) (by decide) rfl (by decide +kernel) (nfR (by decide +kernel)) (fun _ => ⟨rfl, rfl⟩) dX3_init_10 ?_
  show Gc κ mX3_init (rmX 2 79 3390) (zX κ 141 P 79 3390) 1 6 13 [some (vr 61), none] [] 63 (pu (pu P 62 [0, 1, 2, 3, 4, 5]) 61 [])
  refine Gc.fin (pu_z (by omega) (hP 61 (by omega))) ?_
  show Gc κ mX3_init (rmX 2 79 3390) (zX κ 141 P 79 3390) 1 6 13 [some (vr 61), none] [] 63 (pu P 62 [0, 1, 2, 3, 4, 5])
  refine Gc.iconst dX3_init_13 ?_
  show Gc κ mX3_init (rmX 2 79 3390) (zX κ 141 P 79 3390) 1 6 14 [some (vr 61), none] [vi 0] 63 (pu P 62 [0, 1, 2, 3, 4, 5])
  refine Gc.istore 1 rfl (by decide) rfl dX3_init_14 rfl ?_
  show Gc κ mX3_init (rmX 2 79 3390) (zX κ 141 P 79 3390) 1 6 15 [some (vr 61), some (vi 0)] [] 63 (pu P 62 [0, 1, 2, 3, 4, 5])
  refine Gc.iload 1 rfl rfl dX3_init_15 ?_
  show Gc κ mX3_init (rmX 2 79 3390) (zX κ 141 P 79 3390) 1 6 16 [some (vr 61), some (vi 0)] [vi 0] 63 (pu P 62 [0, 1, 2, 3, 4, 5])
  refine Gc.bipush dX3_init_16 (by decide) ?_
  show Gc κ mX3_init (rmX 2 79 3390) (zX κ 141 P 79 3390) 1 6 18 [some (vr 61), some (vi 0)] [vi 6, vi 0] 63 (pu P 62 [0, 1, 2, 3, 4, 5])
  refine Gc.icmp_ge dX3_init_18 ⟨by decide, by decide⟩ (tgt := 40) (by decide) (fun z => absurd z (by decide)) (fun _ => ?_)
  show Gc κ mX3_init (rmX 2 79 3390) (zX κ 141 P 79 3390) 1 6 21 [some (vr 61), some (vi 0)] [] 63 (pu P 62 [0, 1, 2, 3, 4, 5])
  refine Gc.aload 0 rfl rfl dX3_init_21 ?_
  show Gc κ mX3_init (rmX 2 79 3390) (zX κ 141 P 79 3390) 1 6 22 [some (vr 61), some (vi 0)] [vr 61] 63 (pu P 62 [0, 1, 2, 3, 4, 5])
  refine Gc.get (x := vr 62) (c := 3) (j := 0) mfX3_11 cl3 (by decide +kernel) (by decide) (by rw [pu_ne (by decide), hP 61 (by decide)]; rfl) (by decide +kernel) dX3_init_22 ?_
  show Gc κ mX3_init (rmX 2 79 3390) (zX κ 141 P 79 3390) 1 6 25 [some (vr 61), some (vi 0)] [vr 62] 63 (pu P 62 [0, 1, 2, 3, 4, 5])
  refine Gc.iload 1 rfl rfl dX3_init_25 ?_
  show Gc κ mX3_init (rmX 2 79 3390) (zX κ 141 P 79 3390) 1 6 26 [some (vr 61), some (vi 0)] [vi 0, vr 62] 63 (pu P 62 [0, 1, 2, 3, 4, 5])
  refine Gc.new (c := 6) [6, 7, 8, 9, 10, 11, 12, 13, 14, 15, 16, 17] (by decide) (by decide +kernel) cl6 mnX3_9 rfl (by decide +kernel) (by decide +kernel) (cn' := 2) (sl' := 24) rfl rfl (Nat.le_of_ble_eq_true rfl) (Nat.le_of_ble_eq_true rfl) dX3_init_26 ?_
  show Gc κ mX3_init (rmX 2 79 3390) (zX κ 141 P 79 3390) 2 24 29 [some (vr 61), some (vi 0)] [vr 63, vi 0, vr 62] 64 (pu (pu P 62 [0, 1, 2, 3, 4, 5]) 63 [6, 7, 8, 9, 10, 11, 12, 13, 14, 15, 16, 17])
  refine Gc.dup dX3_init_29 ?_
  show Gc κ mX3_init (rmX 2 79 3390) (zX κ 141 P 79 3390) 2 24 30 [some (vr 61), some (vi 0)] [vr 63, vr 63, vi 0, vr 62] 64 (pu (pu P 62 [0, 1, 2, 3, 4, 5]) 63 [6, 7, 8, 9, 10, 11, 12, 13, 14, 15, 16, 17])
  refine Gc.call [] [vr 63, vi 0, vr 62] mcX3_15 rfl rfl (Nat.le_of_ble_eq_true rfl) ⟨(Nat.le_of_ble_eq_true rfl), (Nat.le_of_ble_eq_true rfl)⟩ (cn' := 14) (sl' := 570) rfl rfl (Nat.le_of_ble_eq_true rfl) (Nat.le_of_ble_eq_true rfl) dX3_init_30 (mkTa hA (k := 63) (by decide) (fun a ha => (pu_z (by omega) (hP a (by omega))))) ?_
  show Gc κ mX3_init (rmX 2 79 3390) (zX κ 141 P 79 3390) 14 570 33 [some (vr 61), some (vi 0)] [vr 63, vi 0, vr 62] 76 (pu P 62 [0, 1, 2, 3, 4, 5])
  refine Gc.aast (len := 6) (i := 0) (.inr ⟨rfl, rfl, rfl, rfl⟩) (by decide +kernel) (by decide) (by decide) (by decide) rfl rfl (by decide +kernel) (by decide) (by decide +kernel) dX3_init_33 ?_
  show Gc κ mX3_init (rmX 2 79 3390) (zX κ 141 P 79 3390) 14 570 34 [some (vr 61), some (vi 0)] [] 76 (pu P 62 [1, 2, 3, 4, 5])
  refine Gc.iinc 1 rfl (by decide) rfl dX3_init_34 rfl ?_
  show Gc κ mX3_init (rmX 2 79 3390) (zX κ 141 P 79 3390) 14 570 37 [some (vr 61), some (vi 1)] [] 76 (pu P 62 [1, 2, 3, 4, 5])
  refine Gc.goto (tgt := 15) dX3_init_37 (by decide) ?_
  show Gc κ mX3_init (rmX 2 79 3390) (zX κ 141 P 79 3390) 14 570 15 [some (vr 61), some (vi 1)] [] 76 (pu P 62 [1, 2, 3, 4, 5])
  refine Gc.iload 1 rfl rfl dX3_init_15 ?_
  show Gc κ mX3_init (rmX 2 79 3390) (zX κ 141 P 79 3390) 14 570 16 [some (vr 61), some (vi 1)] [vi 1] 76 (pu P 62 [1, 2, 3, 4, 5])
  refine Gc.bipush dX3_init_16 (by decide) ?_
  show Gc κ mX3_init (rmX 2 79 3390) (zX κ 141 P 79 3390) 14 570 18 [some (vr 61), some (vi 1)] [vi 6, vi 1] 76 (pu P 62 [1, 2, 3, 4, 5])
  refine Gc.icmp_ge dX3_init_18 ⟨by decide, by decide⟩ (tgt := 40) (by decide) (fun z => absurd z (by decide)) (fun _ => ?_)
  show Gc κ mX3_init (rmX 2 79 3390) (zX κ 141 P 79 3390) 14 570 21 [some (vr 61), some (vi 1)] [] 76 (pu P 62 [1, 2, 3, 4, 5])
  refine Gc.aload 0 rfl rfl dX3_init_21 ?_
  show Gc κ mX3_init (rmX 2 79 3390) (zX κ 141 P 79 3390) 14 570 22 [some (vr 61), some (vi 1)] [vr 61] 76 (pu P 62 [1, 2, 3, 4, 5])
  refine Gc.get (x := vr 62) (c := 3) (j := 0) mfX3_11 cl3 (by decide +kernel) (by decide) (by rw [pu_ne (by decide), hP 61 (by decide)]; rfl) (by decide +kernel) dX3_init_22 ?_
  show Gc κ mX3_init (rmX 2 79 3390) (zX κ 141 P 79 3390) 14 570 25 [some (vr 61), some (vi 1)] [vr 62] 76 (pu P 62 [1, 2, 3, 4, 5])
  refine Gc.iload 1 rfl rfl dX3_init_25 ?_
  show Gc κ mX3_init (rmX 2 79 3390) (zX κ 141 P 79 3390) 14 570 26 [some (vr 61), some (vi 1)] [vi 1, vr 62] 76 (pu P 62 [1, 2, 3, 4, 5])
  refine Gc.new (c := 6) [6, 7, 8, 9, 10, 11, 12, 13, 14, 15, 16, 17] (by decide) (by decide +kernel) cl6 mnX3_9 rfl (by decide +kernel) (by decide +kernel) (cn' := 15) (sl' := 588) rfl rfl (Nat.le_of_ble_eq_true rfl) (Nat.le_of_ble_eq_true rfl) dX3_init_26 ?_
  show Gc κ mX3_init (rmX 2 79 3390) (zX κ 141 P 79 3390) 15 588 29 [some (vr 61), some (vi 1)] [vr 76, vi 1, vr 62] 77 (pu (pu P 62 [1, 2, 3, 4, 5]) 76 [6, 7, 8, 9, 10, 11, 12, 13, 14, 15, 16, 17])
  refine Gc.dup dX3_init_29 ?_
  show Gc κ mX3_init (rmX 2 79 3390) (zX κ 141 P 79 3390) 15 588 30 [some (vr 61), some (vi 1)] [vr 76, vr 76, vi 1, vr 62] 77 (pu (pu P 62 [1, 2, 3, 4, 5]) 76 [6, 7, 8, 9, 10, 11, 12, 13, 14, 15, 16, 17])
  refine Gc.call [] [vr 76, vi 1, vr 62] mcX3_15 rfl rfl (Nat.le_of_ble_eq_true rfl) ⟨(Nat.le_of_ble_eq_true rfl), (Nat.le_of_ble_eq_true rfl)⟩ (cn' := 27) (sl' := 1134) rfl rfl (Nat.le_of_ble_eq_true rfl) (Nat.le_of_ble_eq_true rfl) dX3_init_30 (mkTa hA (k := 76) (by decide) (fun a ha => (pu_z (by omega) (hP a (by omega))))) ?_
  show Gc κ mX3_init (rmX 2 79 3390) (zX κ 141 P 79 3390) 27 1134 33 [some (vr 61), some (vi 1)] [vr 76, vi 1, vr 62] 89 (pu P 62 [1, 2, 3, 4, 5])
  refine Gc.aast (len := 6) (i := 1) (.inr ⟨rfl, rfl, rfl, rfl⟩) (by decide +kernel) (by decide) (by decide) (by decide) rfl rfl (by decide +kernel) (by decide) (by decide +kernel) dX3_init_33 ?_
  show Gc κ mX3_init (rmX 2 79 3390) (zX κ 141 P 79 3390) 27 1134 34 [some (vr 61), some (vi 1)] [] 89 (pu P 62 [2, 3, 4, 5])
  refine Gc.iinc 1 rfl (by decide) rfl dX3_init_34 rfl ?_
  show Gc κ mX3_init (rmX 2 79 3390) (zX κ 141 P 79 3390) 27 1134 37 [some (vr 61), some (vi 2)] [] 89 (pu P 62 [2, 3, 4, 5])
  refine Gc.goto (tgt := 15) dX3_init_37 (by decide) ?_
  show Gc κ mX3_init (rmX 2 79 3390) (zX κ 141 P 79 3390) 27 1134 15 [some (vr 61), some (vi 2)] [] 89 (pu P 62 [2, 3, 4, 5])
  refine Gc.iload 1 rfl rfl dX3_init_15 ?_
  show Gc κ mX3_init (rmX 2 79 3390) (zX κ 141 P 79 3390) 27 1134 16 [some (vr 61), some (vi 2)] [vi 2] 89 (pu P 62 [2, 3, 4, 5])
  refine Gc.bipush dX3_init_16 (by decide) ?_
  show Gc κ mX3_init (rmX 2 79 3390) (zX κ 141 P 79 3390) 27 1134 18 [some (vr 61), some (vi 2)] [vi 6, vi 2] 89 (pu P 62 [2, 3, 4, 5])
  refine Gc.icmp_ge dX3_init_18 ⟨by decide, by decide⟩ (tgt := 40) (by decide) (fun z => absurd z (by decide)) (fun _ => ?_)
  show Gc κ mX3_init (rmX 2 79 3390) (zX κ 141 P 79 3390) 27 1134 21 [some (vr 61), some (vi 2)] [] 89 (pu P 62 [2, 3, 4, 5])
  refine Gc.aload 0 rfl rfl dX3_init_21 ?_
  show Gc κ mX3_init (rmX 2 79 3390) (zX κ 141 P 79 3390) 27 1134 22 [some (vr 61), some (vi 2)] [vr 61] 89 (pu P 62 [2, 3, 4, 5])
  refine Gc.get (x := vr 62) (c := 3) (j := 0) mfX3_11 cl3 (by decide +kernel) (by decide) (by rw [pu_ne (by decide), hP 61 (by decide)]; rfl) (by decide +kernel) dX3_init_22 ?_
  show Gc κ mX3_init (rmX 2 79 3390) (zX κ 141 P 79 3390) 27 1134 25 [some (vr 61), some (vi 2)] [vr 62] 89 (pu P 62 [2, 3, 4, 5])
  refine Gc.iload 1 rfl rfl dX3_init_25 ?_
  show Gc κ mX3_init (rmX 2 79 3390) (zX κ 141 P 79 3390) 27 1134 26 [some (vr 61), some (vi 2)] [vi 2, vr 62] 89 (pu P 62 [2, 3, 4, 5])
  refine Gc.new (c := 6) [6, 7, 8, 9, 10, 11, 12, 13, 14, 15, 16, 17] (by decide) (by decide +kernel) cl6 mnX3_9 rfl (by decide +kernel) (by decide +kernel) (cn' := 28) (sl' := 1152) rfl rfl (Nat.le_of_ble_eq_true rfl) (Nat.le_of_ble_eq_true rfl) dX3_init_26 ?_
  show Gc κ mX3_init (rmX 2 79 3390) (zX κ 141 P 79 3390) 28 1152 29 [some (vr 61), some (vi 2)] [vr 89, vi 2, vr 62] 90 (pu (pu P 62 [2, 3, 4, 5]) 89 [6, 7, 8, 9, 10, 11, 12, 13, 14, 15, 16, 17])
  refine Gc.dup dX3_init_29 ?_
  show Gc κ mX3_init (rmX 2 79 3390) (zX κ 141 P 79 3390) 28 1152 30 [some (vr 61), some (vi 2)] [vr 89, vr 89, vi 2, vr 62] 90 (pu (pu P 62 [2, 3, 4, 5]) 89 [6, 7, 8, 9, 10, 11, 12, 13, 14, 15, 16, 17])
  refine Gc.call [] [vr 89, vi 2, vr 62] mcX3_15 rfl rfl (Nat.le_of_ble_eq_true rfl) ⟨(Nat.le_of_ble_eq_true rfl), (Nat.le_of_ble_eq_true rfl)⟩ (cn' := 40) (sl' := 1698) rfl rfl (Nat.le_of_ble_eq_true rfl) (Nat.le_of_ble_eq_true rfl) dX3_init_30 (mkTa hA (k := 89) (by decide) (fun a ha => (pu_z (by omega) (hP a (by omega))))) ?_
  show Gc κ mX3_init (rmX 2 79 3390) (zX κ 141 P 79 3390) 40 1698 33 [some (vr 61), some (vi 2)] [vr 89, vi 2, vr 62] 102 (pu P 62 [2, 3, 4, 5])
  refine Gc.aast (len := 6) (i := 2) (.inr ⟨rfl, rfl, rfl, rfl⟩) (by decide +kernel) (by decide) (by decide) (by decide) rfl rfl (by decide +kernel) (by decide) (by decide +kernel) dX3_init_33 ?_
  show Gc κ mX3_init (rmX 2 79 3390) (zX κ 141 P 79 3390) 40 1698 34 [some (vr 61), some (vi 2)] [] 102 (pu P 62 [3, 4, 5])
  refine Gc.iinc 1 rfl (by decide) rfl dX3_init_34 rfl ?_
  show Gc κ mX3_init (rmX 2 79 3390) (zX κ 141 P 79 3390) 40 1698 37 [some (vr 61), some (vi 3)] [] 102 (pu P 62 [3, 4, 5])
  refine Gc.goto (tgt := 15) dX3_init_37 (by decide) ?_
  show Gc κ mX3_init (rmX 2 79 3390) (zX κ 141 P 79 3390) 40 1698 15 [some (vr 61), some (vi 3)] [] 102 (pu P 62 [3, 4, 5])
  refine Gc.iload 1 rfl rfl dX3_init_15 ?_
  show Gc κ mX3_init (rmX 2 79 3390) (zX κ 141 P 79 3390) 40 1698 16 [some (vr 61), some (vi 3)] [vi 3] 102 (pu P 62 [3, 4, 5])
  refine Gc.bipush dX3_init_16 (by decide) ?_
  show Gc κ mX3_init (rmX 2 79 3390) (zX κ 141 P 79 3390) 40 1698 18 [some (vr 61), some (vi 3)] [vi 6, vi 3] 102 (pu P 62 [3, 4, 5])
  refine Gc.icmp_ge dX3_init_18 ⟨by decide, by decide⟩ (tgt := 40) (by decide) (fun z => absurd z (by decide)) (fun _ => ?_)
  show Gc κ mX3_init (rmX 2 79 3390) (zX κ 141 P 79 3390) 40 1698 21 [some (vr 61), some (vi 3)] [] 102 (pu P 62 [3, 4, 5])
  refine Gc.aload 0 rfl rfl dX3_init_21 ?_
  show Gc κ mX3_init (rmX 2 79 3390) (zX κ 141 P 79 3390) 40 1698 22 [some (vr 61), some (vi 3)] [vr 61] 102 (pu P 62 [3, 4, 5])
  refine Gc.get (x := vr 62) (c := 3) (j := 0) mfX3_11 cl3 (by decide +kernel) (by decide) (by rw [pu_ne (by decide), hP 61 (by decide)]; rfl) (by decide +kernel) dX3_init_22 ?_
  show Gc κ mX3_init (rmX 2 79 3390) (zX κ 141 P 79 3390) 40 1698 25 [some (vr 61), some (vi 3)] [vr 62] 102 (pu P 62 [3, 4, 5])
  refine Gc.iload 1 rfl rfl dX3_init_25 ?_
  show Gc κ mX3_init (rmX 2 79 3390) (zX κ 141 P 79 3390) 40 1698 26 [some (vr 61), some (vi 3)] [vi 3, vr 62] 102 (pu P 62 [3, 4, 5])
  refine Gc.new (c := 6) [6, 7, 8, 9, 10, 11, 12, 13, 14, 15, 16, 17] (by decide) (by decide +kernel) cl6 mnX3_9 rfl (by decide +kernel) (by decide +kernel) (cn' := 41) (sl' := 1716) rfl rfl (Nat.le_of_ble_eq_true rfl) (Nat.le_of_ble_eq_true rfl) dX3_init_26 ?_
  show Gc κ mX3_init (rmX 2 79 3390) (zX κ 141 P 79 3390) 41 1716 29 [some (vr 61), some (vi 3)] [vr 102, vi 3, vr 62] 103 (pu (pu P 62 [3, 4, 5]) 102 [6, 7, 8, 9, 10, 11, 12, 13, 14, 15, 16, 17])
  refine Gc.dup dX3_init_29 ?_
  show Gc κ mX3_init (rmX 2 79 3390) (zX κ 141 P 79 3390) 41 1716 30 [some (vr 61), some (vi 3)] [vr 102, vr 102, vi 3, vr 62] 103 (pu (pu P 62 [3, 4, 5]) 102 [6, 7, 8, 9, 10, 11, 12, 13, 14, 15, 16, 17])
  refine Gc.call [] [vr 102, vi 3, vr 62] mcX3_15 rfl rfl (Nat.le_of_ble_eq_true rfl) ⟨(Nat.le_of_ble_eq_true rfl), (Nat.le_of_ble_eq_true rfl)⟩ (cn' := 53) (sl' := 2262) rfl rfl (Nat.le_of_ble_eq_true rfl) (Nat.le_of_ble_eq_true rfl) dX3_init_30 (mkTa hA (k := 102) (by decide) (fun a ha => (pu_z (by omega) (hP a (by omega))))) ?_
  show Gc κ mX3_init (rmX 2 79 3390) (zX κ 141 P 79 3390) 53 2262 33 [some (vr 61), some (vi 3)] [vr 102, vi 3, vr 62] 115 (pu P 62 [3, 4, 5])
  refine Gc.aast (len := 6) (i := 3) (.inr ⟨rfl, rfl, rfl, rfl⟩) (by decide +kernel) (by decide) (by decide) (by decide) rfl rfl (by decide +kernel) (by decide) (by decide +kernel) dX3_init_33 ?_
  show Gc κ mX3_init (rmX 2 79 3390) (zX κ 141 P 79 3390) 53 2262 34 [some (vr 61), some (vi 3)] [] 115 (pu P 62 [4, 5])
  refine Gc.iinc 1 rfl (by decide) rfl dX3_init_34 rfl ?_
  show Gc κ mX3_init (rmX 2 79 3390) (zX κ 141 P 79 3390) 53 2262 37 [some (vr 61), some (vi 4)] [] 115 (pu P 62 [4, 5])
  refine Gc.goto (tgt := 15) dX3_init_37 (by decide) ?_
  show Gc κ mX3_init (rmX 2 79 3390) (zX κ 141 P 79 3390) 53 2262 15 [some (vr 61), some (vi 4)] [] 115 (pu P 62 [4, 5])
  refine Gc.iload 1 rfl rfl dX3_init_15 ?_
  show Gc κ mX3_init (rmX 2 79 3390) (zX κ 141 P 79 3390) 53 2262 16 [some (vr 61), some (vi 4)] [vi 4] 115 (pu P 62 [4, 5])
  refine Gc.bipush dX3_init_16 (by decide) ?_
  show Gc κ mX3_init (rmX 2 79 3390) (zX κ 141 P 79 3390) 53 2262 18 [some (vr 61), some (vi 4)] [vi 6, vi 4] 115 (pu P 62 [4, 5])
  refine Gc.icmp_ge dX3_init_18 ⟨by decide, by decide⟩ (tgt := 40) (by decide) (fun z => absurd z (by decide)) (fun _ => ?_)
  show Gc κ mX3_init (rmX 2 79 3390) (zX κ 141 P 79 3390) 53 2262 21 [some (vr 61), some (vi 4)] [] 115 (pu P 62 [4, 5])
  refine Gc.aload 0 rfl rfl dX3_init_21 ?_
  show Gc κ mX3_init (rmX 2 79 3390) (zX κ 141 P 79 3390) 53 2262 22 [some (vr 61), some (vi 4)] [vr 61] 115 (pu P 62 [4, 5])
  refine Gc.get (x := vr 62) (c := 3) (j := 0) mfX3_11 cl3 (by decide +kernel) (by decide) (by rw [pu_ne (by decide), hP 61 (by decide)]; rfl) (by decide +kernel) dX3_init_22 ?_
  show Gc κ mX3_init (rmX 2 79 3390) (zX κ 141 P 79 3390) 53 2262 25 [some (vr 61), some (vi 4)] [vr 62] 115 (pu P 62 [4, 5])
  refine Gc.iload 1 rfl rfl dX3_init_25 ?_
  show Gc κ mX3_init (rmX 2 79 3390) (zX κ 141 P 79 3390) 53 2262 26 [some (vr 61), some (vi 4)] [vi 4, vr 62] 115 (pu P 62 [4, 5])
  refine Gc.new (c := 6) [6, 7, 8, 9, 10, 11, 12, 13, 14, 15, 16, 17] (by decide) (by decide +kernel) cl6 mnX3_9 rfl (by decide +kernel) (by decide +kernel) (cn' := 54) (sl' := 2280) rfl rfl (Nat.le_of_ble_eq_true rfl) (Nat.le_of_ble_eq_true rfl) dX3_init_26 ?_
  show Gc κ mX3_init (rmX 2 79 3390) (zX κ 141 P 79 3390) 54 2280 29 [some (vr 61), some (vi 4)] [vr 115, vi 4, vr 62] 116 (pu (pu P 62 [4, 5]) 115 [6, 7, 8, 9, 10, 11, 12, 13, 14, 15, 16, 17])
  refine Gc.dup dX3_init_29 ?_
  show Gc κ mX3_init (rmX 2 79 3390) (zX κ 141 P 79 3390) 54 2280 30 [some (vr 61), some (vi 4)] [vr 115, vr 115, vi 4, vr 62] 116 (pu (pu P 62 [4, 5]) 115 [6, 7, 8, 9, 10, 11, 12, 13, 14, 15, 16, 17])
  refine Gc.call [] [vr 115, vi 4, vr 62] mcX3_15 rfl rfl (Nat.le_of_ble_eq_true rfl) ⟨(Nat.le_of_ble_eq_true rfl), (Nat.le_of_ble_eq_true rfl)⟩ (cn' := 66) (sl' := 2826) rfl rfl (Nat.le_of_ble_eq_true rfl) (Nat.le_of_ble_eq_true rfl) dX3_init_30 (mkTa hA (k := 115) (by decide) (fun a ha => (pu_z (by omega) (hP a (by omega))))) ?_
  show Gc κ mX3_init (rmX 2 79 3390) (zX κ 141 P 79 3390) 66 2826 33 [some (vr 61), some (vi 4)] [vr 115, vi 4, vr 62] 128 (pu P 62 [4, 5])
  refine Gc.aast (len := 6) (i := 4) (.inr ⟨rfl, rfl, rfl, rfl⟩) (by decide +kernel) (by decide) (by decide) (by decide) rfl rfl (by decide +kernel) (by decide) (by decide +kernel) dX3_init_33 ?_
  show Gc κ mX3_init (rmX 2 79 3390) (zX κ 141 P 79 3390) 66 2826 34 [some (vr 61), some (vi 4)] [] 128 (pu P 62 [5])
  refine Gc.iinc 1 rfl (by decide) rfl dX3_init_34 rfl ?_
  show Gc κ mX3_init (rmX 2 79 3390) (zX κ 141 P 79 3390) 66 2826 37 [some (vr 61), some (vi 5)] [] 128 (pu P 62 [5])
  refine Gc.goto (tgt := 15) dX3_init_37 (by decide) ?_
  show Gc κ mX3_init (rmX 2 79 3390) (zX κ 141 P 79 3390) 66 2826 15 [some (vr 61), some (vi 5)] [] 128 (pu P 62 [5])
  refine Gc.iload 1 rfl rfl dX3_init_15 ?_
  show Gc κ mX3_init (rmX 2 79 3390) (zX κ 141 P 79 3390) 66 2826 16 [some (vr 61), some (vi 5)] [vi 5] 128 (pu P 62 [5])
  refine Gc.bipush dX3_init_16 (by decide) ?_
  show Gc κ mX3_init (rmX 2 79 3390) (zX κ 141 P 79 3390) 66 2826 18 [some (vr 61), some (vi 5)] [vi 6, vi 5] 128 (pu P 62 [5])
  refine Gc.icmp_ge dX3_init_18 ⟨by decide, by decide⟩ (tgt := 40) (by decide) (fun z => absurd z (by decide)) (fun _ => ?_)
  show Gc κ mX3_init (rmX 2 79 3390) (zX κ 141 P 79 3390) 66 2826 21 [some (vr 61), some (vi 5)] [] 128 (pu P 62 [5])
  refine Gc.aload 0 rfl rfl dX3_init_21 ?_
  show Gc κ mX3_init (rmX 2 79 3390) (zX κ 141 P 79 3390) 66 2826 22 [some (vr 61), some (vi 5)] [vr 61] 128 (pu P 62 [5])
  refine Gc.get (x := vr 62) (c := 3) (j := 0) mfX3_11 cl3 (by decide +kernel) (by decide) (by rw [pu_ne (by decide), hP 61 (by decide)]; rfl) (by decide +kernel) dX3_init_22 ?_
  show Gc κ mX3_init (rmX 2 79 3390) (zX κ 141 P 79 3390) 66 2826 25 [some (vr 61), some (vi 5)] [vr 62] 128 (pu P 62 [5])
  refine Gc.iload 1 rfl rfl dX3_init_25 ?_
  show Gc κ mX3_init (rmX 2 79 3390) (zX κ 141 P 79 3390) 66 2826 26 [some (vr 61), some (vi 5)] [vi 5, vr 62] 128 (pu P 62 [5])
  refine Gc.new (c := 6) [6, 7, 8, 9, 10, 11, 12, 13, 14, 15, 16, 17] (by decide) (by decide +kernel) cl6 mnX3_9 rfl (by decide +kernel) (by decide +kernel) (cn' := 67) (sl' := 2844) rfl rfl (Nat.le_of_ble_eq_true rfl) (Nat.le_of_ble_eq_true rfl) dX3_init_26 ?_
  show Gc κ mX3_init (rmX 2 79 3390) (zX κ 141 P 79 3390) 67 2844 29 [some (vr 61), some (vi 5)] [vr 128, vi 5, vr 62] 129 (pu (pu P 62 [5]) 128 [6, 7, 8, 9, 10, 11, 12, 13, 14, 15, 16, 17])
  refine Gc.dup dX3_init_29 ?_
  show Gc κ mX3_init (rmX 2 79 3390) (zX κ 141 P 79 3390) 67 2844 30 [some (vr 61), some (vi 5)] [vr 128, vr 128, vi 5, vr 62] 129 (pu (pu P 62 [5]) 128 [6, 7, 8, 9, 10, 11, 12, 13, 14, 15, 16, 17])
  refine Gc.call [] [vr 128, vi 5, vr 62] mcX3_15 rfl rfl (Nat.le_of_ble_eq_true rfl) ⟨(Nat.le_of_ble_eq_true rfl), (Nat.le_of_ble_eq_true rfl)⟩ (cn' := 79) (sl' := 3390) rfl rfl (Nat.le_of_ble_eq_true rfl) (Nat.le_of_ble_eq_true rfl) dX3_init_30 (mkTa hA (k := 128) (by decide) (fun a ha => (pu_z (by omega) (hP a (by omega))))) ?_
  show Gc κ mX3_init (rmX 2 79 3390) (zX κ 141 P 79 3390) 79 3390 33 [some (vr 61), some (vi 5)] [vr 128, vi 5, vr 62] 141 (pu P 62 [5])
  refine Gc.aast (len := 6) (i := 5) (.inr ⟨rfl, rfl, rfl, rfl⟩) (by decide +kernel) (by decide) (by decide) (by decide) rfl rfl (by decide +kernel) (by decide) (by decide +kernel) dX3_init_33 ?_
  show Gc κ mX3_init (rmX 2 79 3390) (zX κ 141 P 79 3390) 79 3390 34 [some (vr 61), some (vi 5)] [] 141 (pu P 62 [])
  refine Gc.fin (hP 62 (by omega)) ?_
  show Gc κ mX3_init (rmX 2 79 3390) (zX κ 141 P 79 3390) 79 3390 34 [some (vr 61), some (vi 5)] [] 141 P
  refine Gc.iinc 1 rfl (by decide) rfl dX3_init_34 rfl ?_
  show Gc κ mX3_init (rmX 2 79 3390) (zX κ 141 P 79 3390) 79 3390 37 [some (vr 61), some (vi 6)] [] 141 P
  refine Gc.goto (tgt := 15) dX3_init_37 (by decide) ?_
  show Gc κ mX3_init (rmX 2 79 3390) (zX κ 141 P 79 3390) 79 3390 15 [some (vr 61), some (vi 6)] [] 141 P
  refine Gc.iload 1 rfl rfl dX3_init_15 ?_
  show Gc κ mX3_init (rmX 2 79 3390) (zX κ 141 P 79 3390) 79 3390 16 [some (vr 61), some (vi 6)] [vi 6] 141 P
  refine Gc.bipush dX3_init_16 (by decide) ?_
  show Gc κ mX3_init (rmX 2 79 3390) (zX κ 141 P 79 3390) 79 3390 18 [some (vr 61), some (vi 6)] [vi 6, vi 6] 141 P
  refine Gc.icmp_ge dX3_init_18 ⟨by decide, by decide⟩ (tgt := 40) (by decide) (fun _ => ?_) (fun z => absurd (by decide) z)
  show Gc κ mX3_init (rmX 2 79 3390) (zX κ 141 P 79 3390) 79 3390 40 [some (vr 61), some (vi 6)] [] 141 P
  exact Gc.ret rfl dX3_init_40
set_option maxRecDepth 100000 in
theorem mkRe {κ : Kx} (hA : ad κ) {P : Nat → List Nat} (hP : ∀ a, 141 ≤ a → P a = []) : ConX κ mX4_init 2 7 2105 [vr 141] 142 (pu P 141 [0, 3, 4, 5, 6, 7]) 149 P := by
  refine conX_of (M := mX4_init) (by decide +kernel) hA (Nat.le_of_ble_eq_true rfl) 0 ?_
  show Gc κ mX4_init (rmX 2 7 2105) (zX κ 149 P 7 2105) 0 0 0 [some (vr 141)] [] 142 (pu P 141 [0, 3, 4, 5, 6, 7])
  refine Gc.aload 0 rfl rfl dX4_init_0 ?_
  show Gc κ mX4_init (rmX 2 7 2105) (zX κ 149 P 7 2105) 0 0 1 [some (vr 141)] [vr 141] 142 (pu P 141 [0, 3, 4, 5, 6, 7])
  refine Gc.obj moX4 ⟨(Nat.le_of_ble_eq_true rfl), (Nat.le_of_ble_eq_true rfl)⟩ (Nat.le_of_ble_eq_true rfl) dX4_init_1 ?_
  show Gc κ mX4_init (rmX 2 7 2105) (zX κ 149 P 7 2105) 0 0 4 [some (vr 141)] [] 142 (pu P 141 [0, 3, 4, 5, 6, 7])
  refine Gc.aload 0 rfl rfl dX4_init_4 ?_
  show Gc κ mX4_init (rmX 2 7 2105) (zX κ 149 P 7 2105) 0 0 5 [some (vr 141)] [vr 141] 142 (pu P 141 [0, 3, 4, 5, 6, 7])
  refine Gc.new (c := 5) [4, 5] (by decide) (by decide +kernel) cl5 mnX4_9 rfl (by decide +kernel) (by decide +kernel) (cn' := 1) (sl' := 6) rfl rfl (Nat.le_of_ble_eq_true rfl) (Nat.le_of_ble_eq_true rfl) dX4_init_5 ?_
  show Gc κ mX4_init (rmX 2 7 2105) (zX κ 149 P 7 2105) 1 6 8 [some (vr 141)] [vr 142, vr 141] 143 (pu (pu P 141 [0, 3, 4, 5, 6, 7]) 142 [4, 5])
  refine Gc.dup dX4_init_8 ?_
  show Gc κ mX4_init (rmX 2 7 2105) (zX κ 149 P 7 2105) 1 6 9 [some (vr 141)] [vr 142, vr 142, vr 141] 143 (pu (pu P 141 [0, 3, 4, 5, 6, 7]) 142 [4, 5])
  refine Gc.bipush dX4_init_9 (by decide) ?_
  show Gc κ mX4_init (rmX 2 7 2105) (zX κ 149 P 7 2105) 1 6 11 [some (vr 141)] [vi 96, vr 142, vr 142, vr 141] 143 (pu (pu P 141 [0, 3, 4, 5, 6, 7]) 142 [4, 5])
  refine Gc.sipush dX4_init_11 (by decide) ?_
  show Gc κ mX4_init (rmX 2 7 2105) (zX κ 149 P 7 2105) 1 6 14 [some (vr 141)] [vi 400, vi 96, vr 142, vr 142, vr 141] 143 (pu (pu P 141 [0, 3, 4, 5, 6, 7]) 142 [4, 5])
  refine Gc.call [vi 96, vi 400] [vr 142, vr 141] mcX4_13 rfl rfl (Nat.le_of_ble_eq_true rfl) ⟨(Nat.le_of_ble_eq_true rfl), (Nat.le_of_ble_eq_true rfl)⟩ (cn' := 3) (sl' := 502) rfl rfl (Nat.le_of_ble_eq_true rfl) (Nat.le_of_ble_eq_true rfl) dX4_init_14 (mkSh142 hA (fun a ha => (pu_z (by omega) (hP a (by omega))))) ?_
  show Gc κ mX4_init (rmX 2 7 2105) (zX κ 149 P 7 2105) 3 502 17 [some (vr 141)] [vr 142, vr 141] 145 (pu P 141 [0, 3, 4, 5, 6, 7])
  refine Gc.put (c := 4) (j := 0) mfX4_16 cl4 (by decide +kernel) (by decide) (by decide) rfl (by decide +kernel) (nfR (by decide +kernel)) (fun _ => ⟨rfl, rfl⟩) dX4_init_17 ?_
  show Gc κ mX4_init (rmX 2 7 2105) (zX κ 149 P 7 2105) 3 502 20 [some (vr 141)] [] 145 (pu P 141 [3, 4, 5, 6, 7])
  refine Gc.aload 0 rfl rfl dX4_init_20 ?_
  show Gc κ mX4_init (rmX 2 7 2105) (zX κ 149 P 7 2105) 3 502 21 [some (vr 141)] [vr 141] 145 (pu P 141 [3, 4, 5, 6, 7])
  refine Gc.iconst dX4_init_21 ?_
  show Gc κ mX4_init (rmX 2 7 2105) (zX κ 149 P 7 2105) 3 502 22 [some (vr 141)] [vi (-1), vr 141] 145 (pu P 141 [3, 4, 5, 6, 7])
  refine Gc.put (c := 4) (j := 3) mfX4_20 cl4 (by decide +kernel) (by decide) (by decide) rfl (by decide +kernel) (nfI (by decide +kernel)) (fun z => absurd z (by decide +kernel)) dX4_init_22 ?_
  show Gc κ mX4_init (rmX 2 7 2105) (zX κ 149 P 7 2105) 3 502 25 [some (vr 141)] [] 145 (pu P 141 [4, 5, 6, 7])
  refine Gc.aload 0 rfl rfl dX4_init_25 ?_
  show Gc κ mX4_init (rmX 2 7 2105) (zX κ 149 P 7 2105) 3 502 26 [some (vr 141)] [vr 141] 145 (pu P 141 [4, 5, 6, 7])
  refine Gc.sipush dX4_init_26 (by decide) ?_
  show Gc κ mX4_init (rmX 2 7 2105) (zX κ 149 P 7 2105) 3 502 29 [some (vr 141)] [vi 400, vr 141] 145 (pu P 141 [4, 5, 6, 7])
  refine Gc.arr0 (pu_z (by omega) (hP 145 (by omega))) (by decide) (by decide +kernel) rfl (fun j _ => s0Z (by decide +kernel) j) acI (cn' := 4) (sl' := 902) rfl rfl (Nat.le_of_ble_eq_true rfl) (Nat.le_of_ble_eq_true rfl) dX4_init_29 ?_
  show Gc κ mX4_init (rmX 2 7 2105) (zX κ 149 P 7 2105) 4 902 31 [some (vr 141)] [vr 145, vr 141] 146 (pu P 141 [4, 5, 6, 7])
  refine Gc.put (c := 4) (j := 4) mfX4_24 cl4 (by decide +kernel) (by decide) (by decide) rfl (by decide +kernel) (nfR (by decide +kernel)) (fun _ => ⟨rfl, rfl⟩) dX4_init_31 ?_
  show Gc κ mX4_init (rmX 2 7 2105) (zX κ 149 P 7 2105) 4 902 34 [some (vr 141)] [] 146 (pu P 141 [5, 6, 7])
  refine Gc.aload 0 rfl rfl dX4_init_34 ?_
  show Gc κ mX4_init (rmX 2 7 2105) (zX κ 149 P 7 2105) 4 902 35 [some (vr 141)] [vr 141] 146 (pu P 141 [5, 6, 7])
  refine Gc.sipush dX4_init_35 (by decide) ?_
  show Gc κ mX4_init (rmX 2 7 2105) (zX κ 149 P 7 2105) 4 902 38 [some (vr 141)] [vi 401, vr 141] 146 (pu P 141 [5, 6, 7])
  refine Gc.arr0 (pu_z (by omega) (hP 146 (by omega))) (by decide) (by decide +kernel) rfl (fun j _ => s0Z (by decide +kernel) j) acI (cn' := 5) (sl' := 1303) rfl rfl (Nat.le_of_ble_eq_true rfl) (Nat.le_of_ble_eq_true rfl) dX4_init_38 ?_
  show Gc κ mX4_init (rmX 2 7 2105) (zX κ 149 P 7 2105) 5 1303 40 [some (vr 141)] [vr 146, vr 141] 147 (pu P 141 [5, 6, 7])
  refine Gc.put (c := 4) (j := 5) mfX4_28 cl4 (by decide +kernel) (by decide) (by decide) rfl (by decide +kernel) (nfR (by decide +kernel)) (fun _ => ⟨rfl, rfl⟩) dX4_init_40 ?_
  show Gc κ mX4_init (rmX 2 7 2105) (zX κ 149 P 7 2105) 5 1303 43 [some (vr 141)] [] 147 (pu P 141 [6, 7])
  refine Gc.aload 0 rfl rfl dX4_init_43 ?_
  show Gc κ mX4_init (rmX 2 7 2105) (zX κ 149 P 7 2105) 5 1303 44 [some (vr 141)] [vr 141] 147 (pu P 141 [6, 7])
  refine Gc.sipush dX4_init_44 (by decide) ?_
  show Gc κ mX4_init (rmX 2 7 2105) (zX κ 149 P 7 2105) 5 1303 47 [some (vr 141)] [vi 401, vr 141] 147 (pu P 141 [6, 7])
  refine Gc.arr0 (pu_z (by omega) (hP 147 (by omega))) (by decide) (by decide +kernel) rfl (fun j _ => s0Z (by decide +kernel) j) acI (cn' := 6) (sl' := 1704) rfl rfl (Nat.le_of_ble_eq_true rfl) (Nat.le_of_ble_eq_true rfl) dX4_init_47 ?_
  show Gc κ mX4_init (rmX 2 7 2105) (zX κ 149 P 7 2105) 6 1704 49 [some (vr 141)] [vr 147, vr 141] 148 (pu P 141 [6, 7])
  refine Gc.put (c := 4) (j := 6) mfX4_31 cl4 (by decide +kernel) (by decide) (by decide) rfl (by decide +kernel) (nfR (by decide +kernel)) (fun _ => ⟨rfl, rfl⟩) dX4_init_49 ?_
  show Gc κ mX4_init (rmX 2 7 2105) (zX κ 149 P 7 2105) 6 1704 52 [some (vr 141)] [] 148 (pu P 141 [7])
  refine Gc.aload 0 rfl rfl dX4_init_52 ?_
  show Gc κ mX4_init (rmX 2 7 2105) (zX κ 149 P 7 2105) 6 1704 53 [some (vr 141)] [vr 141] 148 (pu P 141 [7])
  refine Gc.sipush dX4_init_53 (by decide) ?_
  show Gc κ mX4_init (rmX 2 7 2105) (zX κ 149 P 7 2105) 6 1704 56 [some (vr 141)] [vi 401, vr 141] 148 (pu P 141 [7])
  refine Gc.arr0 (pu_z (by omega) (hP 148 (by omega))) (by decide) (by decide +kernel) rfl (fun j _ => s0Z (by decide +kernel) j) acI (cn' := 7) (sl' := 2105) rfl rfl (Nat.le_of_ble_eq_true rfl) (Nat.le_of_ble_eq_true rfl) dX4_init_56 ?_
  show Gc κ mX4_init (rmX 2 7 2105) (zX κ 149 P 7 2105) 7 2105 58 [some (vr 141)] [vr 148, vr 141] 149 (pu P 141 [7])
  refine Gc.put (c := 4) (j := 7) mfX4_34 cl4 (by decide +kernel) (by decide) (by decide) rfl (by decide +kernel) (nfR (by decide +kernel)) (fun _ => ⟨rfl, rfl⟩) dX4_init_58 ?_
  show Gc κ mX4_init (rmX 2 7 2105) (zX κ 149 P 7 2105) 7 2105 61 [some (vr 141)] [] 149 (pu P 141 [])
  refine Gc.fin (hP 141 (by omega)) ?_
  show Gc κ mX4_init (rmX 2 7 2105) (zX κ 149 P 7 2105) 7 2105 61 [some (vr 141)] [] 149 P
  exact Gc.ret rfl dX4_init_61
set_option maxRecDepth 100000 in
theorem mkJu {κ : Kx} (hA : ad κ) {P : Nat → List Nat} (hP : ∀ a, 149 ≤ a → P a = []) : ConX κ mX2_init 1 2 74 [vr 149] 150 (pu P 149 [0, 1]) 152 P := by
  refine conX_of (M := mX2_init) (by decide +kernel) hA (Nat.le_of_ble_eq_true rfl) 0 ?_
  show Gc κ mX2_init (rmX 1 2 74) (zX κ 152 P 2 74) 0 0 0 [some (vr 149)] [] 150 (pu P 149 [0, 1])
  refine Gc.aload 0 rfl rfl dX2_init_0 ?_
  show Gc κ mX2_init (rmX 1 2 74) (zX κ 152 P 2 74) 0 0 1 [some (vr 149)] [vr 149] 150 (pu P 149 [0, 1])
  refine Gc.obj moX2 ⟨(Nat.le_of_ble_eq_true rfl), (Nat.le_of_ble_eq_true rfl)⟩ (Nat.le_of_ble_eq_true rfl) dX2_init_1 ?_
  show Gc κ mX2_init (rmX 1 2 74) (zX κ 152 P 2 74) 0 0 4 [some (vr 149)] [] 150 (pu P 149 [0, 1])
  refine Gc.aload 0 rfl rfl dX2_init_4 ?_
  show Gc κ mX2_init (rmX 1 2 74) (zX κ 152 P 2 74) 0 0 5 [some (vr 149)] [vr 149] 150 (pu P 149 [0, 1])
  refine Gc.bipush dX2_init_5 (by decide) ?_
  show Gc κ mX2_init (rmX 1 2 74) (zX κ 152 P 2 74) 0 0 7 [some (vr 149)] [vi 10, vr 149] 150 (pu P 149 [0, 1])
  refine Gc.arr0 (pu_z (by omega) (hP 150 (by omega))) (by decide) (by decide +kernel) rfl (fun j _ => s0Z (by decide +kernel) j) acI (cn' := 1) (sl' := 10) rfl rfl (Nat.le_of_ble_eq_true rfl) (Nat.le_of_ble_eq_true rfl) dX2_init_7 ?_
  show Gc κ mX2_init (rmX 1 2 74) (zX κ 152 P 2 74) 1 10 9 [some (vr 149)] [vr 150, vr 149] 151 (pu P 149 [0, 1])
  refine Gc.put (c := 2) (j := 0) mfX2_9 cl2 (by decide +kernel) (by decide) (by decide) rfl (by decide +kernel) (nfR (by decide +kernel)) (fun _ => ⟨rfl, rfl⟩) dX2_init_9 ?_
  show Gc κ mX2_init (rmX 1 2 74) (zX κ 152 P 2 74) 1 10 12 [some (vr 149)] [] 151 (pu P 149 [1])
  refine Gc.aload 0 rfl rfl dX2_init_12 ?_
  show Gc κ mX2_init (rmX 1 2 74) (zX κ 152 P 2 74) 1 10 13 [some (vr 149)] [vr 149] 151 (pu P 149 [1])
  refine Gc.bipush dX2_init_13 (by decide) ?_
  show Gc κ mX2_init (rmX 1 2 74) (zX κ 152 P 2 74) 1 10 15 [some (vr 149)] [vi 64, vr 149] 151 (pu P 149 [1])
  refine Gc.arr0 (pu_z (by omega) (hP 151 (by omega))) (by decide) (by decide +kernel) rfl (fun j _ => s0Z (by decide +kernel) j) acI (cn' := 2) (sl' := 74) rfl rfl (Nat.le_of_ble_eq_true rfl) (Nat.le_of_ble_eq_true rfl) dX2_init_15 ?_
  show Gc κ mX2_init (rmX 1 2 74) (zX κ 152 P 2 74) 2 74 17 [some (vr 149)] [vr 151, vr 149] 152 (pu P 149 [1])
  refine Gc.put (c := 2) (j := 1) mfX2_13 cl2 (by decide +kernel) (by decide) (by decide) rfl (by decide +kernel) (nfR (by decide +kernel)) (fun _ => ⟨rfl, rfl⟩) dX2_init_17 ?_
  show Gc κ mX2_init (rmX 1 2 74) (zX κ 152 P 2 74) 2 74 20 [some (vr 149)] [] 152 (pu P 149 [])
  refine Gc.fin (hP 149 (by omega)) ?_
  show Gc κ mX2_init (rmX 1 2 74) (zX κ 152 P 2 74) 2 74 20 [some (vr 149)] [] 152 P
  exact Gc.ret rfl dX2_init_20
set_option maxRecDepth 100000 in
theorem mkCo {κ : Kx} (hA : ad κ) {P : Nat → List Nat} (h1 : P 1 = []) (hP : ∀ a, 152 ≤ a → P a = []) : ConX κ mX0_init 1 0 0 [vr 152, vr 1, vr 149] 153 (pu P 152 [0, 1, 2, 4]) 153 P := by
  refine conX_of (M := mX0_init) (by decide +kernel) hA (Nat.le_of_ble_eq_true rfl) 0 ?_
  show Gc κ mX0_init (rmX 1 0 0) (zX κ 153 P 0 0) 0 0 0 [some (vr 152), some (vr 1), some (vr 149)] [] 153 (pu P 152 [0, 1, 2, 4])
  refine Gc.aload 0 rfl rfl dX0_init_0 ?_
  show Gc κ mX0_init (rmX 1 0 0) (zX κ 153 P 0 0) 0 0 1 [some (vr 152), some (vr 1), some (vr 149)] [vr 152] 153 (pu P 152 [0, 1, 2, 4])
  refine Gc.obj moX0 ⟨(Nat.le_of_ble_eq_true rfl), (Nat.le_of_ble_eq_true rfl)⟩ (Nat.le_of_ble_eq_true rfl) dX0_init_1 ?_
  show Gc κ mX0_init (rmX 1 0 0) (zX κ 153 P 0 0) 0 0 4 [some (vr 152), some (vr 1), some (vr 149)] [] 153 (pu P 152 [0, 1, 2, 4])
  refine Gc.aload 0 rfl rfl dX0_init_4 ?_
  show Gc κ mX0_init (rmX 1 0 0) (zX κ 153 P 0 0) 0 0 5 [some (vr 152), some (vr 1), some (vr 149)] [vr 152] 153 (pu P 152 [0, 1, 2, 4])
  refine Gc.aload 1 rfl rfl dX0_init_5 ?_
  show Gc κ mX0_init (rmX 1 0 0) (zX κ 153 P 0 0) 0 0 6 [some (vr 152), some (vr 1), some (vr 149)] [vr 1, vr 152] 153 (pu P 152 [0, 1, 2, 4])
  refine Gc.put (c := 0) (j := 0) mfX0_9 cl0 (by decide +kernel) (by decide) (by decide) rfl (by decide +kernel) (nfR (by decide +kernel)) (fun _ => ⟨rfl, rfl⟩) dX0_init_6 ?_
  show Gc κ mX0_init (rmX 1 0 0) (zX κ 153 P 0 0) 0 0 9 [some (vr 152), some (vr 1), some (vr 149)] [] 153 (pu P 152 [1, 2, 4])
  refine Gc.aload 0 rfl rfl dX0_init_9 ?_
  show Gc κ mX0_init (rmX 1 0 0) (zX κ 153 P 0 0) 0 0 10 [some (vr 152), some (vr 1), some (vr 149)] [vr 152] 153 (pu P 152 [1, 2, 4])
  refine Gc.aload 2 rfl rfl dX0_init_10 ?_
  show Gc κ mX0_init (rmX 1 0 0) (zX κ 153 P 0 0) 0 0 11 [some (vr 152), some (vr 1), some (vr 149)] [vr 149, vr 152] 153 (pu P 152 [1, 2, 4])
  refine Gc.put (c := 0) (j := 1) mfX0_15 cl0 (by decide +kernel) (by decide) (by decide) rfl (by decide +kernel) (nfR (by decide +kernel)) (fun _ => ⟨rfl, rfl⟩) dX0_init_11 ?_
  show Gc κ mX0_init (rmX 1 0 0) (zX κ 153 P 0 0) 0 0 14 [some (vr 152), some (vr 1), some (vr 149)] [] 153 (pu P 152 [2, 4])
  refine Gc.aload 0 rfl rfl dX0_init_14 ?_
  show Gc κ mX0_init (rmX 1 0 0) (zX κ 153 P 0 0) 0 0 15 [some (vr 152), some (vr 1), some (vr 149)] [vr 152] 153 (pu P 152 [2, 4])
  refine Gc.aload 1 rfl rfl dX0_init_15 ?_
  show Gc κ mX0_init (rmX 1 0 0) (zX κ 153 P 0 0) 0 0 16 [some (vr 152), some (vr 1), some (vr 149)] [vr 1, vr 152] 153 (pu P 152 [2, 4])
  refine Gc.get (x := vr 2) (c := 7) (j := 0) mfX0_19 cl7 (by decide +kernel) (by decide) (by rw [pu_ne (by decide), h1]; rfl) (by decide +kernel) dX0_init_16 ?_
  show Gc κ mX0_init (rmX 1 0 0) (zX κ 153 P 0 0) 0 0 19 [some (vr 152), some (vr 1), some (vr 149)] [vr 2, vr 152] 153 (pu P 152 [2, 4])
  refine Gc.put (c := 0) (j := 2) mfX0_25 cl0 (by decide +kernel) (by decide) (by decide) rfl (by decide +kernel) (nfR (by decide +kernel)) (fun z => absurd z (by decide +kernel)) dX0_init_19 ?_
  show Gc κ mX0_init (rmX 1 0 0) (zX κ 153 P 0 0) 0 0 22 [some (vr 152), some (vr 1), some (vr 149)] [] 153 (pu P 152 [4])
  refine Gc.aload 0 rfl rfl dX0_init_22 ?_
  show Gc κ mX0_init (rmX 1 0 0) (zX κ 153 P 0 0) 0 0 23 [some (vr 152), some (vr 1), some (vr 149)] [vr 152] 153 (pu P 152 [4])
  refine Gc.iconst dX0_init_23 ?_
  show Gc κ mX0_init (rmX 1 0 0) (zX κ 153 P 0 0) 0 0 24 [some (vr 152), some (vr 1), some (vr 149)] [vi (-1), vr 152] 153 (pu P 152 [4])
  refine Gc.put (c := 0) (j := 4) mfX0_26 cl0 (by decide +kernel) (by decide) (by decide) rfl (by decide +kernel) (nfI (by decide +kernel)) (fun z => absurd z (by decide +kernel)) dX0_init_24 ?_
  show Gc κ mX0_init (rmX 1 0 0) (zX κ 153 P 0 0) 0 0 27 [some (vr 152), some (vr 1), some (vr 149)] [] 153 (pu P 152 [])
  refine Gc.fin (hP 152 (by omega)) ?_
  show Gc κ mX0_init (rmX 1 0 0) (zX κ 153 P 0 0) 0 0 27 [some (vr 152), some (vr 1), some (vr 149)] [] 153 P
  exact Gc.ret rfl dX0_init_27
set_option maxRecDepth 100000 in
theorem mkGl {κ : Kx} (hA : ad κ) {P : Nat → List Nat} (hP : ∀ a, 166 ≤ a → P a = []) : ConX κ mX1_init 1 4 190 [vr 166] 167 (pu P 166 [0, 2, 3, 4]) 171 P := by
  refine conX_of (M := mX1_init) (by decide +kernel) hA (Nat.le_of_ble_eq_true rfl) 0 ?_
  show Gc κ mX1_init (rmX 1 4 190) (zX κ 171 P 4 190) 0 0 0 [some (vr 166)] [] 167 (pu P 166 [0, 2, 3, 4])
  refine Gc.aload 0 rfl rfl dX1_init_0 ?_
  show Gc κ mX1_init (rmX 1 4 190) (zX κ 171 P 4 190) 0 0 1 [some (vr 166)] [vr 166] 167 (pu P 166 [0, 2, 3, 4])
  refine Gc.obj moX1 ⟨(Nat.le_of_ble_eq_true rfl), (Nat.le_of_ble_eq_true rfl)⟩ (Nat.le_of_ble_eq_true rfl) dX1_init_1 ?_
  show Gc κ mX1_init (rmX 1 4 190) (zX κ 171 P 4 190) 0 0 4 [some (vr 166)] [] 167 (pu P 166 [0, 2, 3, 4])
  refine Gc.aload 0 rfl rfl dX1_init_4 ?_
  show Gc κ mX1_init (rmX 1 4 190) (zX κ 171 P 4 190) 0 0 5 [some (vr 166)] [vr 166] 167 (pu P 166 [0, 2, 3, 4])
  refine Gc.bipush dX1_init_5 (by decide) ?_
  show Gc κ mX1_init (rmX 1 4 190) (zX κ 171 P 4 190) 0 0 7 [some (vr 166)] [vi 60, vr 166] 167 (pu P 166 [0, 2, 3, 4])
  refine Gc.arr0 (pu_z (by omega) (hP 167 (by omega))) (by decide) (by decide +kernel) rfl (fun j _ => s0Z (by decide +kernel) j) acI (cn' := 1) (sl' := 60) rfl rfl (Nat.le_of_ble_eq_true rfl) (Nat.le_of_ble_eq_true rfl) dX1_init_7 ?_
  show Gc κ mX1_init (rmX 1 4 190) (zX κ 171 P 4 190) 1 60 9 [some (vr 166)] [vr 167, vr 166] 168 (pu P 166 [0, 2, 3, 4])
  refine Gc.put (c := 1) (j := 0) mfX1_11 cl1 (by decide +kernel) (by decide) (by decide) rfl (by decide +kernel) (nfR (by decide +kernel)) (fun _ => ⟨rfl, rfl⟩) dX1_init_9 ?_
  show Gc κ mX1_init (rmX 1 4 190) (zX κ 171 P 4 190) 1 60 12 [some (vr 166)] [] 168 (pu P 166 [2, 3, 4])
  refine Gc.aload 0 rfl rfl dX1_init_12 ?_
  show Gc κ mX1_init (rmX 1 4 190) (zX κ 171 P 4 190) 1 60 13 [some (vr 166)] [vr 166] 168 (pu P 166 [2, 3, 4])
  refine Gc.bipush dX1_init_13 (by decide) ?_
  show Gc κ mX1_init (rmX 1 4 190) (zX κ 171 P 4 190) 1 60 15 [some (vr 166)] [vi 10, vr 166] 168 (pu P 166 [2, 3, 4])
  refine Gc.arr0 (pu_z (by omega) (hP 168 (by omega))) (by decide) (by decide +kernel) rfl (fun j _ => s0Z (by decide +kernel) j) acI (cn' := 2) (sl' := 70) rfl rfl (Nat.le_of_ble_eq_true rfl) (Nat.le_of_ble_eq_true rfl) dX1_init_15 ?_
  show Gc κ mX1_init (rmX 1 4 190) (zX κ 171 P 4 190) 2 70 17 [some (vr 166)] [vr 168, vr 166] 169 (pu P 166 [2, 3, 4])
  refine Gc.put (c := 1) (j := 2) mfX1_17 cl1 (by decide +kernel) (by decide) (by decide) rfl (by decide +kernel) (nfR (by decide +kernel)) (fun _ => ⟨rfl, rfl⟩) dX1_init_17 ?_
  show Gc κ mX1_init (rmX 1 4 190) (zX κ 171 P 4 190) 2 70 20 [some (vr 166)] [] 169 (pu P 166 [3, 4])
  refine Gc.aload 0 rfl rfl dX1_init_20 ?_
  show Gc κ mX1_init (rmX 1 4 190) (zX κ 171 P 4 190) 2 70 21 [some (vr 166)] [vr 166] 169 (pu P 166 [3, 4])
  refine Gc.bipush dX1_init_21 (by decide) ?_
  show Gc κ mX1_init (rmX 1 4 190) (zX κ 171 P 4 190) 2 70 23 [some (vr 166)] [vi 60, vr 166] 169 (pu P 166 [3, 4])
  refine Gc.arr0 (pu_z (by omega) (hP 169 (by omega))) (by decide) (by decide +kernel) rfl (fun j _ => s0Z (by decide +kernel) j) acI (cn' := 3) (sl' := 130) rfl rfl (Nat.le_of_ble_eq_true rfl) (Nat.le_of_ble_eq_true rfl) dX1_init_23 ?_
  show Gc κ mX1_init (rmX 1 4 190) (zX κ 171 P 4 190) 3 130 25 [some (vr 166)] [vr 169, vr 166] 170 (pu P 166 [3, 4])
  refine Gc.put (c := 1) (j := 3) mfX1_20 cl1 (by decide +kernel) (by decide) (by decide) rfl (by decide +kernel) (nfR (by decide +kernel)) (fun _ => ⟨rfl, rfl⟩) dX1_init_25 ?_
  show Gc κ mX1_init (rmX 1 4 190) (zX κ 171 P 4 190) 3 130 28 [some (vr 166)] [] 170 (pu P 166 [4])
  refine Gc.aload 0 rfl rfl dX1_init_28 ?_
  show Gc κ mX1_init (rmX 1 4 190) (zX κ 171 P 4 190) 3 130 29 [some (vr 166)] [vr 166] 170 (pu P 166 [4])
  refine Gc.bipush dX1_init_29 (by decide) ?_
  show Gc κ mX1_init (rmX 1 4 190) (zX κ 171 P 4 190) 3 130 31 [some (vr 166)] [vi 60, vr 166] 170 (pu P 166 [4])
  refine Gc.arr0 (pu_z (by omega) (hP 170 (by omega))) (by decide) (by decide +kernel) rfl (fun j _ => s0Z (by decide +kernel) j) acI (cn' := 4) (sl' := 190) rfl rfl (Nat.le_of_ble_eq_true rfl) (Nat.le_of_ble_eq_true rfl) dX1_init_31 ?_
  show Gc κ mX1_init (rmX 1 4 190) (zX κ 171 P 4 190) 4 190 33 [some (vr 166)] [vr 170, vr 166] 171 (pu P 166 [4])
  refine Gc.put (c := 1) (j := 4) mfX1_23 cl1 (by decide +kernel) (by decide) (by decide) rfl (by decide +kernel) (nfR (by decide +kernel)) (fun _ => ⟨rfl, rfl⟩) dX1_init_33 ?_
  show Gc κ mX1_init (rmX 1 4 190) (zX κ 171 P 4 190) 4 190 36 [some (vr 166)] [] 171 (pu P 166 [])
  refine Gc.fin (hP 166 (by omega)) ?_
  show Gc κ mX1_init (rmX 1 4 190) (zX κ 171 P 4 190) 4 190 36 [some (vr 166)] [] 171 P
  exact Gc.ret rfl dX1_init_36
set_option maxRecDepth 100000 in
theorem mkTd {κ : Kx} (hA : ad κ) {P : Nat → List Nat} (hP : ∀ a, 0 ≤ a → P a = []) : ConX κ mX8_init 3 171 10123 [vr 0] 1 (pu P 0 [0, 1, 2, 3, 4, 5, 6, 7, 8, 9]) 172 P := by
  refine conX_of (M := mX8_init) (by decide +kernel) hA (Nat.le_of_ble_eq_true rfl) 0 ?_
  show Gc κ mX8_init (rmX 3 171 10123) (zX κ 172 P 171 10123) 0 0 0 [some (vr 0)] [] 1 (pu P 0 [0, 1, 2, 3, 4, 5, 6, 7, 8, 9])
  refine Gc.aload 0 rfl rfl dX8_init_0 ?_
  show Gc κ mX8_init (rmX 3 171 10123) (zX κ 172 P 171 10123) 0 0 1 [some (vr 0)] [vr 0] 1 (pu P 0 [0, 1, 2, 3, 4, 5, 6, 7, 8, 9])
  refine Gc.obj moX8 ⟨(Nat.le_of_ble_eq_true rfl), (Nat.le_of_ble_eq_true rfl)⟩ (Nat.le_of_ble_eq_true rfl) dX8_init_1 ?_
  show Gc κ mX8_init (rmX 3 171 10123) (zX κ 172 P 171 10123) 0 0 4 [some (vr 0)] [] 1 (pu P 0 [0, 1, 2, 3, 4, 5, 6, 7, 8, 9])
  refine Gc.aload 0 rfl rfl dX8_init_4 ?_
  show Gc κ mX8_init (rmX 3 171 10123) (zX κ 172 P 171 10123) 0 0 5 [some (vr 0)] [vr 0] 1 (pu P 0 [0, 1, 2, 3, 4, 5, 6, 7, 8, 9])
  refine Gc.new (c := 7) [0, 1, 2, 3, 5] (by decide) (by decide +kernel) cl7 mnX8_9 rfl (by decide +kernel) (by decide +kernel) (cn' := 1) (sl' := 6) rfl rfl (Nat.le_of_ble_eq_true rfl) (Nat.le_of_ble_eq_true rfl) dX8_init_5 ?_
  show Gc κ mX8_init (rmX 3 171 10123) (zX κ 172 P 171 10123) 1 6 8 [some (vr 0)] [vr 1, vr 0] 2 (pu (pu P 0 [0, 1, 2, 3, 4, 5, 6, 7, 8, 9]) 1 [0, 1, 2, 3, 5])
  refine Gc.dup dX8_init_8 ?_
  show Gc κ mX8_init (rmX 3 171 10123) (zX κ 172 P 171 10123) 1 6 9 [some (vr 0)] [vr 1, vr 1, vr 0] 2 (pu (pu P 0 [0, 1, 2, 3, 4, 5, 6, 7, 8, 9]) 1 [0, 1, 2, 3, 5])
  refine Gc.call [] [vr 1, vr 0] mcX8_11 rfl rfl (Nat.le_of_ble_eq_true rfl) ⟨(Nat.le_of_ble_eq_true rfl), (Nat.le_of_ble_eq_true rfl)⟩ (cn' := 30) (sl' := 1856) rfl rfl (Nat.le_of_ble_eq_true rfl) (Nat.le_of_ble_eq_true rfl) dX8_init_9 (mkWo1 hA (fun a ha => (pu_z (by omega) (hP a (by omega))))) ?_
  show Gc κ mX8_init (rmX 3 171 10123) (zX κ 172 P 171 10123) 30 1856 12 [some (vr 0)] [vr 1, vr 0] 31 (pu P 0 [0, 1, 2, 3, 4, 5, 6, 7, 8, 9])
  refine Gc.put (c := 8) (j := 0) mfX8_12 cl8 (by decide +kernel) (by decide) (by decide) rfl (by decide +kernel) (nfR (by decide +kernel)) (fun _ => ⟨rfl, rfl⟩) dX8_init_12 ?_
  show Gc κ mX8_init (rmX 3 171 10123) (zX κ 172 P 171 10123) 30 1856 15 [some (vr 0)] [] 31 (pu P 0 [1, 2, 3, 4, 5, 6, 7, 8, 9])
  refine Gc.aload 0 rfl rfl dX8_init_15 ?_
  show Gc κ mX8_init (rmX 3 171 10123) (zX κ 172 P 171 10123) 30 1856 16 [some (vr 0)] [vr 0] 31 (pu P 0 [1, 2, 3, 4, 5, 6, 7, 8, 9])
  refine Gc.new (c := 7) [0, 1, 2, 3, 5] (by decide) (by decide +kernel) cl7 mnX8_9 rfl (by decide +kernel) (by decide +kernel) (cn' := 31) (sl' := 1862) rfl rfl (Nat.le_of_ble_eq_true rfl) (Nat.le_of_ble_eq_true rfl) dX8_init_16 ?_
  show Gc κ mX8_init (rmX 3 171 10123) (zX κ 172 P 171 10123) 31 1862 19 [some (vr 0)] [vr 31, vr 0] 32 (pu (pu P 0 [1, 2, 3, 4, 5, 6, 7, 8, 9]) 31 [0, 1, 2, 3, 5])
  refine Gc.dup dX8_init_19 ?_
  show Gc κ mX8_init (rmX 3 171 10123) (zX κ 172 P 171 10123) 31 1862 20 [some (vr 0)] [vr 31, vr 31, vr 0] 32 (pu (pu P 0 [1, 2, 3, 4, 5, 6, 7, 8, 9]) 31 [0, 1, 2, 3, 5])
  refine Gc.call [] [vr 31, vr 0] mcX8_11 rfl rfl (Nat.le_of_ble_eq_true rfl) ⟨(Nat.le_of_ble_eq_true rfl), (Nat.le_of_ble_eq_true rfl)⟩ (cn' := 60) (sl' := 3712) rfl rfl (Nat.le_of_ble_eq_true rfl) (Nat.le_of_ble_eq_true rfl) dX8_init_20 (mkWo31 hA (fun a ha => (pu_z (by omega) (hP a (by omega))))) ?_
  show Gc κ mX8_init (rmX 3 171 10123) (zX κ 172 P 171 10123) 60 3712 23 [some (vr 0)] [vr 31, vr 0] 61 (pu P 0 [1, 2, 3, 4, 5, 6, 7, 8, 9])
  refine Gc.put (c := 8) (j := 1) mfX8_16 cl8 (by decide +kernel) (by decide) (by decide) rfl (by decide +kernel) (nfR (by decide +kernel)) (fun _ => ⟨rfl, rfl⟩) dX8_init_23 ?_
  show Gc κ mX8_init (rmX 3 171 10123) (zX κ 172 P 171 10123) 60 3712 26 [some (vr 0)] [] 61 (pu P 0 [2, 3, 4, 5, 6, 7, 8, 9])
  refine Gc.aload 0 rfl rfl dX8_init_26 ?_
  show Gc κ mX8_init (rmX 3 171 10123) (zX κ 172 P 171 10123) 60 3712 27 [some (vr 0)] [vr 0] 61 (pu P 0 [2, 3, 4, 5, 6, 7, 8, 9])
  refine Gc.new (c := 3) [0] (by decide) (by decide +kernel) cl3 mnX8_19 rfl (by decide +kernel) (by decide +kernel) (cn' := 61) (sl' := 3715) rfl rfl (Nat.le_of_ble_eq_true rfl) (Nat.le_of_ble_eq_true rfl) dX8_init_27 ?_
  show Gc κ mX8_init (rmX 3 171 10123) (zX κ 172 P 171 10123) 61 3715 30 [some (vr 0)] [vr 61, vr 0] 62 (pu (pu P 0 [2, 3, 4, 5, 6, 7, 8, 9]) 61 [0])
  refine Gc.dup dX8_init_30 ?_
  show Gc κ mX8_init (rmX 3 171 10123) (zX κ 172 P 171 10123) 61 3715 31 [some (vr 0)] [vr 61, vr 61, vr 0] 62 (pu (pu P 0 [2, 3, 4, 5, 6, 7, 8, 9]) 61 [0])
  refine Gc.call [] [vr 61, vr 0] mcX8_21 rfl rfl (Nat.le_of_ble_eq_true rfl) ⟨(Nat.le_of_ble_eq_true rfl), (Nat.le_of_ble_eq_true rfl)⟩ (cn' := 140) (sl' := 7105) rfl rfl (Nat.le_of_ble_eq_true rfl) (Nat.le_of_ble_eq_true rfl) dX8_init_31 (mkPa hA (fun a ha => (pu_z (by omega) (hP a (by omega))))) ?_
  show Gc κ mX8_init (rmX 3 171 10123) (zX κ 172 P 171 10123) 140 7105 34 [some (vr 0)] [vr 61, vr 0] 141 (pu P 0 [2, 3, 4, 5, 6, 7, 8, 9])
  refine Gc.put (c := 8) (j := 2) mfX8_22 cl8 (by decide +kernel) (by decide) (by decide) rfl (by decide +kernel) (nfR (by decide +kernel)) (fun _ => ⟨rfl, rfl⟩) dX8_init_34 ?_
  show Gc κ mX8_init (rmX 3 171 10123) (zX κ 172 P 171 10123) 140 7105 37 [some (vr 0)] [] 141 (pu P 0 [3, 4, 5, 6, 7, 8, 9])
  refine Gc.aload 0 rfl rfl dX8_init_37 ?_
  show Gc κ mX8_init (rmX 3 171 10123) (zX κ 172 P 171 10123) 140 7105 38 [some (vr 0)] [vr 0] 141 (pu P 0 [3, 4, 5, 6, 7, 8, 9])
  refine Gc.new (c := 4) [0, 3, 4, 5, 6, 7] (by decide) (by decide +kernel) cl4 mnX8_26 rfl (by decide +kernel) (by decide +kernel) (cn' := 141) (sl' := 7115) rfl rfl (Nat.le_of_ble_eq_true rfl) (Nat.le_of_ble_eq_true rfl) dX8_init_38 ?_
  show Gc κ mX8_init (rmX 3 171 10123) (zX κ 172 P 171 10123) 141 7115 41 [some (vr 0)] [vr 141, vr 0] 142 (pu (pu P 0 [3, 4, 5, 6, 7, 8, 9]) 141 [0, 3, 4, 5, 6, 7])
  refine Gc.dup dX8_init_41 ?_
  show Gc κ mX8_init (rmX 3 171 10123) (zX κ 172 P 171 10123) 141 7115 42 [some (vr 0)] [vr 141, vr 141, vr 0] 142 (pu (pu P 0 [3, 4, 5, 6, 7, 8, 9]) 141 [0, 3, 4, 5, 6, 7])
  refine Gc.call [] [vr 141, vr 0] mcX8_28 rfl rfl (Nat.le_of_ble_eq_true rfl) ⟨(Nat.le_of_ble_eq_true rfl), (Nat.le_of_ble_eq_true rfl)⟩ (cn' := 148) (sl' := 9220) rfl rfl (Nat.le_of_ble_eq_true rfl) (Nat.le_of_ble_eq_true rfl) dX8_init_42 (mkRe hA (fun a ha => (pu_z (by omega) (hP a (by omega))))) ?_
  show Gc κ mX8_init (rmX 3 171 10123) (zX κ 172 P 171 10123) 148 9220 45 [some (vr 0)] [vr 141, vr 0] 149 (pu P 0 [3, 4, 5, 6, 7, 8, 9])
  refine Gc.put (c := 8) (j := 3) mfX8_29 cl8 (by decide +kernel) (by decide) (by decide) rfl (by decide +kernel) (nfR (by decide +kernel)) (fun _ => ⟨rfl, rfl⟩) dX8_init_45 ?_
  show Gc κ mX8_init (rmX 3 171 10123) (zX κ 172 P 171 10123) 148 9220 48 [some (vr 0)] [] 149 (pu P 0 [4, 5, 6, 7, 8, 9])
  refine Gc.aload 0 rfl rfl dX8_init_48 ?_
  show Gc κ mX8_init (rmX 3 171 10123) (zX κ 172 P 171 10123) 148 9220 49 [some (vr 0)] [vr 0] 149 (pu P 0 [4, 5, 6, 7, 8, 9])
  refine Gc.new (c := 2) [0, 1] (by decide) (by decide +kernel) cl2 mnX8_33 rfl (by decide +kernel) (by decide +kernel) (cn' := 149) (sl' := 9223) rfl rfl (Nat.le_of_ble_eq_true rfl) (Nat.le_of_ble_eq_true rfl) dX8_init_49 ?_
  show Gc κ mX8_init (rmX 3 171 10123) (zX κ 172 P 171 10123) 149 9223 52 [some (vr 0)] [vr 149, vr 0] 150 (pu (pu P 0 [4, 5, 6, 7, 8, 9]) 149 [0, 1])
  refine Gc.dup dX8_init_52 ?_
  show Gc κ mX8_init (rmX 3 171 10123) (zX κ 172 P 171 10123) 149 9223 53 [some (vr 0)] [vr 149, vr 149, vr 0] 150 (pu (pu P 0 [4, 5, 6, 7, 8, 9]) 149 [0, 1])
  refine Gc.call [] [vr 149, vr 0] mcX8_35 rfl rfl (Nat.le_of_ble_eq_true rfl) ⟨(Nat.le_of_ble_eq_true rfl), (Nat.le_of_ble_eq_true rfl)⟩ (cn' := 151) (sl' := 9297) rfl rfl (Nat.le_of_ble_eq_true rfl) (Nat.le_of_ble_eq_true rfl) dX8_init_53 (mkJu hA (fun a ha => (pu_z (by omega) (hP a (by omega))))) ?_
  show Gc κ mX8_init (rmX 3 171 10123) (zX κ 172 P 171 10123) 151 9297 56 [some (vr 0)] [vr 149, vr 0] 152 (pu P 0 [4, 5, 6, 7, 8, 9])
  refine Gc.put (c := 8) (j := 4) mfX8_36 cl8 (by decide +kernel) (by decide) (by decide) rfl (by decide +kernel) (nfR (by decide +kernel)) (fun _ => ⟨rfl, rfl⟩) dX8_init_56 ?_
  show Gc κ mX8_init (rmX 3 171 10123) (zX κ 172 P 171 10123) 151 9297 59 [some (vr 0)] [] 152 (pu P 0 [5, 6, 7, 8, 9])
  refine Gc.aload 0 rfl rfl dX8_init_59 ?_
  show Gc κ mX8_init (rmX 3 171 10123) (zX κ 172 P 171 10123) 151 9297 60 [some (vr 0)] [vr 0] 152 (pu P 0 [5, 6, 7, 8, 9])
  refine Gc.new (c := 0) [0, 1, 2, 4] (by decide) (by decide +kernel) cl0 mnX8_40 rfl (by decide +kernel) (by decide +kernel) (cn' := 152) (sl' := 9303) rfl rfl (Nat.le_of_ble_eq_true rfl) (Nat.le_of_ble_eq_true rfl) dX8_init_60 ?_
  show Gc κ mX8_init (rmX 3 171 10123) (zX κ 172 P 171 10123) 152 9303 63 [some (vr 0)] [vr 152, vr 0] 153 (pu (pu P 0 [5, 6, 7, 8, 9]) 152 [0, 1, 2, 4])
  refine Gc.dup dX8_init_63 ?_
  show Gc κ mX8_init (rmX 3 171 10123) (zX κ 172 P 171 10123) 152 9303 64 [some (vr 0)] [vr 152, vr 152, vr 0] 153 (pu (pu P 0 [5, 6, 7, 8, 9]) 152 [0, 1, 2, 4])
  refine Gc.aload 0 rfl rfl dX8_init_64 ?_
  show Gc κ mX8_init (rmX 3 171 10123) (zX κ 172 P 171 10123) 152 9303 65 [some (vr 0)] [vr 0, vr 152, vr 152, vr 0] 153 (pu (pu P 0 [5, 6, 7, 8, 9]) 152 [0, 1, 2, 4])
  refine Gc.get (x := vr 1) (c := 8) (j := 0) mfX8_12 cl8 (by decide +kernel) (by decide) (by rw [pu_ne (by decide), pu_at]; rfl) (by decide +kernel) dX8_init_65 ?_
  show Gc κ mX8_init (rmX 3 171 10123) (zX κ 172 P 171 10123) 152 9303 68 [some (vr 0)] [vr 1, vr 152, vr 152, vr 0] 153 (pu (pu P 0 [5, 6, 7, 8, 9]) 152 [0, 1, 2, 4])
  refine Gc.aload 0 rfl rfl dX8_init_68 ?_
  show Gc κ mX8_init (rmX 3 171 10123) (zX κ 172 P 171 10123) 152 9303 69 [some (vr 0)] [vr 0, vr 1, vr 152, vr 152, vr 0] 153 (pu (pu P 0 [5, 6, 7, 8, 9]) 152 [0, 1, 2, 4])
  refine Gc.get (x := vr 149) (c := 8) (j := 4) mfX8_36 cl8 (by decide +kernel) (by decide) (by rw [pu_ne (by decide), pu_at]; rfl) (by decide +kernel) dX8_init_69 ?_
  show Gc κ mX8_init (rmX 3 171 10123) (zX κ 172 P 171 10123) 152 9303 72 [some (vr 0)] [vr 149, vr 1, vr 152, vr 152, vr 0] 153 (pu (pu P 0 [5, 6, 7, 8, 9]) 152 [0, 1, 2, 4])
  refine Gc.call [vr 1, vr 149] [vr 152, vr 0] mcX8_42 rfl rfl (Nat.le_of_ble_eq_true rfl) ⟨(Nat.le_of_ble_eq_true rfl), (Nat.le_of_ble_eq_true rfl)⟩ (cn' := 152) (sl' := 9303) rfl rfl (Nat.le_of_ble_eq_true rfl) (Nat.le_of_ble_eq_true rfl) dX8_init_72 (mkCo hA (pu_z (by decide) (hP 1 (by decide))) (fun a ha => (pu_z (by omega) (hP a (by omega))))) ?_
  show Gc κ mX8_init (rmX 3 171 10123) (zX κ 172 P 171 10123) 152 9303 75 [some (vr 0)] [vr 152, vr 0] 153 (pu P 0 [5, 6, 7, 8, 9])
  refine Gc.put (c := 8) (j := 5) mfX8_45 cl8 (by decide +kernel) (by decide) (by decide) rfl (by decide +kernel) (nfR (by decide +kernel)) (fun _ => ⟨rfl, rfl⟩) dX8_init_75 ?_
  show Gc κ mX8_init (rmX 3 171 10123) (zX κ 172 P 171 10123) 152 9303 78 [some (vr 0)] [] 153 (pu P 0 [6, 7, 8, 9])
  refine Gc.aload 0 rfl rfl dX8_init_78 ?_
  show Gc κ mX8_init (rmX 3 171 10123) (zX κ 172 P 171 10123) 152 9303 79 [some (vr 0)] [vr 0] 153 (pu P 0 [6, 7, 8, 9])
  refine Gc.new (c := 6) [6, 7, 8, 9, 10, 11, 12, 13, 14, 15, 16, 17] (by decide) (by decide +kernel) cl6 mnX8_49 rfl (by decide +kernel) (by decide +kernel) (cn' := 153) (sl' := 9321) rfl rfl (Nat.le_of_ble_eq_true rfl) (Nat.le_of_ble_eq_true rfl) dX8_init_79 ?_
  show Gc κ mX8_init (rmX 3 171 10123) (zX κ 172 P 171 10123) 153 9321 82 [some (vr 0)] [vr 153, vr 0] 154 (pu (pu P 0 [6, 7, 8, 9]) 153 [6, 7, 8, 9, 10, 11, 12, 13, 14, 15, 16, 17])
  refine Gc.dup dX8_init_82 ?_
  show Gc κ mX8_init (rmX 3 171 10123) (zX κ 172 P 171 10123) 153 9321 83 [some (vr 0)] [vr 153, vr 153, vr 0] 154 (pu (pu P 0 [6, 7, 8, 9]) 153 [6, 7, 8, 9, 10, 11, 12, 13, 14, 15, 16, 17])
  refine Gc.call [] [vr 153, vr 0] mcX8_51 rfl rfl (Nat.le_of_ble_eq_true rfl) ⟨(Nat.le_of_ble_eq_true rfl), (Nat.le_of_ble_eq_true rfl)⟩ (cn' := 165) (sl' := 9867) rfl rfl (Nat.le_of_ble_eq_true rfl) (Nat.le_of_ble_eq_true rfl) dX8_init_83 (mkTa hA (k := 153) (by decide) (fun a ha => (pu_z (by omega) (hP a (by omega))))) ?_
  show Gc κ mX8_init (rmX 3 171 10123) (zX κ 172 P 171 10123) 165 9867 86 [some (vr 0)] [vr 153, vr 0] 166 (pu P 0 [6, 7, 8, 9])
  refine Gc.put (c := 8) (j := 6) mfX8_52 cl8 (by decide +kernel) (by decide) (by decide) rfl (by decide +kernel) (nfR (by decide +kernel)) (fun _ => ⟨rfl, rfl⟩) dX8_init_86 ?_
  show Gc κ mX8_init (rmX 3 171 10123) (zX κ 172 P 171 10123) 165 9867 89 [some (vr 0)] [] 166 (pu P 0 [7, 8, 9])
  refine Gc.aload 0 rfl rfl dX8_init_89 ?_
  show Gc κ mX8_init (rmX 3 171 10123) (zX κ 172 P 171 10123) 165 9867 90 [some (vr 0)] [vr 0] 166 (pu P 0 [7, 8, 9])
  refine Gc.new (c := 1) [0, 2, 3, 4] (by decide) (by decide +kernel) cl1 mnX8_56 rfl (by decide +kernel) (by decide +kernel) (cn' := 166) (sl' := 9872) rfl rfl (Nat.le_of_ble_eq_true rfl) (Nat.le_of_ble_eq_true rfl) dX8_init_90 ?_
  show Gc κ mX8_init (rmX 3 171 10123) (zX κ 172 P 171 10123) 166 9872 93 [some (vr 0)] [vr 166, vr 0] 167 (pu (pu P 0 [7, 8, 9]) 166 [0, 2, 3, 4])
  refine Gc.dup dX8_init_93 ?_
  show Gc κ mX8_init (rmX 3 171 10123) (zX κ 172 P 171 10123) 166 9872 94 [some (vr 0)] [vr 166, vr 166, vr 0] 167 (pu (pu P 0 [7, 8, 9]) 166 [0, 2, 3, 4])
  refine Gc.call [] [vr 166, vr 0] mcX8_58 rfl rfl (Nat.le_of_ble_eq_true rfl) ⟨(Nat.le_of_ble_eq_true rfl), (Nat.le_of_ble_eq_true rfl)⟩ (cn' := 170) (sl' := 10062) rfl rfl (Nat.le_of_ble_eq_true rfl) (Nat.le_of_ble_eq_true rfl) dX8_init_94 (mkGl hA (fun a ha => (pu_z (by omega) (hP a (by omega))))) ?_
  show Gc κ mX8_init (rmX 3 171 10123) (zX κ 172 P 171 10123) 170 10062 97 [some (vr 0)] [vr 166, vr 0] 171 (pu P 0 [7, 8, 9])
  refine Gc.put (c := 8) (j := 7) mfX8_59 cl8 (by decide +kernel) (by decide) (by decide) rfl (by decide +kernel) (nfR (by decide +kernel)) (fun _ => ⟨rfl, rfl⟩) dX8_init_97 ?_
  show Gc κ mX8_init (rmX 3 171 10123) (zX κ 172 P 171 10123) 170 10062 100 [some (vr 0)] [] 171 (pu P 0 [8, 9])
  refine Gc.aload 0 rfl rfl dX8_init_100 ?_
  show Gc κ mX8_init (rmX 3 171 10123) (zX κ 172 P 171 10123) 170 10062 101 [some (vr 0)] [vr 0] 171 (pu P 0 [8, 9])
  refine Gc.bipush dX8_init_101 (by decide) ?_
  show Gc κ mX8_init (rmX 3 171 10123) (zX κ 172 P 171 10123) 170 10062 103 [some (vr 0)] [vi 61, vr 0] 171 (pu P 0 [8, 9])
  refine Gc.arr0 (pu_z (by omega) (hP 171 (by omega))) (by decide) (by decide +kernel) rfl (fun j _ => s0Z (by decide +kernel) j) acI (cn' := 171) (sl' := 10123) rfl rfl (Nat.le_of_ble_eq_true rfl) (Nat.le_of_ble_eq_true rfl) dX8_init_103 ?_
  show Gc κ mX8_init (rmX 3 171 10123) (zX κ 172 P 171 10123) 171 10123 105 [some (vr 0)] [vr 171, vr 0] 172 (pu P 0 [8, 9])
  refine Gc.put (c := 8) (j := 8) mfX8_63 cl8 (by decide +kernel) (by decide) (by decide) rfl (by decide +kernel) (nfR (by decide +kernel)) (fun _ => ⟨rfl, rfl⟩) dX8_init_105 ?_
  show Gc κ mX8_init (rmX 3 171 10123) (zX κ 172 P 171 10123) 171 10123 108 [some (vr 0)] [] 172 (pu P 0 [9])
  refine Gc.aload 0 rfl rfl dX8_init_108 ?_
  show Gc κ mX8_init (rmX 3 171 10123) (zX κ 172 P 171 10123) 171 10123 109 [some (vr 0)] [vr 0] 172 (pu P 0 [9])
  refine Gc.iconst dX8_init_109 ?_
  show Gc κ mX8_init (rmX 3 171 10123) (zX κ 172 P 171 10123) 171 10123 110 [some (vr 0)] [vi 0, vr 0] 172 (pu P 0 [9])
  refine Gc.put (c := 8) (j := 9) mfX8_67 cl8 (by decide +kernel) (by decide) (by decide) rfl (by decide +kernel) (nfZ (by decide +kernel)) (fun z => absurd z (by decide +kernel)) dX8_init_110 ?_
  show Gc κ mX8_init (rmX 3 171 10123) (zX κ 172 P 171 10123) 171 10123 113 [some (vr 0)] [] 172 (pu P 0 [])
  refine Gc.fin (hP 0 (by omega)) ?_
  show Gc κ mX8_init (rmX 3 171 10123) (zX κ 172 P 171 10123) 171 10123 113 [some (vr 0)] [] 172 P
  exact Gc.ret rfl dX8_init_113
set_option maxRecDepth 100000 in
theorem mkMo {κ : Kx} (hA : ad κ) {P : Nat → List Nat} (hP : ∀ a, 172 ≤ a → P a = []) : ConX κ mX9_init 1 16 10370 [vr 172] 173 (pu P 172 [0, 1, 2, 3, 6, 7, 8, 9, 10, 11, 25, 27, 29, 30, 31, 32, 33, 34]) 189 P := by
  refine conX_of (M := mX9_init) (by decide +kernel) hA (Nat.le_of_ble_eq_true rfl) 0 ?_
  show Gc κ mX9_init (rmX 1 16 10370) (zX κ 189 P 16 10370) 0 0 0 [some (vr 172)] [] 173 (pu P 172 [0, 1, 2, 3, 6, 7, 8, 9, 10, 11, 25, 27, 29, 30, 31, 32, 33, 34])
  refine Gc.aload 0 rfl rfl dX9_init_0 ?_
  show Gc κ mX9_init (rmX 1 16 10370) (zX κ 189 P 16 10370) 0 0 1 [some (vr 172)] [vr 172] 173 (pu P 172 [0, 1, 2, 3, 6, 7, 8, 9, 10, 11, 25, 27, 29, 30, 31, 32, 33, 34])
  refine Gc.obj moX9 ⟨(Nat.le_of_ble_eq_true rfl), (Nat.le_of_ble_eq_true rfl)⟩ (Nat.le_of_ble_eq_true rfl) dX9_init_1 ?_
  show Gc κ mX9_init (rmX 1 16 10370) (zX κ 189 P 16 10370) 0 0 4 [some (vr 172)] [] 173 (pu P 172 [0, 1, 2, 3, 6, 7, 8, 9, 10, 11, 25, 27, 29, 30, 31, 32, 33, 34])
  refine Gc.aload 0 rfl rfl dX9_init_4 ?_
  show Gc κ mX9_init (rmX 1 16 10370) (zX κ 189 P 16 10370) 0 0 5 [some (vr 172)] [vr 172] 173 (pu P 172 [0, 1, 2, 3, 6, 7, 8, 9, 10, 11, 25, 27, 29, 30, 31, 32, 33, 34])
  refine Gc.sipush dX9_init_5 (by decide) ?_
  show Gc κ mX9_init (rmX 1 16 10370) (zX κ 189 P 16 10370) 0 0 8 [some (vr 172)] [vi 2217, vr 172] 173 (pu P 172 [0, 1, 2, 3, 6, 7, 8, 9, 10, 11, 25, 27, 29, 30, 31, 32, 33, 34])
  refine Gc.arr [4, 5, 548, 549] (by decide) (by decide +kernel) rfl (fun j _ => s0Z (by decide +kernel) j) acI (cn' := 1) (sl' := 2217) rfl rfl (Nat.le_of_ble_eq_true rfl) (Nat.le_of_ble_eq_true rfl) dX9_init_8 ?_
  show Gc κ mX9_init (rmX 1 16 10370) (zX κ 189 P 16 10370) 1 2217 10 [some (vr 172)] [vr 173, vr 172] 174 (pu (pu P 172 [0, 1, 2, 3, 6, 7, 8, 9, 10, 11, 25, 27, 29, 30, 31, 32, 33, 34]) 173 [4, 5, 548, 549])
  refine Gc.comm (by decide) ?_
  show Gc κ mX9_init (rmX 1 16 10370) (zX κ 189 P 16 10370) 1 2217 10 [some (vr 172)] [vr 173, vr 172] 174 (pu (pu P 173 [4, 5, 548, 549]) 172 [0, 1, 2, 3, 6, 7, 8, 9, 10, 11, 25, 27, 29, 30, 31, 32, 33, 34])
  refine Gc.put (c := 9) (j := 0) mfX9_7 cl9 (by decide +kernel) (by decide) (by decide) rfl (by decide +kernel) (nfR (by decide +kernel)) (fun _ => ⟨rfl, rfl⟩) dX9_init_10 ?_
  show Gc κ mX9_init (rmX 1 16 10370) (zX κ 189 P 16 10370) 1 2217 13 [some (vr 172)] [] 174 (pu (pu P 173 [4, 5, 548, 549]) 172 [1, 2, 3, 6, 7, 8, 9, 10, 11, 25, 27, 29, 30, 31, 32, 33, 34])
  refine Gc.aload 0 rfl rfl dX9_init_13 ?_
  show Gc κ mX9_init (rmX 1 16 10370) (zX κ 189 P 16 10370) 1 2217 14 [some (vr 172)] [vr 172] 174 (pu (pu P 173 [4, 5, 548, 549]) 172 [1, 2, 3, 6, 7, 8, 9, 10, 11, 25, 27, 29, 30, 31, 32, 33, 34])
  refine Gc.sipush dX9_init_14 (by decide) ?_
  show Gc κ mX9_init (rmX 1 16 10370) (zX κ 189 P 16 10370) 1 2217 17 [some (vr 172)] [vi 2217, vr 172] 174 (pu (pu P 173 [4, 5, 548, 549]) 172 [1, 2, 3, 6, 7, 8, 9, 10, 11, 25, 27, 29, 30, 31, 32, 33, 34])
  refine Gc.arr0 (pu_z (by omega) (pu_z (by omega) (hP 174 (by omega)))) (by decide) (by decide +kernel) rfl (fun j _ => s0Z (by decide +kernel) j) acI (cn' := 2) (sl' := 4434) rfl rfl (Nat.le_of_ble_eq_true rfl) (Nat.le_of_ble_eq_true rfl) dX9_init_17 ?_
  show Gc κ mX9_init (rmX 1 16 10370) (zX κ 189 P 16 10370) 2 4434 19 [some (vr 172)] [vr 174, vr 172] 175 (pu (pu P 173 [4, 5, 548, 549]) 172 [1, 2, 3, 6, 7, 8, 9, 10, 11, 25, 27, 29, 30, 31, 32, 33, 34])
  refine Gc.put (c := 9) (j := 1) mfX9_13 cl9 (by decide +kernel) (by decide) (by decide) rfl (by decide +kernel) (nfR (by decide +kernel)) (fun _ => ⟨rfl, rfl⟩) dX9_init_19 ?_
  show Gc κ mX9_init (rmX 1 16 10370) (zX κ 189 P 16 10370) 2 4434 22 [some (vr 172)] [] 175 (pu (pu P 173 [4, 5, 548, 549]) 172 [2, 3, 6, 7, 8, 9, 10, 11, 25, 27, 29, 30, 31, 32, 33, 34])
  refine Gc.aload 0 rfl rfl dX9_init_22 ?_
  show Gc κ mX9_init (rmX 1 16 10370) (zX κ 189 P 16 10370) 2 4434 23 [some (vr 172)] [vr 172] 175 (pu (pu P 173 [4, 5, 548, 549]) 172 [2, 3, 6, 7, 8, 9, 10, 11, 25, 27, 29, 30, 31, 32, 33, 34])
  refine Gc.sipush dX9_init_23 (by decide) ?_
  show Gc κ mX9_init (rmX 1 16 10370) (zX κ 189 P 16 10370) 2 4434 26 [some (vr 172)] [vi 3288, vr 172] 175 (pu (pu P 173 [4, 5, 548, 549]) 172 [2, 3, 6, 7, 8, 9, 10, 11, 25, 27, 29, 30, 31, 32, 33, 34])
  refine Gc.arr0 (pu_z (by omega) (pu_z (by omega) (hP 175 (by omega)))) (by decide) (by decide +kernel) rfl (fun j _ => s0Z (by decide +kernel) j) acI (cn' := 3) (sl' := 7722) rfl rfl (Nat.le_of_ble_eq_true rfl) (Nat.le_of_ble_eq_true rfl) dX9_init_26 ?_
  show Gc κ mX9_init (rmX 1 16 10370) (zX κ 189 P 16 10370) 3 7722 28 [some (vr 172)] [vr 175, vr 172] 176 (pu (pu P 173 [4, 5, 548, 549]) 172 [2, 3, 6, 7, 8, 9, 10, 11, 25, 27, 29, 30, 31, 32, 33, 34])
  refine Gc.put (c := 9) (j := 2) mfX9_16 cl9 (by decide +kernel) (by decide) (by decide) rfl (by decide +kernel) (nfR (by decide +kernel)) (fun _ => ⟨rfl, rfl⟩) dX9_init_28 ?_
  show Gc κ mX9_init (rmX 1 16 10370) (zX κ 189 P 16 10370) 3 7722 31 [some (vr 172)] [] 176 (pu (pu P 173 [4, 5, 548, 549]) 172 [3, 6, 7, 8, 9, 10, 11, 25, 27, 29, 30, 31, 32, 33, 34])
  refine Gc.aload 0 rfl rfl dX9_init_31 ?_
  show Gc κ mX9_init (rmX 1 16 10370) (zX κ 189 P 16 10370) 3 7722 32 [some (vr 172)] [vr 172] 176 (pu (pu P 173 [4, 5, 548, 549]) 172 [3, 6, 7, 8, 9, 10, 11, 25, 27, 29, 30, 31, 32, 33, 34])
  refine Gc.sipush dX9_init_32 (by decide) ?_
  show Gc κ mX9_init (rmX 1 16 10370) (zX κ 189 P 16 10370) 3 7722 35 [some (vr 172)] [vi 548, vr 172] 176 (pu (pu P 173 [4, 5, 548, 549]) 172 [3, 6, 7, 8, 9, 10, 11, 25, 27, 29, 30, 31, 32, 33, 34])
  refine Gc.arr0 (pu_z (by omega) (pu_z (by omega) (hP 176 (by omega)))) (by decide) (by decide +kernel) rfl (fun j _ => s0Z (by decide +kernel) j) acI (cn' := 4) (sl' := 8270) rfl rfl (Nat.le_of_ble_eq_true rfl) (Nat.le_of_ble_eq_true rfl) dX9_init_35 ?_
  show Gc κ mX9_init (rmX 1 16 10370) (zX κ 189 P 16 10370) 4 8270 37 [some (vr 172)] [vr 176, vr 172] 177 (pu (pu P 173 [4, 5, 548, 549]) 172 [3, 6, 7, 8, 9, 10, 11, 25, 27, 29, 30, 31, 32, 33, 34])
  refine Gc.put (c := 9) (j := 3) mfX9_19 cl9 (by decide +kernel) (by decide) (by decide) rfl (by decide +kernel) (nfR (by decide +kernel)) (fun _ => ⟨rfl, rfl⟩) dX9_init_37 ?_
  show Gc κ mX9_init (rmX 1 16 10370) (zX κ 189 P 16 10370) 4 8270 40 [some (vr 172)] [] 177 (pu (pu P 173 [4, 5, 548, 549]) 172 [6, 7, 8, 9, 10, 11, 25, 27, 29, 30, 31, 32, 33, 34])
  refine Gc.aload 0 rfl rfl dX9_init_40 ?_
  show Gc κ mX9_init (rmX 1 16 10370) (zX κ 189 P 16 10370) 4 8270 41 [some (vr 172)] [vr 172] 177 (pu (pu P 173 [4, 5, 548, 549]) 172 [6, 7, 8, 9, 10, 11, 25, 27, 29, 30, 31, 32, 33, 34])
  refine Gc.bipush dX9_init_41 (by decide) ?_
  show Gc κ mX9_init (rmX 1 16 10370) (zX κ 189 P 16 10370) 4 8270 43 [some (vr 172)] [vi 64, vr 172] 177 (pu (pu P 173 [4, 5, 548, 549]) 172 [6, 7, 8, 9, 10, 11, 25, 27, 29, 30, 31, 32, 33, 34])
  refine Gc.arr0 (pu_z (by omega) (pu_z (by omega) (hP 177 (by omega)))) (by decide) (by decide +kernel) rfl (fun j _ => s0Z (by decide +kernel) j) acI (cn' := 5) (sl' := 8334) rfl rfl (Nat.le_of_ble_eq_true rfl) (Nat.le_of_ble_eq_true rfl) dX9_init_43 ?_
  show Gc κ mX9_init (rmX 1 16 10370) (zX κ 189 P 16 10370) 5 8334 45 [some (vr 172)] [vr 177, vr 172] 178 (pu (pu P 173 [4, 5, 548, 549]) 172 [6, 7, 8, 9, 10, 11, 25, 27, 29, 30, 31, 32, 33, 34])
  refine Gc.put (c := 9) (j := 6) mfX9_22 cl9 (by decide +kernel) (by decide) (by decide) rfl (by decide +kernel) (nfR (by decide +kernel)) (fun _ => ⟨rfl, rfl⟩) dX9_init_45 ?_
  show Gc κ mX9_init (rmX 1 16 10370) (zX κ 189 P 16 10370) 5 8334 48 [some (vr 172)] [] 178 (pu (pu P 173 [4, 5, 548, 549]) 172 [7, 8, 9, 10, 11, 25, 27, 29, 30, 31, 32, 33, 34])
  refine Gc.aload 0 rfl rfl dX9_init_48 ?_
  show Gc κ mX9_init (rmX 1 16 10370) (zX κ 189 P 16 10370) 5 8334 49 [some (vr 172)] [vr 172] 178 (pu (pu P 173 [4, 5, 548, 549]) 172 [7, 8, 9, 10, 11, 25, 27, 29, 30, 31, 32, 33, 34])
  refine Gc.sipush dX9_init_49 (by decide) ?_
  show Gc κ mX9_init (rmX 1 16 10370) (zX κ 189 P 16 10370) 5 8334 52 [some (vr 172)] [vi 820, vr 172] 178 (pu (pu P 173 [4, 5, 548, 549]) 172 [7, 8, 9, 10, 11, 25, 27, 29, 30, 31, 32, 33, 34])
  refine Gc.arr0 (pu_z (by omega) (pu_z (by omega) (hP 178 (by omega)))) (by decide) (by decide +kernel) rfl (fun j _ => s0Z (by decide +kernel) j) acI (cn' := 6) (sl' := 9154) rfl rfl (Nat.le_of_ble_eq_true rfl) (Nat.le_of_ble_eq_true rfl) dX9_init_52 ?_
  show Gc κ mX9_init (rmX 1 16 10370) (zX κ 189 P 16 10370) 6 9154 54 [some (vr 172)] [vr 178, vr 172] 179 (pu (pu P 173 [4, 5, 548, 549]) 172 [7, 8, 9, 10, 11, 25, 27, 29, 30, 31, 32, 33, 34])
  refine Gc.put (c := 9) (j := 7) mfX9_25 cl9 (by decide +kernel) (by decide) (by decide) rfl (by decide +kernel) (nfR (by decide +kernel)) (fun _ => ⟨rfl, rfl⟩) dX9_init_54 ?_
  show Gc κ mX9_init (rmX 1 16 10370) (zX κ 189 P 16 10370) 6 9154 57 [some (vr 172)] [] 179 (pu (pu P 173 [4, 5, 548, 549]) 172 [8, 9, 10, 11, 25, 27, 29, 30, 31, 32, 33, 34])
  refine Gc.aload 0 rfl rfl dX9_init_57 ?_
  show Gc κ mX9_init (rmX 1 16 10370) (zX κ 189 P 16 10370) 6 9154 58 [some (vr 172)] [vr 172] 179 (pu (pu P 173 [4, 5, 548, 549]) 172 [8, 9, 10, 11, 25, 27, 29, 30, 31, 32, 33, 34])
  refine Gc.bipush dX9_init_58 (by decide) ?_
  show Gc κ mX9_init (rmX 1 16 10370) (zX κ 189 P 16 10370) 6 9154 60 [some (vr 172)] [vi 80, vr 172] 179 (pu (pu P 173 [4, 5, 548, 549]) 172 [8, 9, 10, 11, 25, 27, 29, 30, 31, 32, 33, 34])
  refine Gc.arr0 (pu_z (by omega) (pu_z (by omega) (hP 179 (by omega)))) (by decide) (by decide +kernel) rfl (fun j _ => s0Z (by decide +kernel) j) acI (cn' := 7) (sl' := 9234) rfl rfl (Nat.le_of_ble_eq_true rfl) (Nat.le_of_ble_eq_true rfl) dX9_init_60 ?_
  show Gc κ mX9_init (rmX 1 16 10370) (zX κ 189 P 16 10370) 7 9234 62 [some (vr 172)] [vr 179, vr 172] 180 (pu (pu P 173 [4, 5, 548, 549]) 172 [8, 9, 10, 11, 25, 27, 29, 30, 31, 32, 33, 34])
  refine Gc.put (c := 9) (j := 8) mfX9_28 cl9 (by decide +kernel) (by decide) (by decide) rfl (by decide +kernel) (nfR (by decide +kernel)) (fun _ => ⟨rfl, rfl⟩) dX9_init_62 ?_
  show Gc κ mX9_init (rmX 1 16 10370) (zX κ 189 P 16 10370) 7 9234 65 [some (vr 172)] [] 180 (pu (pu P 173 [4, 5, 548, 549]) 172 [9, 10, 11, 25, 27, 29, 30, 31, 32, 33, 34])
  refine Gc.aload 0 rfl rfl dX9_init_65 ?_
  show Gc κ mX9_init (rmX 1 16 10370) (zX κ 189 P 16 10370) 7 9234 66 [some (vr 172)] [vr 172] 180 (pu (pu P 173 [4, 5, 548, 549]) 172 [9, 10, 11, 25, 27, 29, 30, 31, 32, 33, 34])
  refine Gc.sipush dX9_init_66 (by decide) ?_
  show Gc κ mX9_init (rmX 1 16 10370) (zX κ 189 P 16 10370) 7 9234 69 [some (vr 172)] [vi 400, vr 172] 180 (pu (pu P 173 [4, 5, 548, 549]) 172 [9, 10, 11, 25, 27, 29, 30, 31, 32, 33, 34])
  refine Gc.arr0 (pu_z (by omega) (pu_z (by omega) (hP 180 (by omega)))) (by decide) (by decide +kernel) rfl (fun j _ => s0Z (by decide +kernel) j) acI (cn' := 8) (sl' := 9634) rfl rfl (Nat.le_of_ble_eq_true rfl) (Nat.le_of_ble_eq_true rfl) dX9_init_69 ?_
  show Gc κ mX9_init (rmX 1 16 10370) (zX κ 189 P 16 10370) 8 9634 71 [some (vr 172)] [vr 180, vr 172] 181 (pu (pu P 173 [4, 5, 548, 549]) 172 [9, 10, 11, 25, 27, 29, 30, 31, 32, 33, 34])
  refine Gc.put (c := 9) (j := 9) mfX9_31 cl9 (by decide +kernel) (by decide) (by decide) rfl (by decide +kernel) (nfR (by decide +kernel)) (fun _ => ⟨rfl, rfl⟩) dX9_init_71 ?_
  show Gc κ mX9_init (rmX 1 16 10370) (zX κ 189 P 16 10370) 8 9634 74 [some (vr 172)] [] 181 (pu (pu P 173 [4, 5, 548, 549]) 172 [10, 11, 25, 27, 29, 30, 31, 32, 33, 34])
  refine Gc.aload 0 rfl rfl dX9_init_74 ?_
  show Gc κ mX9_init (rmX 1 16 10370) (zX κ 189 P 16 10370) 8 9634 75 [some (vr 172)] [vr 172] 181 (pu (pu P 173 [4, 5, 548, 549]) 172 [10, 11, 25, 27, 29, 30, 31, 32, 33, 34])
  refine Gc.sipush dX9_init_75 (by decide) ?_
  show Gc κ mX9_init (rmX 1 16 10370) (zX κ 189 P 16 10370) 8 9634 78 [some (vr 172)] [vi 420, vr 172] 181 (pu (pu P 173 [4, 5, 548, 549]) 172 [10, 11, 25, 27, 29, 30, 31, 32, 33, 34])
  refine Gc.arr0 (pu_z (by omega) (pu_z (by omega) (hP 181 (by omega)))) (by decide) (by decide +kernel) rfl (fun j _ => s0Z (by decide +kernel) j) acI (cn' := 9) (sl' := 10054) rfl rfl (Nat.le_of_ble_eq_true rfl) (Nat.le_of_ble_eq_true rfl) dX9_init_78 ?_
  show Gc κ mX9_init (rmX 1 16 10370) (zX κ 189 P 16 10370) 9 10054 80 [some (vr 172)] [vr 181, vr 172] 182 (pu (pu P 173 [4, 5, 548, 549]) 172 [10, 11, 25, 27, 29, 30, 31, 32, 33, 34])
  refine Gc.put (c := 9) (j := 10) mfX9_34 cl9 (by decide +kernel) (by decide) (by decide) rfl (by decide +kernel) (nfR (by decide +kernel)) (fun _ => ⟨rfl, rfl⟩) dX9_init_80 ?_
  show Gc κ mX9_init (rmX 1 16 10370) (zX κ 189 P 16 10370) 9 10054 83 [some (vr 172)] [] 182 (pu (pu P 173 [4, 5, 548, 549]) 172 [11, 25, 27, 29, 30, 31, 32, 33, 34])
  refine Gc.aload 0 rfl rfl dX9_init_83 ?_
  show Gc κ mX9_init (rmX 1 16 10370) (zX κ 189 P 16 10370) 9 10054 84 [some (vr 172)] [vr 172] 182 (pu (pu P 173 [4, 5, 548, 549]) 172 [11, 25, 27, 29, 30, 31, 32, 33, 34])
  refine Gc.bipush dX9_init_84 (by decide) ?_
  show Gc κ mX9_init (rmX 1 16 10370) (zX κ 189 P 16 10370) 9 10054 86 [some (vr 172)] [vi 11, vr 172] 182 (pu (pu P 173 [4, 5, 548, 549]) 172 [11, 25, 27, 29, 30, 31, 32, 33, 34])
  refine Gc.arr0 (pu_z (by omega) (pu_z (by omega) (hP 182 (by omega)))) (by decide) (by decide +kernel) rfl (fun j _ => s0Z (by decide +kernel) j) acI (cn' := 10) (sl' := 10065) rfl rfl (Nat.le_of_ble_eq_true rfl) (Nat.le_of_ble_eq_true rfl) dX9_init_86 ?_
  show Gc κ mX9_init (rmX 1 16 10370) (zX κ 189 P 16 10370) 10 10065 88 [some (vr 172)] [vr 182, vr 172] 183 (pu (pu P 173 [4, 5, 548, 549]) 172 [11, 25, 27, 29, 30, 31, 32, 33, 34])
  refine Gc.put (c := 9) (j := 11) mfX9_37 cl9 (by decide +kernel) (by decide) (by decide) rfl (by decide +kernel) (nfR (by decide +kernel)) (fun _ => ⟨rfl, rfl⟩) dX9_init_88 ?_
  show Gc κ mX9_init (rmX 1 16 10370) (zX κ 189 P 16 10370) 10 10065 91 [some (vr 172)] [] 183 (pu (pu P 173 [4, 5, 548, 549]) 172 [25, 27, 29, 30, 31, 32, 33, 34])
  refine Gc.aload 0 rfl rfl dX9_init_91 ?_
  show Gc κ mX9_init (rmX 1 16 10370) (zX κ 189 P 16 10370) 10 10065 92 [some (vr 172)] [vr 172] 183 (pu (pu P 173 [4, 5, 548, 549]) 172 [25, 27, 29, 30, 31, 32, 33, 34])
  refine Gc.iconst dX9_init_92 ?_
  show Gc κ mX9_init (rmX 1 16 10370) (zX κ 189 P 16 10370) 10 10065 93 [some (vr 172)] [vi (-1), vr 172] 183 (pu (pu P 173 [4, 5, 548, 549]) 172 [25, 27, 29, 30, 31, 32, 33, 34])
  refine Gc.put (c := 9) (j := 25) mfX9_40 cl9 (by decide +kernel) (by decide) (by decide) rfl (by decide +kernel) (nfI (by decide +kernel)) (fun z => absurd z (by decide +kernel)) dX9_init_93 ?_
  show Gc κ mX9_init (rmX 1 16 10370) (zX κ 189 P 16 10370) 10 10065 96 [some (vr 172)] [] 183 (pu (pu P 173 [4, 5, 548, 549]) 172 [27, 29, 30, 31, 32, 33, 34])
  refine Gc.aload 0 rfl rfl dX9_init_96 ?_
  show Gc κ mX9_init (rmX 1 16 10370) (zX κ 189 P 16 10370) 10 10065 97 [some (vr 172)] [vr 172] 183 (pu (pu P 173 [4, 5, 548, 549]) 172 [27, 29, 30, 31, 32, 33, 34])
  refine Gc.iconst dX9_init_97 ?_
  show Gc κ mX9_init (rmX 1 16 10370) (zX κ 189 P 16 10370) 10 10065 98 [some (vr 172)] [vi (-1), vr 172] 183 (pu (pu P 173 [4, 5, 548, 549]) 172 [27, 29, 30, 31, 32, 33, 34])
  refine Gc.put (c := 9) (j := 27) mfX9_44 cl9 (by decide +kernel) (by decide) (by decide) rfl (by decide +kernel) (nfI (by decide +kernel)) (fun z => absurd z (by decide +kernel)) dX9_init_98 ?_
  show Gc κ mX9_init (rmX 1 16 10370) (zX κ 189 P 16 10370) 10 10065 101 [some (vr 172)] [] 183 (pu (pu P 173 [4, 5, 548, 549]) 172 [29, 30, 31, 32, 33, 34])
  refine Gc.aload 0 rfl rfl dX9_init_101 ?_
  show Gc κ mX9_init (rmX 1 16 10370) (zX κ 189 P 16 10370) 10 10065 102 [some (vr 172)] [vr 172] 183 (pu (pu P 173 [4, 5, 548, 549]) 172 [29, 30, 31, 32, 33, 34])
  refine Gc.iconst dX9_init_102 ?_
  show Gc κ mX9_init (rmX 1 16 10370) (zX κ 189 P 16 10370) 10 10065 103 [some (vr 172)] [vi 4, vr 172] 183 (pu (pu P 173 [4, 5, 548, 549]) 172 [29, 30, 31, 32, 33, 34])
  refine Gc.arr0 (pu_z (by omega) (pu_z (by omega) (hP 183 (by omega)))) (by decide) (by decide +kernel) rfl (fun j _ => s0Z (by decide +kernel) j) acI (cn' := 11) (sl' := 10069) rfl rfl (Nat.le_of_ble_eq_true rfl) (Nat.le_of_ble_eq_true rfl) dX9_init_103 ?_
  show Gc κ mX9_init (rmX 1 16 10370) (zX κ 189 P 16 10370) 11 10069 105 [some (vr 172)] [vr 183, vr 172] 184 (pu (pu P 173 [4, 5, 548, 549]) 172 [29, 30, 31, 32, 33, 34])
  refine Gc.put (c := 9) (j := 29) mfX9_47 cl9 (by decide +kernel) (by decide) (by decide) rfl (by decide +kernel) (nfR (by decide +kernel)) (fun _ => ⟨rfl, rfl⟩) dX9_init_105 ?_
  show Gc κ mX9_init (rmX 1 16 10370) (zX κ 189 P 16 10370) 11 10069 108 [some (vr 172)] [] 184 (pu (pu P 173 [4, 5, 548, 549]) 172 [30, 31, 32, 33, 34])
  refine Gc.aload 0 rfl rfl dX9_init_108 ?_
  show Gc κ mX9_init (rmX 1 16 10370) (zX κ 189 P 16 10370) 11 10069 109 [some (vr 172)] [vr 172] 184 (pu (pu P 173 [4, 5, 548, 549]) 172 [30, 31, 32, 33, 34])
  refine Gc.bipush dX9_init_109 (by decide) ?_
  show Gc κ mX9_init (rmX 1 16 10370) (zX κ 189 P 16 10370) 11 10069 111 [some (vr 172)] [vi 61, vr 172] 184 (pu (pu P 173 [4, 5, 548, 549]) 172 [30, 31, 32, 33, 34])
  refine Gc.arr0 (pu_z (by omega) (pu_z (by omega) (hP 184 (by omega)))) (by decide) (by decide +kernel) rfl (fun j _ => s0Z (by decide +kernel) j) acI (cn' := 12) (sl' := 10130) rfl rfl (Nat.le_of_ble_eq_true rfl) (Nat.le_of_ble_eq_true rfl) dX9_init_111 ?_
  show Gc κ mX9_init (rmX 1 16 10370) (zX κ 189 P 16 10370) 12 10130 113 [some (vr 172)] [vr 184, vr 172] 185 (pu (pu P 173 [4, 5, 548, 549]) 172 [30, 31, 32, 33, 34])
  refine Gc.put (c := 9) (j := 30) mfX9_50 cl9 (by decide +kernel) (by decide) (by decide) rfl (by decide +kernel) (nfR (by decide +kernel)) (fun _ => ⟨rfl, rfl⟩) dX9_init_113 ?_
  show Gc κ mX9_init (rmX 1 16 10370) (zX κ 189 P 16 10370) 12 10130 116 [some (vr 172)] [] 185 (pu (pu P 173 [4, 5, 548, 549]) 172 [31, 32, 33, 34])
  refine Gc.aload 0 rfl rfl dX9_init_116 ?_
  show Gc κ mX9_init (rmX 1 16 10370) (zX κ 189 P 16 10370) 12 10130 117 [some (vr 172)] [vr 172] 185 (pu (pu P 173 [4, 5, 548, 549]) 172 [31, 32, 33, 34])
  refine Gc.bipush dX9_init_117 (by decide) ?_
  show Gc κ mX9_init (rmX 1 16 10370) (zX κ 189 P 16 10370) 12 10130 119 [some (vr 172)] [vi 60, vr 172] 185 (pu (pu P 173 [4, 5, 548, 549]) 172 [31, 32, 33, 34])
  refine Gc.arr0 (pu_z (by omega) (pu_z (by omega) (hP 185 (by omega)))) (by decide) (by decide +kernel) rfl (fun j _ => s0Z (by decide +kernel) j) acI (cn' := 13) (sl' := 10190) rfl rfl (Nat.le_of_ble_eq_true rfl) (Nat.le_of_ble_eq_true rfl) dX9_init_119 ?_
  show Gc κ mX9_init (rmX 1 16 10370) (zX κ 189 P 16 10370) 13 10190 121 [some (vr 172)] [vr 185, vr 172] 186 (pu (pu P 173 [4, 5, 548, 549]) 172 [31, 32, 33, 34])
  refine Gc.put (c := 9) (j := 31) mfX9_53 cl9 (by decide +kernel) (by decide) (by decide) rfl (by decide +kernel) (nfR (by decide +kernel)) (fun _ => ⟨rfl, rfl⟩) dX9_init_121 ?_
  show Gc κ mX9_init (rmX 1 16 10370) (zX κ 189 P 16 10370) 13 10190 124 [some (vr 172)] [] 186 (pu (pu P 173 [4, 5, 548, 549]) 172 [32, 33, 34])
  refine Gc.aload 0 rfl rfl dX9_init_124 ?_
  show Gc κ mX9_init (rmX 1 16 10370) (zX κ 189 P 16 10370) 13 10190 125 [some (vr 172)] [vr 172] 186 (pu (pu P 173 [4, 5, 548, 549]) 172 [32, 33, 34])
  refine Gc.bipush dX9_init_125 (by decide) ?_
  show Gc κ mX9_init (rmX 1 16 10370) (zX κ 189 P 16 10370) 13 10190 127 [some (vr 172)] [vi 60, vr 172] 186 (pu (pu P 173 [4, 5, 548, 549]) 172 [32, 33, 34])
  refine Gc.arr0 (pu_z (by omega) (pu_z (by omega) (hP 186 (by omega)))) (by decide) (by decide +kernel) rfl (fun j _ => s0Z (by decide +kernel) j) acI (cn' := 14) (sl' := 10250) rfl rfl (Nat.le_of_ble_eq_true rfl) (Nat.le_of_ble_eq_true rfl) dX9_init_127 ?_
  show Gc κ mX9_init (rmX 1 16 10370) (zX κ 189 P 16 10370) 14 10250 129 [some (vr 172)] [vr 186, vr 172] 187 (pu (pu P 173 [4, 5, 548, 549]) 172 [32, 33, 34])
  refine Gc.put (c := 9) (j := 32) mfX9_56 cl9 (by decide +kernel) (by decide) (by decide) rfl (by decide +kernel) (nfR (by decide +kernel)) (fun _ => ⟨rfl, rfl⟩) dX9_init_129 ?_
  show Gc κ mX9_init (rmX 1 16 10370) (zX κ 189 P 16 10370) 14 10250 132 [some (vr 172)] [] 187 (pu (pu P 173 [4, 5, 548, 549]) 172 [33, 34])
  refine Gc.aload 0 rfl rfl dX9_init_132 ?_
  show Gc κ mX9_init (rmX 1 16 10370) (zX κ 189 P 16 10370) 14 10250 133 [some (vr 172)] [vr 172] 187 (pu (pu P 173 [4, 5, 548, 549]) 172 [33, 34])
  refine Gc.bipush dX9_init_133 (by decide) ?_
  show Gc κ mX9_init (rmX 1 16 10370) (zX κ 189 P 16 10370) 14 10250 135 [some (vr 172)] [vi 60, vr 172] 187 (pu (pu P 173 [4, 5, 548, 549]) 172 [33, 34])
  refine Gc.arr0 (pu_z (by omega) (pu_z (by omega) (hP 187 (by omega)))) (by decide) (by decide +kernel) rfl (fun j _ => s0Z (by decide +kernel) j) acI (cn' := 15) (sl' := 10310) rfl rfl (Nat.le_of_ble_eq_true rfl) (Nat.le_of_ble_eq_true rfl) dX9_init_135 ?_
  show Gc κ mX9_init (rmX 1 16 10370) (zX κ 189 P 16 10370) 15 10310 137 [some (vr 172)] [vr 187, vr 172] 188 (pu (pu P 173 [4, 5, 548, 549]) 172 [33, 34])
  refine Gc.put (c := 9) (j := 33) mfX9_59 cl9 (by decide +kernel) (by decide) (by decide) rfl (by decide +kernel) (nfR (by decide +kernel)) (fun _ => ⟨rfl, rfl⟩) dX9_init_137 ?_
  show Gc κ mX9_init (rmX 1 16 10370) (zX κ 189 P 16 10370) 15 10310 140 [some (vr 172)] [] 188 (pu (pu P 173 [4, 5, 548, 549]) 172 [34])
  refine Gc.aload 0 rfl rfl dX9_init_140 ?_
  show Gc κ mX9_init (rmX 1 16 10370) (zX κ 189 P 16 10370) 15 10310 141 [some (vr 172)] [vr 172] 188 (pu (pu P 173 [4, 5, 548, 549]) 172 [34])
  refine Gc.bipush dX9_init_141 (by decide) ?_
  show Gc κ mX9_init (rmX 1 16 10370) (zX κ 189 P 16 10370) 15 10310 143 [some (vr 172)] [vi 60, vr 172] 188 (pu (pu P 173 [4, 5, 548, 549]) 172 [34])
  refine Gc.arr0 (pu_z (by omega) (pu_z (by omega) (hP 188 (by omega)))) (by decide) (by decide +kernel) rfl (fun j _ => s0Z (by decide +kernel) j) acI (cn' := 16) (sl' := 10370) rfl rfl (Nat.le_of_ble_eq_true rfl) (Nat.le_of_ble_eq_true rfl) dX9_init_143 ?_
  show Gc κ mX9_init (rmX 1 16 10370) (zX κ 189 P 16 10370) 16 10370 145 [some (vr 172)] [vr 188, vr 172] 189 (pu (pu P 173 [4, 5, 548, 549]) 172 [34])
  refine Gc.put (c := 9) (j := 34) mfX9_62 cl9 (by decide +kernel) (by decide) (by decide) rfl (by decide +kernel) (nfR (by decide +kernel)) (fun _ => ⟨rfl, rfl⟩) dX9_init_145 ?_
  show Gc κ mX9_init (rmX 1 16 10370) (zX κ 189 P 16 10370) 16 10370 148 [some (vr 172)] [] 189 (pu (pu P 173 [4, 5, 548, 549]) 172 [])
  refine Gc.fin (pu_z (by omega) (hP 172 (by omega))) ?_
  show Gc κ mX9_init (rmX 1 16 10370) (zX κ 189 P 16 10370) 16 10370 148 [some (vr 172)] [] 189 (pu P 173 [4, 5, 548, 549])
  refine Gc.aload 0 rfl rfl dX9_init_148 ?_
  show Gc κ mX9_init (rmX 1 16 10370) (zX κ 189 P 16 10370) 16 10370 149 [some (vr 172)] [vr 172] 189 (pu P 173 [4, 5, 548, 549])
  refine Gc.get (x := vr 173) (c := 9) (j := 0) mfX9_7 cl9 (by decide +kernel) (by decide) (by rw [pu_ne (by decide), hP 172 (by decide)]; rfl) (by decide +kernel) dX9_init_149 ?_
  show Gc κ mX9_init (rmX 1 16 10370) (zX κ 189 P 16 10370) 16 10370 152 [some (vr 172)] [vr 173] 189 (pu P 173 [4, 5, 548, 549])
  refine Gc.iconst dX9_init_152 ?_
  show Gc κ mX9_init (rmX 1 16 10370) (zX κ 189 P 16 10370) 16 10370 153 [some (vr 172)] [vi 4, vr 173] 189 (pu P 173 [4, 5, 548, 549])
  refine Gc.bipush dX9_init_153 (by decide) ?_
  show Gc κ mX9_init (rmX 1 16 10370) (zX κ 189 P 16 10370) 16 10370 155 [some (vr 172)] [vi 10, vi 4, vr 173] 189 (pu P 173 [4, 5, 548, 549])
  refine Gc.iast (len := 2217) (i := 4) (by decide +kernel) (by decide) (by decide) (by decide) rfl rfl (by decide +kernel) dX9_init_155 ?_
  show Gc κ mX9_init (rmX 1 16 10370) (zX κ 189 P 16 10370) 16 10370 156 [some (vr 172)] [] 189 (pu P 173 [5, 548, 549])
  refine Gc.aload 0 rfl rfl dX9_init_156 ?_
  show Gc κ mX9_init (rmX 1 16 10370) (zX κ 189 P 16 10370) 16 10370 157 [some (vr 172)] [vr 172] 189 (pu P 173 [5, 548, 549])
  refine Gc.get (x := vr 173) (c := 9) (j := 0) mfX9_7 cl9 (by decide +kernel) (by decide) (by rw [pu_ne (by decide), hP 172 (by decide)]; rfl) (by decide +kernel) dX9_init_157 ?_
  show Gc κ mX9_init (rmX 1 16 10370) (zX κ 189 P 16 10370) 16 10370 160 [some (vr 172)] [vr 173] 189 (pu P 173 [5, 548, 549])
  refine Gc.iconst dX9_init_160 ?_
  show Gc κ mX9_init (rmX 1 16 10370) (zX κ 189 P 16 10370) 16 10370 161 [some (vr 172)] [vi 5, vr 173] 189 (pu P 173 [5, 548, 549])
  refine Gc.bipush dX9_init_161 (by decide) ?_
  show Gc κ mX9_init (rmX 1 16 10370) (zX κ 189 P 16 10370) 16 10370 163 [some (vr 172)] [vi 10, vi 5, vr 173] 189 (pu P 173 [5, 548, 549])
  refine Gc.iast (len := 2217) (i := 5) (by decide +kernel) (by decide) (by decide) (by decide) rfl rfl (by decide +kernel) dX9_init_163 ?_
  show Gc κ mX9_init (rmX 1 16 10370) (zX κ 189 P 16 10370) 16 10370 164 [some (vr 172)] [] 189 (pu P 173 [548, 549])
  refine Gc.aload 0 rfl rfl dX9_init_164 ?_
  show Gc κ mX9_init (rmX 1 16 10370) (zX κ 189 P 16 10370) 16 10370 165 [some (vr 172)] [vr 172] 189 (pu P 173 [548, 549])
  refine Gc.get (x := vr 173) (c := 9) (j := 0) mfX9_7 cl9 (by decide +kernel) (by decide) (by rw [pu_ne (by decide), hP 172 (by decide)]; rfl) (by decide +kernel) dX9_init_165 ?_
  show Gc κ mX9_init (rmX 1 16 10370) (zX κ 189 P 16 10370) 16 10370 168 [some (vr 172)] [vr 173] 189 (pu P 173 [548, 549])
  refine Gc.sipush dX9_init_168 (by decide) ?_
  show Gc κ mX9_init (rmX 1 16 10370) (zX κ 189 P 16 10370) 16 10370 171 [some (vr 172)] [vi 548, vr 173] 189 (pu P 173 [548, 549])
  refine Gc.iconst dX9_init_171 ?_
  show Gc κ mX9_init (rmX 1 16 10370) (zX κ 189 P 16 10370) 16 10370 172 [some (vr 172)] [vi 1, vi 548, vr 173] 189 (pu P 173 [548, 549])
  refine Gc.iast (len := 2217) (i := 548) (by decide +kernel) (by decide) (by decide) (by decide) rfl rfl (by decide +kernel) dX9_init_172 ?_
  show Gc κ mX9_init (rmX 1 16 10370) (zX κ 189 P 16 10370) 16 10370 173 [some (vr 172)] [] 189 (pu P 173 [549])
  refine Gc.aload 0 rfl rfl dX9_init_173 ?_
  show Gc κ mX9_init (rmX 1 16 10370) (zX κ 189 P 16 10370) 16 10370 174 [some (vr 172)] [vr 172] 189 (pu P 173 [549])
  refine Gc.get (x := vr 173) (c := 9) (j := 0) mfX9_7 cl9 (by decide +kernel) (by decide) (by rw [pu_ne (by decide), hP 172 (by decide)]; rfl) (by decide +kernel) dX9_init_174 ?_
  show Gc κ mX9_init (rmX 1 16 10370) (zX κ 189 P 16 10370) 16 10370 177 [some (vr 172)] [vr 173] 189 (pu P 173 [549])
  refine Gc.sipush dX9_init_177 (by decide) ?_
  show Gc κ mX9_init (rmX 1 16 10370) (zX κ 189 P 16 10370) 16 10370 180 [some (vr 172)] [vi 549, vr 173] 189 (pu P 173 [549])
  refine Gc.iconst dX9_init_180 ?_
  show Gc κ mX9_init (rmX 1 16 10370) (zX κ 189 P 16 10370) 16 10370 181 [some (vr 172)] [vi 1, vi 549, vr 173] 189 (pu P 173 [549])
  refine Gc.iast (len := 2217) (i := 549) (by decide +kernel) (by decide) (by decide) (by decide) rfl rfl (by decide +kernel) dX9_init_181 ?_
  show Gc κ mX9_init (rmX 1 16 10370) (zX κ 189 P 16 10370) 16 10370 182 [some (vr 172)] [] 189 (pu P 173 [])
  refine Gc.fin (hP 173 (by omega)) ?_
  show Gc κ mX9_init (rmX 1 16 10370) (zX κ 189 P 16 10370) 16 10370 182 [some (vr 172)] [] 189 P
  exact Gc.ret rfl dX9_init_182
