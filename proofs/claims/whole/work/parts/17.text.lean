section GoText
variable {κ : Kx} {M : Md} {E : En} {pc : Nat} {L : List (Option AV)} {st : List AV} {σ μ : Sg} {b : Bool}
def sL (i : Nat) : Option Int := some (((sLen.getD i 0 : Nat) : Int))
def chr (i j : Nat) : Int := ((sByt.getD i []).getD j 0).toInt
def sC (i : Nat) (k : Int) : Option Int := ix k ((sLen.getD i 0 : Nat) : Int) (some (chr i k.toNat))
theorem sLen_small : ∀ i, sLen.getD i 0 < 200 := by
  intro i
  by_cases h : i < nStr
  · have h2 : ∀ i, i < nStr → sLen.getD i 0 < 200 := by decide +kernel
    exact h2 i h
  · rw [List.getD_eq_getElem?_getD, List.getElem?_eq_none (by rw [show sLen.length = nStr from by decide +kernel]; omega)]
    decide
theorem chr_in : ∀ i, i < nStr → ∀ j, j < sLen.getD i 0 → 0 ≤ chr i j ∧ chr i j < 128 := by
  have h : ∀ i, i < nStr → ∀ j, j < sLen.getD i 0 → 0 ≤ ((sByt.getD i []).getD j 0).toInt ∧ ((sByt.getD i []).getD j 0).toInt < 128 := by decide +kernel
  exact h
theorem G_sval {i idx : Nat} (hi : i < nStr) (hlk : Cond.fieldLink M.1.cls idx "java/lang/String" "value" "[B" ∈ gw) (hd : decode M.2.1 pc = .ok (.getfield idx, 3)) (kk : Go κ M E (pc + 3) L (vr (1001 + 2 * i) :: st) σ) : Go κ M E pc L (vr (1000 + 2 * i) :: st) σ := by
  intro p e s m args below meth c H locs ls F hE hS hW hL
  exact vk_getf F.1 F.2.1 (hE.2.2.2.1.1 i hi).2.2.1 hS F.2.2.2.1 (F.2.2.2.2.1 _ hlk) (fun _ h => h) hd (kk p e s m args below meth c H locs ls F hE hS hW hL)
theorem G_scod {i idx : Nat} (hi : i < nStr) (hlk : Cond.fieldLink M.1.cls idx "java/lang/String" "coder" "B" ∈ gw) (hd : decode M.2.1 pc = .ok (.getfield idx, 3)) (kk : Go κ M E (pc + 3) L (vi 0 :: st) σ) : Go κ M E pc L (vr (1000 + 2 * i) :: st) σ := by
  intro p e s m args below meth c H locs ls F hE hS hW hL
  exact vk_getf F.1 F.2.1 (hE.2.2.2.1.1 i hi).2.1 hS F.2.2.2.1 (F.2.2.2.2.1 _ hlk) (fun _ h => h) hd (kk p e s m args below meth c H locs ls F hE hS hW hL)
theorem G_scmp {idx : Nat} (hlk : Cond.fieldLink M.1.cls idx "java/lang/String" "COMPACT_STRINGS" "Z" ∈ gw) (hd : decode M.2.1 pc = .ok (.getstatic idx, 3)) (kk : Go κ M E (pc + 3) L (vi 1 :: st) σ) : Go κ M E pc L st σ := by
  intro p e s m args below meth c H locs ls F hE hS hW hL
  exact va_gets F.1 F.2.1 hE.2.2.2.2.2.1 hS F.2.2.2.1 (F.2.2.2.2.1 _ hlk) (fun _ h => h) hd (kk p e s m args below meth c H locs ls F hE hS hW hL)
theorem G_sfmt {idx : Nat} (hlk : Cond.fieldLink M.1.cls idx "jdk/internal/util/Preconditions" "SIOOBE_FORMATTER" "Ljava/util/function/BiFunction;" ∈ gw) (hd : decode M.2.1 pc = .ok (.getstatic idx, 3)) (kk : ∀ w : AV, (w = .inr (.inr none) ∨ w = vr 1203) → Go κ M E (pc + 3) L (w :: st) σ) : Go κ M E pc L st σ := by
  intro p e s m args below meth c H locs ls F hE hS hW hL
  obtain ⟨w, hw, hz⟩ := hE.2.2.2.2.2.2.2.2.2
  exact va_gets F.1 F.2.1 hz hS F.2.2.2.1 (F.2.2.2.2.1 _ hlk) (fun _ h => h) hd (kk w hw p e s m args below meth c H locs ls F hE hS hW hL)
theorem G_blen {i : Nat} (hi : i < nStr) (hd : decode M.2.1 pc = .ok (.arraylength, 1)) (kk : Go κ M E (pc + 1) L (vi ((sLen.getD i 0 : Nat) : Int) :: st) σ) : Go κ M E pc L (vr (1001 + 2 * i) :: st) σ := by
  intro p e s m args below meth c H locs ls F hE hS hW hL
  obtain ⟨cell, h1, h2, h3, h4, h5, h6, h7⟩ := (hE.2.2.2.1.1 i hi).2.2.2.kept hS.2.1
  refine W.alen (n := Int32.ofInt ((sLen.getD i 0 : Nat) : Int)) F.1 F.2.1 h1 h2 ?_ rfl rfl hd (kk p e s m args below meth c H locs ls F hE hS hW hL)
  rw [h5]
  exact (Int32.ofInt_eq_ofNat (n := sLen.getD i 0)).symm
theorem G_bald {i : Nat} {k : Int} (hi : i < nStr) (hk : 0 ≤ k ∧ k < ((sLen.getD i 0 : Nat) : Int)) (hd : decode M.2.1 pc = .ok (.baload, 1)) (kk : Go κ M E (pc + 1) L (vi (chr i k.toNat) :: st) σ) : Go κ M E pc L (vi k :: vr (1001 + 2 * i) :: st) σ := by
  intro p e s m args below meth c H locs ls F hE hS hW hL
  obtain ⟨cell, h1, h2, h3, h4, h5, h6, h7⟩ := (hE.2.2.2.1.1 i hi).2.2.2.kept hS.2.1
  have hs := sLen_small i
  obtain ⟨g1, g2⟩ := ix_in (n := sLen.getD i 0) hk (by omega)
  have hlt : k.toNat < sLen.getD i 0 := by omega
  have h8 := h6 _ hlt
  have e9 : Int32.ofInt (chr i k.toNat) = (sByt.getD i []).getD k.toNat 0 := Int32.ofInt_toInt _
  have kk2 := kk p e s m args below meth c H locs ls F hE hS hW hL
  refine W.bald (v := .int ((sByt.getD i []).getD k.toNat 0)) F.1 F.2.1 h1 h2 h3 (fun z => g1 (by
    rcases z with z | z
    · exact Or.inl z
    · exact Or.inr (Nat.le_trans h4 z))) (by rw [g2]; exact h8) rfl rfl hd ?_
  rw [← e9]
  exact kk2
theorem G_i2c {x : Int} (hx : 0 ≤ x ∧ x < 128) (hd : decode M.2.1 pc = .ok (.i2c, 1)) (kk : Go κ M E (pc + 1) L (vi x :: st) σ) : Go κ M E pc L (vi x :: st) σ := by
  intro p e s m args below meth c H locs ls F hE hS hW hL
  refine lv_i2c (x := Int32.ofInt x) F.1 F.2.1 hd ?_ (kk p e s m args below meth c H locs ls F hE hS hW hL)
  have h : ∀ n : Fin 128, ((Int32.ofInt (n.val : Int)).toUInt32 % 65536).toInt32 = Int32.ofInt (n.val : Int) := by decide +kernel
  have h2 := h ⟨x.toNat, by omega⟩
  rw [show ((x.toNat : Nat) : Int) = x by omega] at h2
  exact h2
/-! calls on a text -/
theorem Go.callT {M' : Md} {d d' n idx i : Nat} {Q Q' : Option AV → Sg → Prop} (as rest : List AV) (hd : decode M.2.1 pc = .ok (.invokevirtual idx, 3)) (ck : ckB M.1.cls idx M' n ∧ Cond.instanceMethod M'.1 ∈ gw ∧ Cond.selects "java/lang/String" M'.1 M'.1 ∈ gw) (hi : i < nStr) (hst : st = as.reverse ++ vr (1000 + 2 * i) :: rest) (hn : as.length = n) (hW8 : (rest.map catA).sum ≤ 8) (hdd : d' + 1 ≤ d) (hc : Con κ M' d' (vr (1000 + 2 * i) :: as) σ Q')
    (kk : ∀ r σ', Q' r σ' → Go κ M (eM κ d Q) (pc + 3) L (r.toList ++ rest) σ') : Go κ M (eM κ d Q) pc L st σ := by
  intro p e s m args below meth cd H locs ls F hE hS hWd hL
  have hrecv : ∃ cell : Cell, H[kAd κ (1000 + 2 * i)]? = some cell ∧ cell.vm.isStatics = false ∧ s.vm.findClass "java/lang/String" = some cell.cls := vk_recv (adK := fun i => kAd κ (1000 + 2 * i)) (i := i) hE.2.2.2.1 hi hS
  refine after_call (d' := d') F hE hS hL (va_runV (As := as.map (cv κ)) (n := n) (b := kAd κ (1000 + 2 * i)) (C := "java/lang/String") ⟨F.1, F.2.1, F.2.2.1, F.2.2.2.1, F.2.2.2.2.1⟩ hc ⟨callB_go ck.1 hdd F.2.2.2.2.1, F.2.2.2.2.1 _ ck.2.1, F.2.2.2.2.1 _ ck.2.2⟩ ⟨con_blind, hrecv, fun U hU hW => ⟨rfl, hE.later hS hU hW, by rw [hU]; exact hWd⟩⟩ rfl (by rw [List.length_map]; exact hn) hL.1 (by rw [hst, List.map_append, List.map_reverse]; rfl) ?_ hd ⟨Nat.le_refl 0, Nat.le_refl 0⟩) kk
  show 2 * 0 + _ ≤ 8
  rw [cat_sum]; omega
theorem Cl.str {M' : Md} {d d' n idx i : Nat} (as rest : List AV) (hd : decode M.2.1 pc = .ok (.invokevirtual idx, 3)) (ck : ckB M.1.cls idx M' n ∧ Cond.instanceMethod M'.1 ∈ gw ∧ Cond.selects "java/lang/String" M'.1 M'.1 ∈ gw) (hi : i < nStr) (hst : st = as.reverse ++ vr (1000 + 2 * i) :: rest) (hn : as.length = n) (hW8 : (rest.map catA).sum ≤ 8) (hdd : d' + 1 ≤ d) : Cl κ M pc L st σ rest M' d d' (vr (1000 + 2 * i) :: as) := fun Q Q' hc kk => Go.callT as rest hd ck hi hst hn hW8 hdd hc kk
abbrev mJ1_charAt_3b067 : Md := (yJ1_charAt_3b067, cJ1_charAt_3b067, 2, some .char)
abbrev mJ3_checkIndex_8e157 : Md := (yJ3_checkIndex_8e157, cJ3_checkIndex_8e157, 3, some .int)
theorem fj38 : Cond.fieldLink "java/lang/String" 38 "java/lang/String" "COMPACT_STRINGS" "Z" ∈ gw := (g_t3 132 (by decide +kernel) (by decide +kernel))
theorem fj15 : Cond.fieldLink "java/lang/String" 15 "java/lang/String" "coder" "B" ∈ gw := (g_t7 215 (by decide +kernel) (by decide +kernel))
theorem fj9 : Cond.fieldLink "java/lang/String" 9 "java/lang/String" "value" "[B" ∈ gw := (g_t7 214 (by decide +kernel) (by decide +kernel))
theorem fj1053 : Cond.fieldLink "java/lang/String" 1053 "jdk/internal/util/Preconditions" "SIOOBE_FORMATTER" "Ljava/util/function/BiFunction;" ∈ gw := (g_t3 148 (by decide +kernel) (by decide +kernel))
theorem cj335 : ckB "java/lang/String" 335 mJ0_coder_7d493 0 ∧ Cond.instanceMethod mJ0_coder_7d493.1 ∈ gw ∧ Cond.selects "java/lang/String" mJ0_coder_7d493.1 mJ0_coder_7d493.1 ∈ gw := ⟨⟨(g_t3 128 (by decide +kernel) (by decide +kernel)), (g_t1 13 (by decide +kernel) (by decide +kernel)), (g_t3 131 (by decide +kernel) (by decide +kernel)), by decide +kernel, by decide +kernel, by decide +kernel, by decide +kernel⟩, (g_t3 129 (by decide +kernel) (by decide +kernel)), (g_t3 130 (by decide +kernel) (by decide +kernel))⟩
theorem cj492 : ckB "java/lang/String" 492 mJ0_isLatin1_aae02 0 ∧ Cond.instanceMethod mJ0_isLatin1_aae02.1 ∈ gw ∧ Cond.selects "java/lang/String" mJ0_isLatin1_aae02.1 mJ0_isLatin1_aae02.1 ∈ gw := ⟨⟨(g_t3 138 (by decide +kernel) (by decide +kernel)), (g_t1 13 (by decide +kernel) (by decide +kernel)), (g_t3 141 (by decide +kernel) (by decide +kernel)), by decide +kernel, by decide +kernel, by decide +kernel, by decide +kernel⟩, (g_t3 139 (by decide +kernel) (by decide +kernel)), (g_t3 140 (by decide +kernel) (by decide +kernel))⟩
theorem cj495 : ckB "java/lang/String" 495 mJ1_charAt_3b067 2 ∧ Cond.static mJ1_charAt_3b067.1 ∈ gw := ⟨⟨(g_t3 142 (by decide +kernel) (by decide +kernel)), (g_t1 14 (by decide +kernel) (by decide +kernel)), (g_t3 144 (by decide +kernel) (by decide +kernel)), by decide +kernel, by decide +kernel, by decide +kernel, by decide +kernel⟩, (g_t3 143 (by decide +kernel) (by decide +kernel))⟩
theorem cj9 : ckB "java/lang/StringLatin1" 9 mJ0_checkIndex_df160 2 ∧ Cond.static mJ0_checkIndex_df160.1 ∈ gw := ⟨⟨(g_t3 145 (by decide +kernel) (by decide +kernel)), (g_t1 13 (by decide +kernel) (by decide +kernel)), (g_t3 147 (by decide +kernel) (by decide +kernel)), by decide +kernel, by decide +kernel, by decide +kernel, by decide +kernel⟩, (g_t3 146 (by decide +kernel) (by decide +kernel))⟩
theorem cj1059 : ckB "java/lang/String" 1059 mJ3_checkIndex_8e157 3 ∧ Cond.static mJ3_checkIndex_8e157.1 ∈ gw := ⟨⟨(g_t3 150 (by decide +kernel) (by decide +kernel)), (g_t1 15 (by decide +kernel) (by decide +kernel)), (g_t3 152 (by decide +kernel) (by decide +kernel)), by decide +kernel, by decide +kernel, by decide +kernel, by decide +kernel⟩, (g_t3 151 (by decide +kernel) (by decide +kernel))⟩
theorem nchr {x : Int} (hx : 0 ≤ x ∧ x < 128) : narrow .char (.int (Int32.ofInt x)) = .int (Int32.ofInt x) := by
  have h : ∀ n : Fin 128, narrow .char (.int (Int32.ofInt (n.val : Int))) = .int (Int32.ofInt (n.val : Int)) := by decide +kernel
  have h2 := h ⟨x.toNat, by omega⟩
  rw [show ((x.toNat : Nat) : Int) = x by omega] at h2
  exact h2
theorem k_coder {d : Nat} {i : Nat} (hi : i < nStr) : Con κ mJ0_coder_7d493 d [vr (1000 + 2 * i)] σ (fun a u => a = some (vi 0) ∧ u = σ) := by
  refine con_of (by decide) (Nat.le_of_ble_eq_true rfl) 0 ?_
  refine G_scmp (pc := 0) fj38 dJ0_coder_7d493_0 ?_
  refine G_if_eq (pc := 3) (tgt := 13) dJ0_coder_7d493_3 (by decide) rfl (fun h => absurd h (by decide)) (fun _ => ?_)
  refine G_aload_n (pc := 6) 0 rfl rfl dJ0_coder_7d493_6 ?_
  refine G_scod (pc := 7) hi fj15 dJ0_coder_7d493_7 ?_
  refine G_goto (pc := 10) (tgt := 14) dJ0_coder_7d493_10 rfl ?_
  exact G_zreturn (pc := 14) rfl (by decide +kernel) dJ0_coder_7d493_14 ⟨rfl, rfl⟩
theorem k_latin {d : Nat} {i : Nat} (hi : i < nStr) : Con κ mJ0_isLatin1_aae02 d [vr (1000 + 2 * i)] σ (fun a u => a = some (vi 1) ∧ u = σ) := by
  refine con_of (by decide) (Nat.le_of_ble_eq_true rfl) 0 ?_
  refine G_scmp (pc := 0) fj38 dJ0_isLatin1_aae02_0 ?_
  refine G_if_eq (pc := 3) (tgt := 17) dJ0_isLatin1_aae02_3 (by decide) rfl (fun h => absurd h (by decide)) (fun _ => ?_)
  refine G_aload_n (pc := 6) 0 rfl rfl dJ0_isLatin1_aae02_6 ?_
  refine G_scod (pc := 7) hi fj15 dJ0_isLatin1_aae02_7 ?_
  refine G_if_ne (pc := 10) (tgt := 17) dJ0_isLatin1_aae02_10 (by decide) rfl (fun h => absurd rfl h) (fun _ => ?_)
  refine G_iconst (pc := 13) dJ0_isLatin1_aae02_13 ?_
  refine G_goto (pc := 14) (tgt := 18) dJ0_isLatin1_aae02_14 rfl ?_
  exact G_zreturn (pc := 18) rfl (by decide +kernel) dJ0_isLatin1_aae02_18 ⟨rfl, rfl⟩
theorem k_sL (i : Nat) (hi : i < nStr) : CtRI κ mJ0_length_8abf5 1 [vr (1000 + 2 * i)] b μ σ (sL i) := by
  intro r h
  cases h
  refine con_of (by decide) (Nat.le_of_ble_eq_true rfl) 0 ?_
  refine G_aload_n (pc := 0) 0 rfl rfl dJ0_length_8abf5_0 ?_
  refine G_sval (pc := 1) hi fj9 dJ0_length_8abf5_1 ?_
  refine G_blen (pc := 4) hi dJ0_length_8abf5_4 ?_
  refine G_aload_n (pc := 5) 0 rfl rfl dJ0_length_8abf5_5 ?_
  refine Go.callT (pc := 6) [] [vi ((sLen.getD i 0 : Nat) : Int)] dJ0_length_8abf5_6 cj335 hi rfl rfl (Nat.le_of_ble_eq_true rfl) (Nat.le_of_ble_eq_true rfl) (k_coder (d := 0) hi) (fun r u ⟨e1, e2⟩ => ?_)
  subst e1; subst e2
  refine G_ishr (pc := 9) dJ0_length_8abf5_9 ?_
  have hs := sLen_small i
  have hR : inR ((sLen.getD i 0 : Nat) : Int) := by unfold inR; omega
  have e : bShr ((sLen.getD i 0 : Nat) : Int) 0 = ((sLen.getD i 0 : Nat) : Int) := by
    unfold bShr
    rw [show (Int32.ofInt 0 &&& 31 : Int32) = 0 from by decide, Int32.shiftRight_zero]
    exact i32_t hR
  rw [e]
  exact G_ireturn (pc := 10) rfl dJ0_length_8abf5_10 ⟨rfl, rfl, hR⟩
theorem k_pre {d : Nat} {i n : Int} {w : AV} (hw : w = .inr (.inr none) ∨ w = vr 1203) (hi : inR i) (hn : inR n) (h : 0 ≤ i ∧ i < n) : Con κ mJ3_checkIndex_8e157 d [vi i, vi n, w] σ (fun a u => a = some (vi i) ∧ u = σ) := by
  have hl : eW [vi i, vi n, w] = 3 ∧ eL [vi i, vi n, w] = [some (vi i), some (vi n), some w] := by rcases hw with rfl | rfl <;> exact ⟨rfl, rfl⟩
  refine con_of (by decide) (by rw [hl.1]; decide) 0 ?_
  rw [hl.2]
  refine G_iload_n (pc := 0) 0 rfl rfl dJ3_checkIndex_8e157_0 ?_
  refine G_if_lt (pc := 1) (tgt := 9) dJ3_checkIndex_8e157_1 hi rfl (fun h2 => absurd h2 (by omega)) (fun _ => ?_)
  refine G_iload_n (pc := 4) 0 rfl rfl dJ3_checkIndex_8e157_4 ?_
  refine G_iload_n (pc := 5) 1 rfl rfl dJ3_checkIndex_8e157_5 ?_
  refine G_icmp_lt (pc := 6) (tgt := 16) dJ3_checkIndex_8e157_6 ⟨hi, hn⟩ rfl (fun _ => ?_) (fun h2 => absurd h.2 h2)
  refine G_iload_n (pc := 16) 0 rfl rfl dJ3_checkIndex_8e157_16 ?_
  exact G_ireturn (pc := 17) rfl dJ3_checkIndex_8e157_17 ⟨rfl, rfl⟩
theorem k_chk {i n : Int} (hi : inR i) (hn : inR n) (h : 0 ≤ i ∧ i < n) : Con κ mJ0_checkIndex_df160 1 [vi i, vi n] σ (fun a u => a = none ∧ u = σ) := by
  refine con_of (by decide) (Nat.le_of_ble_eq_true rfl) 0 ?_
  refine G_iload_n (pc := 0) 0 rfl rfl dJ0_checkIndex_df160_0 ?_
  refine G_iload_n (pc := 1) 1 rfl rfl dJ0_checkIndex_df160_1 ?_
  refine G_sfmt (pc := 2) fj1053 dJ0_checkIndex_df160_2 (fun w hw => ?_)
  refine Go.callS (pc := 5) [vi i, vi n, w] [] dJ0_checkIndex_df160_5 cj1059 rfl rfl (Nat.le_of_ble_eq_true rfl) (Nat.le_of_ble_eq_true rfl) (k_pre (d := 0) hw hi hn h) (fun r u ⟨e1, e2⟩ => ?_)
  subst e1; subst e2
  refine G_pop (pc := 8) dJ0_checkIndex_df160_8 (fun _ h => by cases h) ?_
  exact G_return (pc := 9) rfl dJ0_checkIndex_df160_9 ⟨rfl, rfl⟩
theorem k_c1 {i : Nat} {k : Int} (hi : i < nStr) (hk : inR k) (h : 0 ≤ k ∧ k < ((sLen.getD i 0 : Nat) : Int)) : Con κ mJ1_charAt_3b067 2 [vr (1001 + 2 * i), vi k] σ (fun a u => a = some (vi (chr i k.toNat)) ∧ u = σ) := by
  have hs := sLen_small i
  have hR : inR ((sLen.getD i 0 : Nat) : Int) := by unfold inR; omega
  have hc := chr_in i hi k.toNat (by omega)
  refine con_of (by decide) (Nat.le_of_ble_eq_true rfl) 0 ?_
  refine G_iload_n (pc := 0) 1 rfl rfl dJ1_charAt_3b067_0 ?_
  refine G_aload_n (pc := 1) 0 rfl rfl dJ1_charAt_3b067_1 ?_
  refine G_blen (pc := 2) hi dJ1_charAt_3b067_2 ?_
  refine Go.callS (pc := 3) [vi k, vi ((sLen.getD i 0 : Nat) : Int)] [] dJ1_charAt_3b067_3 cj9 rfl rfl (Nat.le_of_ble_eq_true rfl) (Nat.le_of_ble_eq_true rfl) (k_chk hk hR h) (fun r u ⟨e1, e2⟩ => ?_)
  subst e1; subst e2
  refine G_aload_n (pc := 6) 0 rfl rfl dJ1_charAt_3b067_6 ?_
  refine G_iload_n (pc := 7) 1 rfl rfl dJ1_charAt_3b067_7 ?_
  refine G_bald (pc := 8) hi h dJ1_charAt_3b067_8 ?_
  refine G_sipush (pc := 9) dJ1_charAt_3b067_9 rfl ?_
  refine G_iand (pc := 12) dJ1_charAt_3b067_12 ?_
  have e : bAnd (chr i k.toNat) 255 = chr i k.toNat := by
    have h2 : ∀ n : Fin 128, bAnd (n.val : Int) 255 = (n.val : Int) := by decide +kernel
    have h3 := h2 ⟨(chr i k.toNat).toNat, by omega⟩
    rw [show (((chr i k.toNat).toNat : Nat) : Int) = chr i k.toNat by omega] at h3
    exact h3
  rw [e]
  refine G_i2c (pc := 13) hc dJ1_charAt_3b067_13 ?_
  refine G_zreturn (pc := 14) (ty := .char) rfl ?_ dJ1_charAt_3b067_14 ⟨rfl, rfl⟩
  exact nchr hc
theorem k_sC (i : Nat) (k : Int) (hi : i < nStr) (hk : inR k) : CtRI κ mJ0_charAt_5068e 3 [vr (1000 + 2 * i), vi k] b μ σ (sC i k) := by
  intro r h
  unfold sC ix at h
  by_cases h0 : 0 ≤ k ∧ k < ((sLen.getD i 0 : Nat) : Int)
  · rw [if_pos h0] at h
    cases h
    have hs := sLen_small i
    have hc := chr_in i hi k.toNat (by omega)
    refine con_of (by decide) (Nat.le_of_ble_eq_true rfl) 0 ?_
    refine G_aload_n (pc := 0) 0 rfl rfl dJ0_charAt_5068e_0 ?_
    refine Go.callT (pc := 1) [] [] dJ0_charAt_5068e_1 cj492 hi rfl rfl (Nat.le_of_ble_eq_true rfl) (Nat.le_of_ble_eq_true rfl) (k_latin (d := 0) hi) (fun r u ⟨e1, e2⟩ => ?_)
    subst e1; subst e2
    refine G_if_eq (pc := 4) (tgt := 16) dJ0_charAt_5068e_4 (by decide) rfl (fun h => absurd h (by decide)) (fun _ => ?_)
    refine G_aload_n (pc := 7) 0 rfl rfl dJ0_charAt_5068e_7 ?_
    refine G_sval (pc := 8) hi fj9 dJ0_charAt_5068e_8 ?_
    refine G_iload_n (pc := 11) 1 rfl rfl dJ0_charAt_5068e_11 ?_
    refine Go.callS (pc := 12) [vr (1001 + 2 * i), vi k] [] dJ0_charAt_5068e_12 cj495 rfl rfl (Nat.le_of_ble_eq_true rfl) (Nat.le_of_ble_eq_true rfl) (k_c1 hi hk h0) (fun r u ⟨e1, e2⟩ => ?_)
    subst e1; subst e2
    exact G_zreturn (pc := 15) (ty := .char) rfl (nchr hc) dJ0_charAt_5068e_15 ⟨rfl, rfl, by unfold inR; omega⟩
  · rw [if_neg h0] at h; cases h
end GoText
