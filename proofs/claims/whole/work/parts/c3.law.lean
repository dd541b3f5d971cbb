/-! text: a line of the law -/
def LNC (L s : Nat) (σ τ : Sg) : Prop := σ 142 1 = 4 ∧ σ 142 2 = 4 * (L : Int) ∧ ∀ l, l < L → (0 ≤ σ 143 (4 * l) ∧ σ 143 (4 * l) ≤ 4 ∧ σ 143 (4 * l) + 20 = τ 177 (4 * l + 3)) ∧ σ 143 (4 * l + 1) = τ 177 (4 * l) ∧ σ 143 (4 * l + 2) = τ 177 (4 * l + 1) ∧ σ 143 (4 * l + 3) = τ 177 (4 * l + 2) ∧ (0 ≤ τ 177 (4 * l) ∧ τ 177 (4 * l) ≤ τ 177 (4 * l + 1) ∧ τ 177 (4 * l + 1) ≤ τ 177 (4 * l + 2) ∧ τ 177 (4 * l + 2) ≤ s) ∧ tyN (fun j => τ 178 (2 * j)) (τ 177 (4 * l)).toNat (τ 177 (4 * l + 1) - τ 177 (4 * l)).toNat [] = some [false] ∧ (τ 177 (4 * l + 1) < τ 177 (4 * l + 2) → tyN (fun j => τ 178 (2 * j)) (τ 177 (4 * l + 1)).toNat (τ 177 (4 * l + 2) - τ 177 (4 * l + 1)).toNat [] = some [true])
section Law
variable {c : Nat → Int} {n T : Nat} {q : Nat → Nat} {k i : Nat} {σ σ' τ τ' : Sg}
/-- the class puts a cell -/
def puS (σ : Sg) (m : Nat) (v : Int) : Sg := su (su σ 143 m v) 142 2 ((m : Int) + 1)
theorem puB {m : Nat} (h : σ 142 2 = m) (hm : m < 96) (v : Int) : Sh_put 142 v σ = some (puS σ m v) := by
  have hln : ln (142 + 1) = 96 := by decide +kernel
  unfold Sh_put
  rw [h, hln, if_pos (by omega), ix_q (by omega) (by omega), ll_q, Int.toNat_natCast, su_c (show (142 : Nat) ≠ 142 + 1 by decide), h, wr_q (by omega) (by omega), ll_q]
  rfl
theorem puS_c {m : Nat} {v : Int} {x : Nat} (h1 : x ≠ 142) (h2 : x ≠ 143) : puS σ m v x = σ x := by unfold puS; rw [su_c h1, su_c h2]
theorem puS_2 {m : Nat} {v : Int} : puS σ m v 142 2 = (m : Int) + 1 := by unfold puS; rw [su_s, up_a]
theorem puS_j {m j : Nat} {v : Int} (h : j ≠ 2) : puS σ m v 142 j = σ 142 j := by unfold puS; rw [su_s, up_n h, su_c (by decide)]
theorem puS_m {m : Nat} {v : Int} : puS σ m v 143 m = v := by unfold puS; rw [su_c (by decide), su_s, up_a]
theorem puS_n {m j : Nat} {v : Int} (h : j ≠ m) : puS σ m v 143 j = σ 143 j := by unfold puS; rw [su_c (by decide), su_s, up_n h]
theorem puP {m : Nat} {v : Int} (h : PX c n k T q i σ τ) : PX c n k T q i (puS σ m v) τ := h.ag (by rw [puS_c (by decide) (by decide)]) (by rw [puS_c (by decide) (by decide)]) (by rw [puS_c (by decide) (by decide)]) (by rw [puS_c (by decide) (by decide)]) (fun x hx => puS_c (by omega) (by omega)) (fun _ _ => rfl) rfl
theorem puC {a pd m : Nat} {st : List Bool} {v : Int} (h : CX a st i pd σ τ) : CX a st i pd (puS σ m v) τ := h.ag (Nat.le_refl _) (puS_j (by decide)) (puS_c (by decide) (by decide)) rfl rfl
theorem puF {m : Nat} {v : Int} : FP σ (puS σ m v) τ τ := ⟨fun x _ a b _ => puS_c a b, fun j _ _ _ => by rw [puS_c (by decide) (by decide)], fun _ _ _ _ _ => rfl, fun _ _ => rfl⟩
theorem w7P {x : Nat} {v : Int} (h : PX c n k T q i σ τ) : PX c n k T q i σ (su τ 177 x v) := h.ag rfl rfl rfl rfl (fun _ _ => rfl) (fun j _ => by rw [su_c (by decide)]) (su_c (by decide))
theorem w7C {a pd x : Nat} {st : List Bool} {v : Int} (h : CX a st i pd σ τ) : CX a st i pd σ (su τ 177 x v) := h.ag (Nat.le_refl _) rfl rfl (by rw [su_c (by decide)]) (su_c (by decide))
theorem w7F {x : Nat} {v : Int} : FP σ σ τ (su τ 177 x v) := ⟨fun _ _ _ _ _ => rfl, fun _ _ _ _ => rfl, fun c _ h _ _ => su_c h, fun j _ => by rw [su_c (by decide)]⟩
theorem CX.re {a pd s : Nat} {st : List Bool} (h : CX a st i pd σ τ) (hs : σ 142 3 = s) : CX s [] i pd σ τ := by
  obtain ⟨s', s1, s2, s3, s4, s5, s6⟩ := h
  have : s' = s := by omega
  subst this
  exact ⟨s', s1, s2, Nat.le_refl _, s4, s5, by rw [Nat.sub_self]; rfl⟩
/-- the line's end -/
theorem lnE {L s s2 s3 : Nat} {σ0 τ0 : Sg} (hL : LNC L s σ0 τ0) (hs : s ≤ s2 ∧ s2 ≤ s3) {v : Int} (hv : 0 ≤ v ∧ v ≤ 4) (h1 : σ 142 1 = 4) (h2 : σ 142 2 = 4 * (L : Int) + 4) (hc : ∀ j, j < 4 * L → σ 143 j = σ0 143 j) (c0 : σ 143 (4 * L) = v) (c1 : σ 143 (4 * L + 1) = s) (c2 : σ 143 (4 * L + 2) = s2) (c3 : σ 143 (4 * L + 3) = s3) (hm : ∀ j, j < 4 * L → τ 177 j = τ0 177 j) (m0 : τ 177 (4 * L) = s) (m1 : τ 177 (4 * L + 1) = s2) (m2 : τ 177 (4 * L + 2) = s3) (m3 : τ 177 (4 * L + 3) = v + 20) (hp : ∀ j, j < 2 * s → τ 178 j = τ0 178 j) (t1 : tyN (fun j => τ 178 (2 * j)) s (s2 - s) [] = some [false]) (t2 : s2 < s3 → tyN (fun j => τ 178 (2 * j)) s2 (s3 - s2) [] = some [true]) : LNC (L + 1) s3 σ τ := by
  refine ⟨h1, by omega, fun l hl => ?_⟩
  by_cases e : l = L
  · subst e
    rw [c0, c1, c2, c3, m0, m1, m2, m3]
    refine ⟨by omega, rfl, rfl, rfl, by omega, ?_, fun z => ?_⟩
    · rw [Int.toNat_natCast, show ((s2 : Int) - (s : Int)).toNat = s2 - s by omega]; exact t1
    · rw [Int.toNat_natCast, show ((s3 : Int) - (s2 : Int)).toNat = s3 - s2 by omega]; exact t2 (by omega)
  · obtain ⟨q1, q2, q3, q4, q5, q6, q7⟩ := hL.2.2 l (by omega)
    rw [hc (4 * l) (by omega), hc (4 * l + 1) (by omega), hc (4 * l + 2) (by omega), hc (4 * l + 3) (by omega), hm (4 * l) (by omega), hm (4 * l + 1) (by omega), hm (4 * l + 2) (by omega), hm (4 * l + 3) (by omega)]
    refine ⟨q1, q2, q3, q4, by omega, ?_, fun z => ?_⟩
    · rw [tyN_agr (k := fun j => τ0 178 (2 * j)) _ _ _ (fun j g1 g2 => hp _ (by omega))]; exact q6
    · rw [tyN_agr (k := fun j => τ0 178 (2 * j)) _ _ _ (fun j g1 g2 => hp _ (by omega))]; exact q7 z
theorem lnQ {L s : Nat} (h : PX c n 0 T q i σ τ) (hC : CX s [] i 0 σ τ) (hs : σ 142 3 = s) (hL : LNC L s σ τ) (hL16 : L < 16) (h13 : τ 172 13 = L) (hw : σ 146 i = 1 ∧ 0 ≤ σ 147 i ∧ σ 147 i ≤ 4) :
    ∃ r σ' τ', (b2 (Re_parseLaw σ) fun r σ1 => if r = 0 then some (0, σ1) else b2 (Re_takeSign 59 σ1) fun r2 σ2 => some (r2, σ2)) = some (r, σ') ∧ Mo_aLine τ = some (r, τ') ∧ FP σ σ' τ τ' ∧ ((r = 0 ∧ FAIL σ' τ') ∨ (r = 1 ∧ ∃ i' s', i < i' ∧ PX c n 0 T q i' σ' τ' ∧ CX s' [] i' 0 σ' τ' ∧ σ' 142 3 = (s' : Nat) ∧ LNC (L + 1) s' σ' τ' ∧ σ' 142 0 = σ 142 0 ∧ τ' 172 13 = τ 172 13)) := by
  have b4 := h.i4
  have a9 : σ 141 9 = i := h.2.1.2.1
  have hi : i < T := by rcases h.kd with y | y | y | y | y <;> omega
  have htok : τ 172 18 = σ 147 i + 20 := by
    rw [h.2.2.2.2.1]
    unfold tkc tkW
    rw [hw.1, if_neg (by decide), if_pos rfl, if_neg (by omega)]
    obtain ⟨w, hw'⟩ := Int.eq_ofNat_of_zero_le hw.2.1
    have hw' : σ 147 i = (w : Int) := hw'
    rw [hw', Int.toNat_natCast]
    have : ∀ w : Nat, w < 5 → (tkT 0).getD w 1 = (w : Int) + 20 := by decide +kernel
    exact this w (by omega)
  -- the first word
  obtain ⟨σB, τB, g1, g2, B1, B2, g5, g6, g7, g8, g9⟩ := (w7P (x := 4 * L + 3) (v := τ 172 18) (PX24 (v := 0) (puP (m := 4 * L) (v := σ 147 i) h))).nxt hi
  have sB : σB 142 3 = s := by rw [g6, puS_j (by decide)]; exact hs
  have fB2 : σB 142 2 = ((4 * L + 1 : Nat) : Int) := by rw [g6, puS_2]; omega
  have tB14 : τB 172 14 = s := by
    obtain ⟨s', s1, s2, -⟩ := hC
    rw [g8, su_c (by decide), su_s, up_n (by decide), s2, ← s1, hs]
  have tB13 : τB 172 13 = L := by rw [B2.2.2.2.2.1 13 (by omega), su_c (by decide), su_s, up_n (by decide)]; exact h13
  have CB : CX s [] (i + 1) 0 σB τB := ((w7C (x := 4 * L + 3) (v := τ 172 18) (CX24 (v := 0) (puC (m := 4 * L) (v := σ 147 i) hC))).mv (i' := i + 1) (pd' := 0) (by omega)).ag (Nat.le_refl _) (by rw [g6]) g7 g8 g9
  have FB : FP σ σB τ τB := ((puF.trans FS24.P).trans w7F).trans B2.P
  have hln177 : ∀ x v, su (su τ 172 24 0) 177 x v 172 13 = τ 172 13 := fun x v => by rw [su_c (by decide), su_s, up_n (by decide)]
  -- the sum
  obtain ⟨r, σD, τD, o1, o2, o3, o4⟩ := smQ (a := s) (pd := 0) (st := []) (by decide) (w7P (x := 4 * L) (v := (s : Int)) (puP (m := 4 * L + 1) (v := (s : Int)) B1)) (w7C (puC CB))
  have aM : ∀ X, Mo_aLine τ = X ↔ (b2 (Mo_sumUp (su τB 177 (4 * L) (s : Int))) fun r14 σ15 => if r14 = 0 then some (0, σ15) else ix ((4 * (σ15 172 13)) + 1) 64 (ll (su σ15 177 (((4 * (σ15 172 13)) + 1)).toNat (σ15 172 14)) fun σ17 => if (σ17 172 18) = 3 then b1 (Mo_next0 σ17) fun σ20 => b2 (Mo_any (Mo_oneTest 10) σ20) fun r21 σ22 => if r21 = 0 then some (0, σ22) else ix ((4 * (σ22 172 13)) + 2) 64 (ll (su σ22 177 (((4 * (σ22 172 13)) + 2)).toNat (σ22 172 14)) fun σ24 => b2 (Mo_need 159 σ24) fun r26 σ27 => some (r26, σ27)) else ix ((4 * (σ17 172 13)) + 2) 64 (ll (su σ17 177 (((4 * (σ17 172 13)) + 2)).toNat (σ17 172 14)) fun σ28 => b2 (Mo_need 159 σ28) fun r30 σ31 => some (r30, σ31)))) = X := fun X => by
    unfold Mo_aLine
    have e13 : su τ 172 24 0 172 13 = L := by rw [su_s, up_n (by decide)]; exact h13
    have e18 : su τ 172 24 0 172 18 = τ 172 18 := by rw [su_s, up_n (by decide)]
    rw [isIn_q, b1_q, if_pos (show 20 ≤ τ 172 18 ∧ τ 172 18 ≤ 24 by omega), if_neg (show ¬ (1 : Int) = 0 by decide), h13, if_neg (by omega), ll_q, e13, ix_q (by omega) (by omega), ll_q, e18, show (4 * (L : Int) + 3).toNat = 4 * L + 3 by omega, g2, b1_q, tB13, ix_q (by omega) (by omega), ll_q, tB14, show (4 * (L : Int)).toNat = 4 * L by omega]
  have aC : ∀ X, Re_parseLaw σ = X ↔ (b2 (Re_parseSum (puS σB (4 * L + 1) (s : Int))) fun r5 σ6 => if r5 = 0 then some (0, σ6) else b1 (Sh_put 142 (σ6 142 3) σ6) fun σ8 => b1 (Re_isWord 5 σ8) fun r9 => if r9 = 0 then b1 (Sh_put 142 (σ8 142 3) σ8) fun σ11 => some (1, σ11) else b1 (Re_advance σ8) fun σ12 => b2 (Re_parseCondition (Re_parseSingle 10) 0 σ12) fun r13 σ14 => if r13 = 0 then some (0, σ14) else b1 (Sh_put 142 (σ14 142 3) σ14) fun σ16 => some (1, σ16)) = X := fun X => by
    unfold Re_parseLaw
    rw [a9, ix_q (by omega) (by omega), Int.toNat_natCast, puB (m := 4 * L) (by rw [hL.2.1]; omega) (by omega), b1_q, g1, b1_q, sB, puB fB2 (by omega), b1_q]
  have FD : FP σ σD τ τD := ((FB.trans puF).trans w7F).trans o3.P
  rcases o4 with ⟨r0, o4⟩ | ⟨r0, i2, o4, o5, o6, o7⟩
  · subst r0
    refine ⟨0, σD, τD, ?_, (aM _).mpr (by rw [o2, b2_q, if_pos rfl]), FD, .inl ⟨rfl, o4⟩⟩
    rw [(aC _).mpr (by rw [o1, b2_q, if_pos rfl]), b2_q, if_pos rfl]
  · subst r0
    have b42 := o5.i4
    obtain ⟨s2, p1, p2, p3, p4, p5, p6⟩ := o6
    have CD : CX s [false] i2 0 σD τD := ⟨s2, p1, p2, p3, p4, p5, p6⟩
    have fD2 : σD 142 2 = ((4 * L + 2 : Nat) : Int) := by rw [o3.2.2.1 2 (by decide), puS_2]; omega
    have tD13 : τD 172 13 = L := by rw [o3.2.2.2.2.1 13 (by omega), su_c (by decide)]; exact tB13
    have D24 : τD 172 24 = ((0 : Nat) : Int) := by
      rw [o7, su_c (by decide), g5, su_c (by decide), su_s, up_a]; rfl
    -- what lies below, and the line so far, at D
    have lowC : ∀ j, j < 4 * L → σD 143 j = σ 143 j := fun j hj => by rw [o3.1 143 (by decide) (by decide) (by decide), puS_n (by omega), B2.1 143 (by decide) (by decide) (by decide), puS_n (by omega)]
    have dC0 : σD 143 (4 * L) = σ 147 i := by rw [o3.1 143 (by decide) (by decide) (by decide), puS_n (by omega), B2.1 143 (by decide) (by decide) (by decide), puS_m]
    have dC1 : σD 143 (4 * L + 1) = s := by rw [o3.1 143 (by decide) (by decide) (by decide), puS_m]
    have lowM : ∀ j, j < 4 * L → τD 177 j = τ 177 j := fun j hj => by rw [o3.2.2.2.1 177 (by decide) (by decide), su_s, up_n (by omega), B2.2.2.2.1 177 (by decide) (by decide), su_s, up_n (by omega), su_c (by decide)]
    have dM0 : τD 177 (4 * L) = s := by rw [o3.2.2.2.1 177 (by decide) (by decide), su_s, up_a]
    have dM3 : τD 177 (4 * L + 3) = τ 172 18 := by rw [o3.2.2.2.1 177 (by decide) (by decide), su_s, up_n (by omega), B2.2.2.2.1 177 (by decide) (by decide), su_s, up_a]
    have preD : ∀ j, j < 2 * s → τD 178 j = τ 178 j := fun j hj => by
      rw [o3.2.2.2.2.2.2 j (by rw [su_c (by decide), tB14]; omega), su_c (by decide), g9, su_c (by decide), su_c (by decide)]
    have d1 : σD 142 1 = 4 := by rw [o3.2.2.1 1 (by decide), puS_j (by decide), g6, puS_j (by decide)]; exact hL.1
    have d0 : σD 142 0 = σ 142 0 := by rw [o3.2.2.1 0 (by decide), puS_j (by decide), g6, puS_j (by decide)]
    -- mid
    have PE := w7P (x := 4 * L + 1) (v := (s2 : Int)) (puP (m := 4 * L + 2) (v := (s2 : Int)) o5)
    have CE : CX s [false] i2 0 (puS σD (4 * L + 2) (s2 : Int)) (su τD 177 (4 * L + 1) (s2 : Int)) := w7C (puC CD)
    have FE := (FD.trans (puF (m := 4 * L + 2) (v := (s2 : Int)))).trans (w7F (x := 4 * L + 1) (v := (s2 : Int)))
    obtain ⟨r, r1, r2⟩ := PE.wrd (w := 5) (by decide)
    have r1' : Re_isWord 5 (puS σD (4 * L + 2) (s2 : Int)) = some r := r1
    have t5 : (tkT 0).getD 5 1 = 3 := by decide
    rw [t5] at r2
    -- the end of it, from a state with s3 steps
    have fin : ∀ (σF τF : Sg) (i3 s3 : Nat), i2 ≤ i3 → s2 ≤ s3 → PX c n 0 T q i3 σF τF → CX s3 [] i3 0 σF τF → σF 142 3 = s3 → FS (puS σD (4 * L + 2) (s2 : Int)) σF (su τD 177 (4 * L + 1) (s2 : Int)) τF → (s2 < s3 → tyN (fun j => τF 178 (2 * j)) s2 (s3 - s2) [] = some [true]) → ∃ r σ' τ', b2 (Re_takeSign 59 (puS σF (4 * L + 3) (s3 : Int))) (fun r2 σ2 => some (r2, σ2)) = some (r, σ') ∧ b2 (Mo_need 159 (su τF 177 (4 * L + 2) (s3 : Int))) (fun r30 σ31 => some (r30, σ31)) = some (r, τ') ∧ FP σ σ' τ τ' ∧ ((r = 0 ∧ FAIL σ' τ') ∨ (r = 1 ∧ ∃ i' s', i < i' ∧ PX c n 0 T q i' σ' τ' ∧ CX s' [] i' 0 σ' τ' ∧ σ' 142 3 = (s' : Nat) ∧ LNC (L + 1) s' σ' τ' ∧ σ' 142 0 = σ 142 0 ∧ τ' 172 13 = τ 172 13)) := by
      intro σF τF i3 s3 hi3 hs3 PF CF hs3' FF ty2
      obtain ⟨r, σ', τ', k1, k2, k3, k4⟩ := (w7P (x := 4 * L + 2) (v := (s3 : Int)) (puP (m := 4 * L + 3) (v := (s3 : Int)) PF)).tak (x := 59) (by unfold isG; omega)
      have k2' : Mo_need 159 (su τF 177 (4 * L + 2) (s3 : Int)) = some (r, τ') := k2
      have FG := (((FE.trans FF.P).trans puF).trans w7F).trans k3.P
      refine ⟨r, σ', τ', by rw [k1, b2_q], by rw [k2', b2_q], FG, ?_⟩
      rcases k4 with ⟨r0, k4⟩ | ⟨r0, hi4, k4, k5, k6, k7, k8, k9⟩
      · exact .inl ⟨r0, k4⟩
      · refine .inr ⟨r0, i3 + 1, s3, by omega, k4, ((w7C (puC CF)).mv (i' := i3 + 1) (pd' := 0) (by omega)).ag (Nat.le_refl _) (by rw [k6]) k7 k8 k9, by rw [k6, puS_j (by decide)]; exact hs3', ?_, ?_, ?_⟩
        · have e143 : ∀ j, σ' 143 j = puS σF (4 * L + 3) (s3 : Int) 143 j := fun j => by rw [k3.1 143 (by decide) (by decide) (by decide)]
          have f143 : ∀ j, j ≠ 4 * L + 3 → σ' 143 j = puS σD (4 * L + 2) (s2 : Int) 143 j := fun j hj => by rw [e143, puS_n hj, FF.1 143 (by decide) (by decide) (by decide)]
          have e177 : ∀ j, j ≠ 4 * L + 2 → τ' 177 j = su τD 177 (4 * L + 1) (s2 : Int) 177 j := fun j hj => by rw [k3.2.2.2.1 177 (by decide) (by decide), su_s, up_n hj, FF.2.2.2.1 177 (by decide) (by decide)]
          have e178 : τ' 178 = τF 178 := by rw [k9, su_c (by decide)]
          have pre2 : ∀ j, j < 2 * s2 → τ' 178 j = τD 178 j := fun j hj => by
            rw [e178, FF.2.2.2.2.2.2 j (by rw [su_c (by decide), p2]; omega), su_c (by decide)]
          refine lnE hL ⟨p3, hs3⟩ (v := σ 147 i) hw.2 ?_ ?_ (fun j hj => ?_) ?_ ?_ ?_ ?_ (fun j hj => ?_) ?_ ?_ ?_ ?_ (fun j hj => ?_) ?_ ?_
          · rw [k6, puS_j (by decide), FF.2.2.1 1 (by decide), puS_j (by decide)]; exact d1
          · rw [k6, puS_2]; omega
          · rw [f143 j (by omega), puS_n (by omega)]; exact lowC j hj
          · rw [f143 _ (by omega), puS_n (by omega)]; exact dC0
          · rw [f143 _ (by omega), puS_n (by omega)]; exact dC1
          · rw [f143 _ (by omega), puS_m]
          · rw [e143, puS_m]
          · rw [e177 j (by omega), su_s, up_n (by omega)]; exact lowM j hj
          · rw [e177 _ (by omega), su_s, up_n (by omega)]; exact dM0
          · rw [e177 _ (by omega), su_s, up_a]
          · rw [k3.2.2.2.1 177 (by decide) (by decide), su_s, up_a]
          · rw [e177 _ (by omega), su_s, up_n (by omega), dM3]; exact htok
          · rw [pre2 j (by omega)]; exact preD j hj
          · rw [tyN_agr (k := fun j => τD 178 (2 * j)) _ _ _ (fun j x1 x2 => pre2 _ (by omega))]; exact p6
          · intro z
            rw [e178]; exact ty2 z
        · rw [k6, puS_j (by decide), FF.2.2.1 0 (by decide), puS_j (by decide)]; exact d0
        · rw [k3.2.2.2.2.1 13 (by omega), su_c (by decide), FF.2.2.2.2.1 13 (by omega), su_c (by decide), tD13, h13]
    have eE3 : puS σD (4 * L + 2) (s2 : Int) 142 3 = s2 := by rw [puS_j (by decide)]; exact p1
    have eE2 : puS σD (4 * L + 2) (s2 : Int) 142 2 = ((4 * L + 3 : Nat) : Int) := by rw [puS_2]; omega
    have eM14 : su τD 177 (4 * L + 1) (s2 : Int) 172 14 = s2 := by rw [su_c (by decide)]; exact p2
    have eM13 : su τD 177 (4 * L + 1) (s2 : Int) 172 13 = L := by rw [su_c (by decide)]; exact tD13
    rcases r2 with ⟨r0, rt, -, -, hi2⟩ | ⟨r0, rt, -⟩
    · subst r0
      obtain ⟨σF, τF, g1', g2', g3', g4', g5', g6', g7', g8', g9'⟩ := PE.nxt hi2
      have CF : CX s2 [] (i2 + 1) 0 σF τF := (((CE.re eE3).mv (i' := i2 + 1) (pd' := 0) (by omega)).ag (Nat.le_refl _) (by rw [g6']) g7' g8' g9')
      rcases anQ (a := s2) (sgQ 10 0 (by decide) rfl) (pd := 0) (st := []) (by decide) (T - (i2 + 1)) (i2 + 1) 0 0 σF τF rfl g3' (by omega) (by rw [g5', su_c (by decide)]; exact D24) (.inl ⟨rfl, CF⟩) with ⟨σ', τ', v1, v2, v3, v4⟩ | ⟨σG, τG, i4, v1, v2, v3, v4, v5, v6, v7⟩
      · refine ⟨0, σ', τ', ?_, (aM _).mpr ?_, (FE.trans g4'.P).trans v3.P, .inl ⟨rfl, v4⟩⟩
        · rw [(aC (some (0, σ'))).mpr (by
            rw [o1, b2_q, if_neg (by decide), p1, puB fD2 (by omega), b1_q, r1', b1_q, if_neg (by decide), g1', b1_q]
            unfold Re_parseCondition
            rw [show Re_parseCondition_7_w (Re_parseSingle 10) 0 0 0 0 σF = some (0, σ') from v1, b2_q, if_pos rfl]), b2_q, if_pos rfl]
        · rw [o2, b2_q, if_neg (by decide), tD13, p2, ix_q (by omega) (by omega), ll_q, show (4 * (L : Int) + 1).toNat = 4 * L + 1 by omega, if_pos rt, g2', b1_q, an_AN, v2, b2_q, if_pos rfl]
      · obtain ⟨s3, w1, w2, w3, w4, w5, w6⟩ := v5
        have CG : CX s2 [true] i4 0 σG τG := ⟨s3, w1, w2, w3, w4, w5, w6⟩
        obtain ⟨r, σ', τ', x1, x2, x3, x4⟩ := fin σG τG i4 s3 (by omega) w3 v4 (CG.re w1) w1 (g4'.trans v3) (fun _ => w6)
        have tG13 : τG 172 13 = L := by rw [v3.2.2.2.2.1 13 (by omega), g4'.2.2.2.2.1 13 (by omega)]; exact eM13
        have fG2 : σG 142 2 = ((4 * L + 3 : Nat) : Int) := by rw [v3.2.2.1 2 (by decide), g6']; exact eE2
        refine ⟨r, σ', τ', ?_, (aM _).mpr ?_, x3, x4⟩
        · rw [(aC (some (1, puS σG (4 * L + 3) (s3 : Int)))).mpr (by
            rw [o1, b2_q, if_neg (by decide), p1, puB fD2 (by omega), b1_q, r1', b1_q, if_neg (by decide), g1', b1_q]
            unfold Re_parseCondition
            rw [show Re_parseCondition_7_w (Re_parseSingle 10) 0 0 0 0 σF = some (1, σG) from v1, b2_q, if_neg (by decide), w1, puB fG2 (by omega), b1_q]), b2_q, if_neg (by decide)]
          exact x1
        · rw [o2, b2_q, if_neg (by decide), tD13, p2, ix_q (by omega) (by omega), ll_q, show (4 * (L : Int) + 1).toNat = 4 * L + 1 by omega, if_pos rt, g2', b1_q, an_AN, v2, b2_q, if_neg (by decide), tG13, w2, ix_q (by omega) (by omega), ll_q, show (4 * (L : Int) + 2).toNat = 4 * L + 2 by omega]
          exact x2
    · subst r0
      obtain ⟨r, σ', τ', x1, x2, x3, x4⟩ := fin _ _ i2 s2 (Nat.le_refl _) (Nat.le_refl _) PE (CE.re eE3) eE3 FS.refl (fun z => by omega)
      refine ⟨r, σ', τ', ?_, (aM _).mpr ?_, x3, x4⟩
      · rw [(aC (some (1, puS (puS σD (4 * L + 2) (s2 : Int)) (4 * L + 3) (s2 : Int)))).mpr (by
          rw [o1, b2_q, if_neg (by decide), p1, puB fD2 (by omega), b1_q, r1', b1_q, if_pos rfl, eE3, puB eE2 (by omega), b1_q]), b2_q, if_neg (by decide)]
        exact x1
      · rw [o2, b2_q, if_neg (by decide), tD13, p2, ix_q (by omega) (by omega), ll_q, show (4 * (L : Int) + 1).toNat = 4 * L + 1 by omega, if_neg rt, eM13, eM14, ix_q (by omega) (by omega), ll_q, show (4 * (L : Int) + 2).toNat = 4 * L + 2 by omega]
        exact x2
end Law
