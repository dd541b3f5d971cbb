/-! text: the call -/
section TextB
variable {σ τ : Sg}
theorem txP {c : Nat → Int} {n T k : Nat} {q : Nat → Nat} {σ1 τ9 : Sg} (hk : k < 4) (h : PX c n k T q 0 σ1 τ9) : ∃ r σ5 τ12, Re_parse (k : Int) σ1 = some (r, σ5) ∧ (if (k : Int) = 0 then b2 (Mo_readsLaw τ9) fun r13 σ14 => some (r13, σ14) else b2 (Mo_readsRows τ9) fun r15 σ16 => some (r15, σ16)) = some (r, τ12) ∧ FP σ1 σ5 τ9 τ12 ∧ ((r = 0 ∧ FAIL σ5 τ12) ∨ (r = 1 ∧ (k = 0 → LAWR σ5 τ12) ∧ (k ≠ 0 → ∃ R : Nat, R ≤ mxK k ∧ σ5 142 0 = R ∧ τ12 172 15 = R ∧ RQ k R σ5 τ12 ∧ σ5 142 1 = (if k = 2 then 6 else if k = 3 then 2 else 4) ∧ σ5 142 3 = 0 ∧ σ5 141 2 = 0 ∧ σ5 141 3 = -1))) := by
  obtain ⟨w, hw⟩ : ∃ x : Int, x = if k = 2 then 6 else if k = 3 then 2 else 4 := ⟨_, rfl⟩
  obtain ⟨σ2, e2⟩ : ∃ x, x = su (su (su (su σ1 142 0 0) 142 1 w) 142 2 0) 142 3 0 := ⟨_, rfl⟩
  have o2 : ∀ x, x ≠ 142 → σ2 x = σ1 x := fun x hx => by rw [e2, su_c hx, su_c hx, su_c hx, su_c hx]
  have z0 : σ2 142 0 = 0 := by rw [e2, su_s, up_n (by decide), su_s, up_n (by decide), su_s, up_n (by decide), su_s, up_a]
  have z1 : σ2 142 1 = w := by rw [e2, su_s, up_n (by decide), su_s, up_n (by decide), su_s, up_a]
  have z2 : σ2 142 2 = 0 := by rw [e2, su_s, up_n (by decide), su_s, up_a]
  have z3 : σ2 142 3 = 0 := by rw [e2, su_s, up_a]
  have F2 : FP σ1 σ2 τ9 τ9 := ⟨fun x _ a _ _ => o2 x a, fun j _ _ _ => by rw [o2 141 (by decide)], fun _ _ _ _ _ => rfl, fun _ _ => rfl⟩
  have hwid : Re_widthOf (k : Int) = some w := by
    unfold Re_widthOf
    rw [hw]
    have : k = 0 ∨ k = 1 ∨ k = 2 ∨ k = 3 := by omega
    rcases this with e | e | e | e <;> subst e <;> decide
  have hcl : Sh_clear 142 w σ1 = some σ2 := by
    unfold Sh_clear
    rw [ll_q, ll_q, ll_q, ll_q, e2]
  have hid : ∀ o : Option (Int × Sg), (b2 o fun r s => some (r, s)) = o := fun o => by
    cases o with
    | none => rfl
    | some p => rfl
  rw [hid, hid]
  have mk : ∀ τx : Sg, (∀ j, j = 12 ∨ (16 ≤ j ∧ j ≤ 20) → τx 172 j = τ9 172 j) → τx 180 = τ9 180 → PX c n k T q 0 σ2 τx := fun τx a b => h.ag (by rw [o2 141 (by decide)]) (by rw [o2 141 (by decide)]) (by rw [o2 141 (by decide)]) (by rw [o2 141 (by decide)]) (fun x hx => o2 x (by omega)) a b
  by_cases k0 : k = 0
  · subst k0
    rw [if_pos (show ((0 : Nat) : Int) = 0 from rfl)]
    obtain ⟨τ10, e10⟩ : ∃ x, x = su (su τ9 172 13 0) 172 14 0 := ⟨_, rfl⟩
    have w4 : w = 4 := by rw [hw]; rfl
    have P := mk τ10 (fun j hj => by rw [e10, su_s, up_n (by omega), su_s, up_n (by omega)]) (by rw [e10, su_c (by decide), su_c (by decide)])
    have t14 : τ10 172 14 = 0 := by rw [e10, su_s, up_a]
    have t13 : τ10 172 13 = 0 := by rw [e10, su_s, up_n (by decide), su_s, up_a]
    obtain ⟨r, σ5, τ12, v1, v2, v3, v4⟩ := laL (c := c) (n := n) (q := q) (T - 0) 0 0 0 0 σ2 τ10 rfl P ⟨0, z3, t14, Nat.le_refl _, Nat.le_refl _, fun j hj => (by omega), rfl⟩ z3 ⟨by rw [z1, w4], by rw [z2]; rfl, fun l hl => (by omega)⟩ (by omega) z0 t13 (by omega)
    have F10 : FP σ2 σ2 τ9 τ10 := ⟨fun _ _ _ _ _ => rfl, fun _ _ _ _ => rfl, fun x a _ _ _ => by rw [e10, su_c a, su_c a], fun j hj => by rw [e10, su_s, up_n (by omega), su_s, up_n (by omega)]⟩
    refine ⟨r, σ5, τ12, ?_, ?_, (F2.trans F10).trans v3, ?_⟩
    · unfold Re_parse
      rw [hwid, b1_q, hcl, b1_q, if_pos (show ((0 : Nat) : Int) = 0 from rfl), b1_q, if_neg (show ¬ ((0 : Nat) : Int) = 3 by decide), b1_q]
      exact v1
    · unfold Mo_readsLaw
      rw [ll_q, ll_q, ← e10]
      exact v2
    · rcases v4 with v4 | ⟨r0, v4⟩
      · exact .inl v4
      · exact .inr ⟨r0, fun _ => v4, fun z => absurd rfl z⟩
  · have hk3 : k = 1 ∨ k = 2 ∨ k = 3 := by omega
    rw [if_neg (by omega)]
    obtain ⟨τ10, e10⟩ : ∃ x, x = su τ9 172 15 0 := ⟨_, rfl⟩
    have P := mk τ10 (fun j hj => by rw [e10, su_s, up_n (by omega)]) (by rw [e10, su_c (by decide)])
    have t15 : τ10 172 15 = 0 := by rw [e10, su_s, up_a]
    have Q0 : RQ k 0 σ2 τ10 := by
      rcases hk3 with e | e | e <;> subst e
      · exact ⟨by rw [z2]; rfl, fun j hj => (by omega), fun j hj => (by omega)⟩
      · exact ⟨by rw [z2]; rfl, fun j hj => (by omega)⟩
      · exact ⟨by rw [z2]; rfl, fun j hj => (by omega)⟩
    obtain ⟨r, σ5, τ12, v1, v2, v3, v4⟩ := rwL (c := c) (n := n) (q := q) hk3 (σ0 := σ2) (T - 0) 0 0 0 σ2 τ10 rfl P Q0 (by omega) z0 t15 rfl rfl (by omega)
    have F10 : FP σ2 σ2 τ9 τ10 := ⟨fun _ _ _ _ _ => rfl, fun _ _ _ _ => rfl, fun x a _ _ _ => by rw [e10, su_c a], fun j hj => by rw [e10, su_s, up_n (by omega)]⟩
    refine ⟨r, σ5, τ12, ?_, ?_, (F2.trans F10).trans v3, ?_⟩
    · unfold Re_parse
      have t6 : (if (k : Int) = 3 then some (8 : Int) else some 16) = some ((mxK k : Nat) : Int) := by
        unfold mxK
        by_cases z : k = 3
        · rw [if_pos (by omega), if_pos z]; rfl
        · rw [if_neg (by omega), if_neg z]; rfl
      rw [hwid, b1_q, hcl, b1_q, if_neg (by omega), b1_q, t6, b1_q]
      exact v1
    · unfold Mo_readsRows
      have t3 : (if τ10 172 12 = 1 then some (7 : Int) else if τ10 172 12 = 2 then some 10 else some 15) = some ((tkT k).getD 0 1) := by
        rw [show τ10 172 12 = (k : Int) from P.2.2.1.2.2.1]
        rcases hk3 with e | e | e <;> subst e <;> decide
      rw [ll_q, ← e10, t3, b1_q]
      exact v2
    · rcases v4 with v4 | ⟨r0, R, x1, x2, x3, x4, x5, x6, x7, x8⟩
      · exact .inl v4
      · exact .inr ⟨r0, fun z => absurd z k0, fun _ => ⟨R, x1, x2, x3, x4, by rw [x5, z1, hw], by rw [x6, z3], x7, x8⟩⟩
theorem p_text (h : Inv σ τ) (a : Int) : Same2 (Td_text a σ) (Mo_text a τ) := by
  by_cases ha : 0 ≤ a ∧ a ≤ 3
  · obtain ⟨k, hk⟩ := Int.eq_ofNat_of_zero_le ha.1
    have hk : a = (k : Int) := hk
    subst hk
    have hk4 : k < 4 := by omega
    obtain ⟨n, σ1, T, q, τ9, b1', b2', b3', b4', b5', b6', b7', b8', b9'⟩ := txB h hk4
    obtain ⟨r, σ5, τ12, p1, p2, p3, p4⟩ := txP hk4 b3'
    -- what stays, on both sides
    have ec : ∀ c, c < 141 → σ5 c = σ c := fun c hc => by rw [p3.1 c (by omega) (by omega) (by omega) (by omega), b5' c (by omega) (by omega) (by omega) (by omega)]
    have e1 : σ5 141 1 = 0 := by rw [p3.2.1 1 (by decide) (by decide) (by decide)]; exact b4'
    have et : ∀ c, c = 173 ∨ c = 174 ∨ c = 175 → τ12 c = τ c := fun c hc => by rw [p3.2.2.1 c (by omega) (by omega) (by omega) (by omega), b6' c (by omega)]
    have ej : ∀ j, j < 12 → τ12 172 j = τ 172 j := fun j hj => by rw [p3.2.2.2 j (by omega), b9' j (by omega)]
    have e23 : τ12 172 23 = 0 := by rw [p3.2.2.2 23 (by omega)]; exact b7'
    have e25 : τ12 172 25 = -1 := by rw [p3.2.2.2 25 (by omega)]; exact b8'
    have hS := h.WS1
    unfold Td_text Mo_text
    rw [b1', b1_q, within_q, isIn_q, if_pos ha, b1_q, i10, ll_q, ll_q, b1_q, i10, ll_q, ll_q, ll_q, b2', b1_q, p1, b2_q, p2, b2_q, ll_q]
    rcases p4 with ⟨r0, p4⟩ | ⟨r0, pL, pR⟩
    · subst r0
      rw [if_pos rfl, if_pos rfl, ll_q, ll_q]
      refine ⟨-1, σ5, _, rfl, rfl, ?_⟩
      have f21 : su τ12 172 16 0 172 21 = τ12 172 21 := by rw [su_s, up_n (by decide)]
      have f22 : su (su τ12 172 16 0) 172 23 (su τ12 172 16 0 172 21) 172 22 = τ12 172 22 := by rw [su_s, up_n (by decide), su_s, up_n (by decide)]
      have e173 : su (su (su τ12 172 16 0) 172 23 (su τ12 172 16 0 172 21)) 172 25 (su (su τ12 172 16 0) 172 23 (su τ12 172 16 0 172 21) 172 22) 173 = τ 173 := by rw [su_c (by decide), su_c (by decide), su_c (by decide), et 173 (by omega)]
      refine invT h (fun c hc => ec c (by omega)) (by rw [ec 61 (by omega)]) (.inl ⟨ec 61 (by omega), by rw [su_s, up_n (by decide), su_s, up_n (by decide), su_s, up_n (by decide), ej 4 (by omega)]⟩) (by rw [su_s, up_n (by decide), su_s, up_n (by decide), su_s, up_n (by decide), ej 5 (by omega)]) (by rw [su_c (by decide), su_c (by decide), su_c (by decide), et 174 (by omega)]) (by rw [su_c (by decide), su_c (by decide), su_c (by decide), et 175 (by omega)]) (fun j _ => by rw [e173]) ?_ ?_
      · rw [e173]
        exact WS.agr hS (fun _ _ _ => rfl) (fun _ _ _ => rfl) (fun k hk => ec k (by omega)) (by rw [ec 1 (by omega)])
      · refine ⟨?_, ?_, fun j hj => ?_, ?_, ?_⟩
        · rw [e1, su_s, up_n (by decide), su_s, up_n (by decide), su_s, up_a]
        · rw [su_s, up_n (by decide), su_s, up_n (by decide), su_s, up_a]; omega
        · rw [su_s, up_n (by decide), su_s, up_n (by decide), su_s, up_a] at hj; omega
        · rw [su_s, up_n (by decide), su_s, up_a, f21]; exact p4.1
        · rw [su_s, up_a, f22]; exact p4.2
    · subst r0
      rw [if_neg (show ¬ (1 : Int) = 0 by decide), if_neg (show ¬ (1 : Int) = 0 by decide), ix_q (by omega) (by omega)]
      obtain ⟨τ17, e17⟩ : ∃ x, x = su τ12 172 16 0 := ⟨_, rfl⟩
      rw [← e17]
      have o17 : ∀ c, c ≠ 172 → τ17 c = τ12 c := fun c hc => by rw [e17, su_c hc]
      have j17 : ∀ j, j ≠ 16 → τ17 172 j = τ12 172 j := fun j hj => by rw [e17, su_s, up_n hj]
      have t16 : τ17 172 16 = 0 := by rw [e17, su_s, up_a]
      obtain ⟨s1, s2, s3, s4, s5, ⟨c1, c2, c3⟩, s7⟩ := hS
      have hkk : k = 0 ∨ k = 1 ∨ k = 2 ∨ k = 3 := by omega
      rcases hkk with e | e | e | e <;> subst e
      · -- the law
        obtain ⟨L, s, l1, l2, l3, l4, l5, l6, l7, l8, l9, l10⟩ := pL rfl
        obtain ⟨σ8, x1, ⟨x20, x21, x22, x23⟩, x3, x4, x5⟩ := shD (σ := σ5) (t := 17) (a := 142) (by omega) (n1 := 64) (n2 := 400) (n3 := 96) (n4 := 400) (by decide +kernel) (by decide +kernel) (by decide +kernel) (by decide +kernel) (by decide) (by decide) (by rw [l7.2.1]; omega) (by rw [l5]; omega)
        obtain ⟨τ', y1, y2, y3, y4, y5, y6⟩ := puLaw (τ := τ17) l1 l2 (by rw [j17 13 (by decide)]; exact l4) (by rw [j17 14 (by decide)]; exact l6)
        refine ⟨(L : Int), σ8, τ', ?_, ?_, ?_⟩
        · rw [show Sh_copyFrom (16 + 1 + 3 * (((0 : Nat) : Int)).toNat) 142 σ5 = some σ8 from x1, b1_q, if_neg (show ¬ ((0 : Nat) : Int) = 1 by decide), if_neg (show ¬ ((0 : Nat) : Int) = 2 by decide), b1_q, if_pos (show (0 : Int) = 0 from rfl), ix_q (by omega) (by omega)]
          show some (σ8 17 0, σ8) = _
          rw [x20, l3]
        · unfold Mo_putsText
          rw [if_pos (show ((0 : Nat) : Int) = 0 from rfl), y1, b2_q, b2_q]
        · have w' : ∀ j, j ≠ 550 → j < 1333 → τ' 173 j = τ 173 j := fun j a b => by rw [y5 j a b, o17 173 (by decide), et 173 (by omega)]
          have q177 : τ17 177 = τ12 177 := o17 177 (by decide)
          have q178 : τ17 178 = τ12 178 := o17 178 (by decide)
          have c8 : ∀ c, (c < 17 ∨ 20 ≤ c) → c < 141 → σ8 c = σ c := fun c a b => by rw [x5 c (by omega), ec c b]
          refine invT h (fun c hc => c8 c (by omega) (by omega)) (by rw [c8 61 (by omega) (by omega)]) (.inl ⟨c8 61 (by omega) (by omega), by rw [y6 172 (by decide), j17 4 (by decide), ej 4 (by omega)]⟩) (by rw [y6 172 (by decide), j17 5 (by decide), ej 5 (by omega)]) (by rw [y6 174 (by decide), o17 174 (by decide), et 174 (by omega)]) (by rw [y6 175 (by decide), o17 175 (by decide), et 175 (by omega)]) (fun j hj => w' j (by omega) (by omega)) ?_ ?_
          · refine ⟨fun j hj => ?_, ?_, ?_, ?_, ?_, ⟨?_, ?_, fun j hj => ?_⟩, fun k hk => ?_⟩
            · rw [c8 5 (by omega) (by omega), w' _ (by omega) (by omega)]; exact s1 j hj
            · rw [c8 20 (by omega) (by omega), c8 21 (by omega) (by omega)]; exact HR.ag s2 (fun j hj => w' j (by omega) (by omega))
            · rw [c8 23 (by omega) (by omega), c8 24 (by omega) (by omega)]; exact SR.ag s3 (fun j hj => w' j (by omega) (by omega))
            · rw [c8 26 (by omega) (by omega), c8 27 (by omega) (by omega)]; exact BR.ag s4 (fun j hj => w' j (by omega) (by omega))
            · have hs3 : σ8 17 3 = s := by rw [x23, l5]; omega
              have hs2 : σ8 17 2 = 4 * (L : Int) := by rw [x22, l7.2.1]; omega
              have cc : ∀ j, j < 4 * L → σ8 18 j = σ5 143 j := fun j hj => x3 j (by rw [l7.2.1]; omega) (by omega)
              have kk : ∀ j, j < s → τ' 173 (1397 + 2 * j) = τ12 178 (2 * j) ∧ τ' 173 (1398 + 2 * j) = τ12 178 (2 * j + 1) := fun j hj => by
                refine ⟨by rw [y4 _ (by omega), q178], ?_⟩
                rw [show 1398 + 2 * j = 1397 + (2 * j + 1) by omega, y4 _ (by omega), q178]
              refine ⟨by rw [x20, l3, y2], ⟨by rw [y2]; omega, by rw [y2]; omega, by show 0 ≤ σ8 17 2; rw [hs2]; omega⟩, fun _ => ⟨by rw [x21]; exact l7.1, by show σ8 17 2 = _; rw [hs2, y2]⟩, ⟨by show 0 ≤ σ8 17 3; rw [hs3]; omega, by show σ8 17 3 ≤ 400; rw [hs3]; omega⟩, fun i hi => ?_, fun j hj => ?_⟩
              · rw [y2] at hi
                obtain ⟨u1, u2, u3, u4, u5, u6, u7⟩ := l7.2.2 i (by omega)
                obtain ⟨v1, v2, v3, v4⟩ := y3 i (by omega)
                rw [q177] at v1 v2 v3 v4
                show (0 ≤ σ8 18 (4 * i) ∧ _) ∧ _
                rw [cc (4 * i) (by omega), cc (4 * i + 1) (by omega), cc (4 * i + 2) (by omega), cc (4 * i + 3) (by omega), v1, v2, v3, v4, show σ8 (1 + 16) 3 = (s : Int) from hs3]
                refine ⟨u1, u2, u3, u4, u5, ?_, fun z => ?_⟩
                · rw [tyN_agr (k := fun j => τ12 178 (2 * j)) _ _ _ (fun j g1 g2 => (kk j (by omega)).1)]; exact u6
                · rw [tyN_agr (k := fun j => τ12 178 (2 * j)) _ _ _ (fun j g1 g2 => (kk j (by omega)).1)]; exact u7 z
              · have hj' : (j : Int) < σ8 17 3 := hj
                rw [hs3] at hj'
                rw [(kk j (by omega)).1, (kk j (by omega)).2]
                show stepR (σ8 19 j) _ _
                rw [show σ8 19 j = σ5 144 j from x4 j (by rw [l5]; omega) (by omega)]
                exact l8 j (by omega)
            · rw [c8 1 (by omega) (by omega), w' _ (by omega) (by omega)]; exact c1
            · rw [w' _ (by omega) (by omega)]; exact c2
            · rw [w' _ (by omega) (by omega)] at hj
              rw [c8 29 (by omega) (by omega), w' _ (by omega) (by omega)]; exact c3 j hj
            · rw [c8 30 (by omega) (by omega), w' _ (by omega) (by omega), w' _ (by omega) (by omega)]; exact s7 k hk
          · have m8 : σ8 141 = σ5 141 := x5 141 (by omega)
            refine ⟨by rw [m8, e1, y6 172 (by decide), t16], by rw [y6 172 (by decide), t16]; omega, fun j hj => ?_, by rw [m8, l9, y6 172 (by decide), j17 23 (by decide), e23], by rw [m8, l10, y6 172 (by decide), j17 25 (by decide), e25]⟩
            rw [y6 172 (by decide), t16] at hj; omega
      · -- the hours
        obtain ⟨R, l1, l3, l4, lQ, l5, l6, l9, l10⟩ := pR (by decide)
        have hR16 : R ≤ 16 := l1
        have lQ : HQ R σ5 τ12 := lQ
        obtain ⟨σ8, x1, ⟨x20, x21, x22, x23⟩, x3, x4, x5⟩ := shD (σ := σ5) (t := 20) (a := 142) (by omega) (n1 := 64) (n2 := 0) (n3 := 96) (n4 := 400) (by decide +kernel) (by decide +kernel) (by decide +kernel) (by decide +kernel) (by decide) (by decide) (by rw [lQ.1]; omega) (by rw [l6]; omega)
        obtain ⟨τ', y1, y2, y3, y4, y6⟩ := puR (τ := su τ17 172 4 0) (many := 551) (pl := 555) (each := 4) (R := R) (by decide) (by omega) (by omega) (by decide) hR16 (by rw [su_s, up_n (by decide), j17 15 (by decide)]; exact l4)
        refine ⟨(R : Int), su σ8 61 2 0, τ', ?_, ?_, ?_⟩
        · rw [show Sh_copyFrom (16 + 1 + 3 * (((1 : Nat) : Int)).toNat) 142 σ5 = some σ8 from x1, b1_q, if_pos (show ((1 : Nat) : Int) = 1 from rfl), b1_q, if_neg (show ¬ (1 : Int) = 0 by decide)]
          unfold Pa_forget
          rw [ll_q, b1_q, ix_q (by omega) (by omega)]
          show some (su σ8 61 2 0 20 0, _) = _
          rw [su_c (show (20 : Nat) ≠ 61 by decide), x20, l3]
        · unfold Mo_putsText Mo_forgets
          rw [if_neg (show ¬ ((1 : Nat) : Int) = 0 by decide), if_neg (show ¬ ((1 : Nat) : Int) = 3 by decide), ll_q, b1_q, if_pos (show ((1 : Nat) : Int) = 1 from rfl), show Mo_puts 551 555 4 (su τ17 172 4 0) = _ from y1, b2_q, b2_q]
        · have y6' : ∀ c, c ≠ 172 → c ≠ 173 → τ' c = τ12 c := fun c a b => by rw [y6 c b, su_c a, o17 c a]
          have y7 : ∀ j, j ≠ 4 → τ' 172 j = τ17 172 j := fun j a => by rw [y6 172 (by decide), su_s, up_n a]
          have w' : ∀ j, j ≠ 551 → (j < 555 ∨ 619 ≤ j) → τ' 173 j = τ 173 j := fun j a b => by rw [y4 j a (by omega), su_c (by decide), o17 173 (by decide), et 173 (by omega)]
          have c8 : ∀ c, (c < 20 ∨ 23 ≤ c) → c ≠ 61 → c < 141 → su σ8 61 2 0 c = σ c := fun c a b d => by rw [su_c b, x5 c (by omega), ec c d]
          have r9 : ∀ j, j < 4 * R → τ' 173 (555 + j) = τ12 179 j := fun j hj => by rw [y3 j hj, su_c (by decide), o17 179 (by decide)]
          refine invT h (fun c hc => c8 c (by omega) (by omega) (by omega)) (by rw [su_s, up_n (by decide), x5 61 (by omega), ec 61 (by omega)]) (.inr ⟨by rw [su_s, up_a], by rw [y6 172 (by decide), su_s, up_a]⟩) (by rw [y7 5 (by decide), j17 5 (by decide), ej 5 (by omega)]) (by rw [y6' 174 (by decide) (by decide), et 174 (by omega)]) (by rw [y6' 175 (by decide) (by decide), et 175 (by omega)]) (fun j hj => w' j (by omega) (by omega)) ?_ ?_
          · refine ⟨fun j hj => ?_, ?_, ?_, ?_, ?_, ⟨?_, ?_, fun j hj => ?_⟩, fun k hk => ?_⟩
            · rw [c8 5 (by omega) (by omega) (by omega), w' _ (by omega) (by omega)]; exact s1 j hj
            · have f20 : su σ8 61 2 0 (1 + 19) = σ8 20 := su_c (by decide)
              have f21 : su σ8 61 2 0 (1 + 20) = σ8 21 := su_c (by decide)
              rw [f20, f21]
              refine ⟨by rw [x20, l3, y2], ⟨by rw [y2]; omega, by rw [y2]; omega, by rw [x22, lQ.1]; omega, by rw [x23, l6]; omega⟩, fun _ => ⟨by rw [x21, l5]; rfl, by rw [x22, lQ.1, y2]; omega⟩, fun j hj => ?_, fun i hi => ?_⟩
              · rw [y2] at hj
                rw [r9 j (by omega), show σ8 21 j = σ5 143 j from x3 j (by rw [lQ.1]; omega) (by omega)]
                exact lQ.2.1 j (by omega)
              · rw [y2] at hi
                rw [r9 _ (by omega), r9 _ (by omega), r9 _ (by omega), r9 _ (by omega)]
                exact lQ.2.2 i (by omega)
            · rw [c8 23 (by omega) (by omega) (by omega), c8 24 (by omega) (by omega) (by omega)]; exact SR.ag s3 (fun j hj => w' j (by omega) (by omega))
            · rw [c8 26 (by omega) (by omega) (by omega), c8 27 (by omega) (by omega) (by omega)]; exact BR.ag s4 (fun j hj => w' j (by omega) (by omega))
            · rw [c8 17 (by omega) (by omega) (by omega), c8 18 (by omega) (by omega) (by omega), c8 19 (by omega) (by omega) (by omega)]; exact LR.ag s5 (fun j hj => w' j (by omega) (by omega))
            · rw [c8 1 (by omega) (by omega) (by omega), w' _ (by omega) (by omega)]; exact c1
            · rw [w' _ (by omega) (by omega)]; exact c2
            · rw [w' _ (by omega) (by omega)] at hj
              rw [c8 29 (by omega) (by omega) (by omega), w' _ (by omega) (by omega)]; exact c3 j hj
            · rw [c8 30 (by omega) (by omega) (by omega), w' _ (by omega) (by omega), w' _ (by omega) (by omega)]; exact s7 k hk
          · have m8 : su σ8 61 2 0 141 = σ5 141 := by rw [su_c (by decide), x5 141 (by omega)]
            refine ⟨by rw [m8, e1, y7 16 (by decide), t16], by rw [y7 16 (by decide), t16]; omega, fun j hj => ?_, by rw [m8, l9, y7 23 (by decide), j17 23 (by decide), e23], by rw [m8, l10, y7 25 (by decide), j17 25 (by decide), e25]⟩
            rw [y7 16 (by decide), t16] at hj; omega
      · -- the sayings
        obtain ⟨R, l1, l3, l4, lQ, l5, l6, l9, l10⟩ := pR (by decide)
        have hR16 : R ≤ 16 := l1
        have lQ : SQ R σ5 τ12 := lQ
        obtain ⟨σ8, x1, ⟨x20, x21, x22, x23⟩, x3, x4, x5⟩ := shD (σ := σ5) (t := 23) (a := 142) (by omega) (n1 := 96) (n2 := 0) (n3 := 96) (n4 := 400) (by decide +kernel) (by decide +kernel) (by decide +kernel) (by decide +kernel) (by decide) (by decide) (by rw [lQ.1]; omega) (by rw [l6]; omega)
        obtain ⟨τ', y1, y2, y3, y4, y6⟩ := puR (τ := su τ17 172 4 0) (many := 552) (pl := 619) (each := 5) (R := R) (by decide) (by omega) (by omega) (by decide) hR16 (by rw [su_s, up_n (by decide), j17 15 (by decide)]; exact l4)
        refine ⟨(R : Int), su σ8 61 2 0, τ', ?_, ?_, ?_⟩
        · rw [show Sh_copyFrom (16 + 1 + 3 * (((2 : Nat) : Int)).toNat) 142 σ5 = some σ8 from x1, b1_q, if_neg (show ¬ ((2 : Nat) : Int) = 1 by decide), if_pos (show ((2 : Nat) : Int) = 2 from rfl), b1_q, if_neg (show ¬ (1 : Int) = 0 by decide)]
          unfold Pa_forget
          rw [ll_q, b1_q, ix_q (by omega) (by omega)]
          show some (su σ8 61 2 0 23 0, _) = _
          rw [su_c (show (23 : Nat) ≠ 61 by decide), x20, l3]
        · unfold Mo_putsText Mo_forgets
          rw [if_neg (show ¬ ((2 : Nat) : Int) = 0 by decide), if_neg (show ¬ ((2 : Nat) : Int) = 3 by decide), ll_q, b1_q, if_neg (show ¬ ((2 : Nat) : Int) = 1 by decide), show Mo_puts 552 619 5 (su τ17 172 4 0) = _ from y1, b2_q, b2_q]
        · have y6' : ∀ c, c ≠ 172 → c ≠ 173 → τ' c = τ12 c := fun c a b => by rw [y6 c b, su_c a, o17 c a]
          have y7 : ∀ j, j ≠ 4 → τ' 172 j = τ17 172 j := fun j a => by rw [y6 172 (by decide), su_s, up_n a]
          have w' : ∀ j, j ≠ 552 → (j < 619 ∨ 699 ≤ j) → τ' 173 j = τ 173 j := fun j a b => by rw [y4 j a (by omega), su_c (by decide), o17 173 (by decide), et 173 (by omega)]
          have c8 : ∀ c, (c < 23 ∨ 26 ≤ c) → c ≠ 61 → c < 141 → su σ8 61 2 0 c = σ c := fun c a b d => by rw [su_c b, x5 c (by omega), ec c d]
          have r9 : ∀ j, j < 5 * R → τ' 173 (619 + j) = τ12 179 j := fun j hj => by rw [y3 j hj, su_c (by decide), o17 179 (by decide)]
          refine invT h (fun c hc => c8 c (by omega) (by omega) (by omega)) (by rw [su_s, up_n (by decide), x5 61 (by omega), ec 61 (by omega)]) (.inr ⟨by rw [su_s, up_a], by rw [y6 172 (by decide), su_s, up_a]⟩) (by rw [y7 5 (by decide), j17 5 (by decide), ej 5 (by omega)]) (by rw [y6' 174 (by decide) (by decide), et 174 (by omega)]) (by rw [y6' 175 (by decide) (by decide), et 175 (by omega)]) (fun j hj => w' j (by omega) (by omega)) ?_ ?_
          · refine ⟨fun j hj => ?_, ?_, ?_, ?_, ?_, ⟨?_, ?_, fun j hj => ?_⟩, fun k hk => ?_⟩
            · rw [c8 5 (by omega) (by omega) (by omega), w' _ (by omega) (by omega)]; exact s1 j hj
            · rw [c8 20 (by omega) (by omega) (by omega), c8 21 (by omega) (by omega) (by omega)]; exact HR.ag s2 (fun j hj => w' j (by omega) (by omega))
            · have f20 : su σ8 61 2 0 (1 + 22) = σ8 23 := su_c (by decide)
              have f21 : su σ8 61 2 0 (1 + 23) = σ8 24 := su_c (by decide)
              rw [f20, f21]
              have cc : ∀ j, j < 6 * R → σ8 24 j = σ5 143 j := fun j hj => x3 j (by rw [lQ.1]; omega) (by omega)
              refine ⟨by rw [x20, l3, y2], ⟨by rw [y2]; omega, by rw [y2]; omega, by rw [x22, lQ.1]; omega, by rw [x23, l6]; omega⟩, fun _ => ⟨by rw [x21, l5]; rfl, by rw [x22, lQ.1, y2]; omega⟩, fun i hi => ?_⟩
              rw [y2] at hi
              have u := lQ.2 i (by omega)
              unfold SQr at u
              rw [show 619 + 5 * i + 1 = 619 + (5 * i + 1) by omega, show 619 + 5 * i + 2 = 619 + (5 * i + 2) by omega, show 619 + 5 * i + 3 = 619 + (5 * i + 3) by omega, show 619 + 5 * i + 4 = 619 + (5 * i + 4) by omega, r9 _ (by omega), r9 _ (by omega), r9 _ (by omega), r9 _ (by omega), r9 _ (by omega), cc _ (by omega), cc _ (by omega), cc _ (by omega), cc _ (by omega), cc _ (by omega), cc _ (by omega)]
              exact u
            · rw [c8 26 (by omega) (by omega) (by omega), c8 27 (by omega) (by omega) (by omega)]; exact BR.ag s4 (fun j hj => w' j (by omega) (by omega))
            · rw [c8 17 (by omega) (by omega) (by omega), c8 18 (by omega) (by omega) (by omega), c8 19 (by omega) (by omega) (by omega)]; exact LR.ag s5 (fun j hj => w' j (by omega) (by omega))
            · rw [c8 1 (by omega) (by omega) (by omega), w' _ (by omega) (by omega)]; exact c1
            · rw [w' _ (by omega) (by omega)]; exact c2
            · rw [w' _ (by omega) (by omega)] at hj
              rw [c8 29 (by omega) (by omega) (by omega), w' _ (by omega) (by omega)]; exact c3 j hj
            · rw [c8 30 (by omega) (by omega) (by omega), w' _ (by omega) (by omega), w' _ (by omega) (by omega)]; exact s7 k hk
          · have m8 : su σ8 61 2 0 141 = σ5 141 := by rw [su_c (by decide), x5 141 (by omega)]
            refine ⟨by rw [m8, e1, y7 16 (by decide), t16], by rw [y7 16 (by decide), t16]; omega, fun j hj => ?_, by rw [m8, l9, y7 23 (by decide), j17 23 (by decide), e23], by rw [m8, l10, y7 25 (by decide), j17 25 (by decide), e25]⟩
            rw [y7 16 (by decide), t16] at hj; omega
      · -- the habits
        obtain ⟨R, l1, l3, l4, lQ, l5, l6, l9, l10⟩ := pR (by decide)
        have hR8 : R ≤ 8 := l1
        have lQ : BQ R σ5 τ12 := lQ
        obtain ⟨σ8, x1, ⟨x20, x21, x22, x23⟩, x3, x4, x5⟩ := shD (σ := σ5) (t := 26) (a := 142) (by omega) (n1 := 16) (n2 := 0) (n3 := 96) (n4 := 400) (by decide +kernel) (by decide +kernel) (by decide +kernel) (by decide +kernel) (by decide) (by decide) (by rw [lQ.1]; omega) (by rw [l6]; omega)
        obtain ⟨τ', y1, y2, y3, y4, y6⟩ := puR (τ := τ17) (many := 553) (pl := 699) (each := 2) (R := R) (by decide) (by omega) (by omega) (by decide) (by omega) (by rw [j17 15 (by decide)]; exact l4)
        refine ⟨(R : Int), σ8, τ', ?_, ?_, ?_⟩
        · rw [show Sh_copyFrom (16 + 1 + 3 * (((3 : Nat) : Int)).toNat) 142 σ5 = some σ8 from x1, b1_q, if_neg (show ¬ ((3 : Nat) : Int) = 1 by decide), if_neg (show ¬ ((3 : Nat) : Int) = 2 by decide), b1_q, if_pos (show (0 : Int) = 0 from rfl), ix_q (by omega) (by omega)]
          show some (σ8 26 0, σ8) = _
          rw [x20, l3]
        · unfold Mo_putsText
          rw [if_neg (show ¬ ((3 : Nat) : Int) = 0 by decide), if_pos (show ((3 : Nat) : Int) = 3 from rfl), show Mo_puts 553 699 2 τ17 = _ from y1, b2_q, b2_q]
        · have w' : ∀ j, j ≠ 553 → (j < 699 ∨ 715 ≤ j) → τ' 173 j = τ 173 j := fun j a b => by rw [y4 j a (by omega), o17 173 (by decide), et 173 (by omega)]
          have c8 : ∀ c, (c < 26 ∨ 29 ≤ c) → c < 141 → σ8 c = σ c := fun c a d => by rw [x5 c (by omega), ec c d]
          have r9 : ∀ j, j < 2 * R → τ' 173 (699 + j) = τ12 179 j := fun j hj => by rw [y3 j hj, o17 179 (by decide)]
          refine invT h (fun c hc => c8 c (by omega) (by omega)) (by rw [c8 61 (by omega) (by omega)]) (.inl ⟨c8 61 (by omega) (by omega), by rw [y6 172 (by decide), j17 4 (by decide), ej 4 (by omega)]⟩) (by rw [y6 172 (by decide), j17 5 (by decide), ej 5 (by omega)]) (by rw [y6 174 (by decide), o17 174 (by decide), et 174 (by omega)]) (by rw [y6 175 (by decide), o17 175 (by decide), et 175 (by omega)]) (fun j hj => w' j (by omega) (by omega)) ?_ ?_
          · refine ⟨fun j hj => ?_, ?_, ?_, ?_, ?_, ⟨?_, ?_, fun j hj => ?_⟩, fun k hk => ?_⟩
            · rw [c8 5 (by omega) (by omega), w' _ (by omega) (by omega)]; exact s1 j hj
            · rw [c8 20 (by omega) (by omega), c8 21 (by omega) (by omega)]; exact HR.ag s2 (fun j hj => w' j (by omega) (by omega))
            · rw [c8 23 (by omega) (by omega), c8 24 (by omega) (by omega)]; exact SR.ag s3 (fun j hj => w' j (by omega) (by omega))
            · have cc : ∀ j, j < 2 * R → σ8 27 j = σ5 143 j := fun j hj => x3 j (by rw [lQ.1]; omega) (by omega)
              show BR (σ8 26) (σ8 27) (τ' 173)
              refine ⟨by rw [x20, l3, y2], ⟨by rw [y2]; omega, by rw [y2]; omega, by rw [x22, lQ.1]; omega, by rw [x23, l6]; omega⟩, fun _ => ⟨by rw [x21, l5]; rfl, by rw [x22, lQ.1, y2]; omega⟩, fun j hj => ?_⟩
              rw [y2] at hj
              rw [r9 _ (by omega), cc _ (by omega)]
              exact lQ.2 j (by omega)
            · rw [c8 17 (by omega) (by omega), c8 18 (by omega) (by omega), c8 19 (by omega) (by omega)]; exact LR.ag s5 (fun j hj => w' j (by omega) (by omega))
            · rw [c8 1 (by omega) (by omega), w' _ (by omega) (by omega)]; exact c1
            · rw [w' _ (by omega) (by omega)]; exact c2
            · rw [w' _ (by omega) (by omega)] at hj
              rw [c8 29 (by omega) (by omega), w' _ (by omega) (by omega)]; exact c3 j hj
            · rw [c8 30 (by omega) (by omega), w' _ (by omega) (by omega), w' _ (by omega) (by omega)]; exact s7 k hk
          · have m8 : σ8 141 = σ5 141 := x5 141 (by omega)
            refine ⟨by rw [m8, e1, y6 172 (by decide), t16], by rw [y6 172 (by decide), t16]; omega, fun j hj => ?_, by rw [m8, l9, y6 172 (by decide), j17 23 (by decide), e23], by rw [m8, l10, y6 172 (by decide), j17 25 (by decide), e25]⟩
            rw [y6 172 (by decide), t16] at hj; omega
  · exact txO h ha
end TextB
