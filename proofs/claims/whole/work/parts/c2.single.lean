/-! text: one test -/
section Single
variable {c : Nat → Int} {n T : Nat} {q : Nat → Nat} {a : Nat}
theorem FS24 {σ τ : Sg} {v : Int} : FS σ σ τ (su τ 172 24 v) := ⟨fun _ _ _ _ => rfl, fun _ _ _ _ => rfl, fun _ _ => rfl, fun c h _ => su_c h, fun j hj => by rw [su_s, up_n (by omega)], by rw [su_s, up_n (by decide)]; exact Int.le_refl _, fun j _ => by rw [su_c (by decide)]⟩
theorem PX24 {k i : Nat} {σ τ : Sg} {v : Int} (h : PX c n k T q i σ τ) : PX c n k T q i σ (su τ 172 24 v) := h.ag rfl rfl rfl rfl (fun _ _ => rfl) (fun j hj => by rw [su_s, up_n (by omega)]) (su_c (by decide))
theorem CX24 {i pd : Nat} {st : List Bool} {σ τ : Sg} {v : Int} (h : CX a st i pd σ τ) : CX a st i pd σ (su τ 172 24 v) := h.ag (Nat.le_refl _) rfl rfl (by rw [su_s, up_n (by decide)]) (su_c (by decide))
/-- a sign is asked for -/
theorem PX.tak {k i : Nat} {σ τ : Sg} (h : PX c n k T q i σ τ) {x : Int} (hx : isG x) : ∃ r σ' τ', Re_takeSign x σ = some (r, σ') ∧ Mo_need (100 + x) τ = some (r, τ') ∧ FS σ σ' τ τ' ∧ ((r = 0 ∧ FAIL σ' τ') ∨ (r = 1 ∧ i < T ∧ PX c n k T q (i + 1) σ' τ' ∧ τ' 172 24 = τ 172 24 ∧ σ' 142 = σ 142 ∧ σ' 144 = σ 144 ∧ τ' 172 14 = τ 172 14 ∧ τ' 178 = τ 178)) := by
  obtain ⟨r, r1, r2⟩ := h.sgn hx
  unfold Re_takeSign Mo_need
  rw [r1, b1_q]
  rcases r2 with ⟨r0, rt, hi⟩ | ⟨r0, rt⟩
  · subst r0
    obtain ⟨σ4, τ4, g1, g2, g3, g4, g5, g6, g7, g8, g9⟩ := h.nxt hi
    exact ⟨1, σ4, τ4, by rw [if_neg (by decide), g1, b1_q], by rw [if_pos rt, g2, b1_q], g4, .inr ⟨rfl, hi, g3, g5, g6, g7, g8, g9⟩⟩
  · subst r0
    obtain ⟨σ', τ', f1, f2, f3, f4⟩ := h.refS 1
    exact ⟨0, σ', τ', by rw [if_pos rfl, f1, b2_q], by rw [if_neg rt, f2, b2_q], f3, .inl ⟨rfl, f4⟩⟩
theorem sgQ : ∀ (f op : Nat), op ≤ 8 → op + f = 10 → SGL c n T q a op (Re_parseSingle f) (Mo_oneTest f)
  | 0, op, h8, hf => by omega
  | f + 1, op, h8, hf => by
    intro i pd st σ τ h hC h24 hl
    have b4 := h.i4
    obtain ⟨r, r1, r2⟩ := h.wrd (w := 8) (by decide)
    have r1' : Re_isWord 8 σ = some r := r1
    have t8 : (tkT 0).getD 8 1 = 6 := by decide
    rw [t8] at r2
    obtain ⟨p, p1, p2⟩ := h.sgn (x := 40) (by unfold isG; omega)
    have refuse : (r = 1 ∨ p = 1) → op = 8 → ∃ r σ' τ', Re_parseSingle (f + 1) (op : Int) σ = some (r, σ') ∧ Mo_oneTest (f + 1) τ = some (r, τ') ∧ FS σ σ' τ τ' ∧ ((r = 0 ∧ FAIL σ' τ') ∨ (r = 1 ∧ ∃ i', i < i' ∧ PX c n 0 T q i' σ' τ' ∧ CX a (true :: st) i' pd σ' τ' ∧ τ' 172 24 = op)) := fun hrp e8 => by
      obtain ⟨σ', τ', f1, f2, f3, f4⟩ := h.refS 3
      have ho : Mo_opens τ = some (0, τ') := by
        unfold Mo_opens
        rw [h24, e8, if_pos (show ((8 : Nat) : Int) = 8 from rfl), f2, b2_q]
      refine ⟨0, σ', τ', ?_, ?_, f3, .inl ⟨rfl, f4⟩⟩
      · unfold Re_parseSingle
        have t : (if r = 0 then b1 (Re_isSign 40 σ) fun r3 => if r3 = 0 then some 0 else some 1 else some 1) = some (1 : Int) := by
          rcases r2 with ⟨z, -⟩ | ⟨z, -⟩
          · rw [if_neg (by omega)]
          · rw [if_pos z, p1, b1_q, if_neg (by omega)]
        rw [r1', b1_q, t, b1_q, if_neg (by decide), if_neg (by omega), f1, b2_q]
      · unfold Mo_oneTest
        rcases r2 with ⟨z, z1, -⟩ | ⟨z, z1, -⟩
        · rw [if_pos z1, ho, b2_q, if_pos rfl]
        · rcases p2 with ⟨y, y1, -⟩ | ⟨y, y1⟩
          · rw [if_neg z1, if_pos (by omega), ho, b2_q, if_pos rfl]
          · omega
    rcases r2 with ⟨z, z1, z2, z3, hi⟩ | ⟨z, z1, z2⟩
    · subst z
      by_cases e8 : op = 8
      · exact refuse (.inl rfl) e8
      · obtain ⟨σ1, τ1, g1, g2, g3, g4, g5, g6, g7, g8, g9⟩ := (PX24 (v := (op : Int) + 1) h).nxt hi
        have ho : Mo_opens τ = some (1, τ1) := by
          unfold Mo_opens
          rw [h24, if_neg (by omega), wr_q (by omega) (by omega), ll_q, g2, b1_q]
        have C1 : CX a st (i + 1) (pd + 1) σ1 τ1 := ((CX24 (v := (op : Int) + 1) hC).mv (i' := i + 1) (pd' := pd + 1) (by omega)).ag (Nat.le_refl _) (by rw [g6]) g7 g8 g9
        obtain ⟨r, σ2, τ2, o1, o2, o3, o4⟩ := sgQ f (op + 1) (by omega) (by omega) (i + 1) (pd + 1) st σ1 τ1 g3 C1 (by rw [g5, su_s, up_a]; omega) (by omega)
        have o1' : Re_parseSingle f (wr ((op : Int) + 1)) σ1 = some (r, σ2) := by rw [wr_q (by omega) (by omega)]; exact o1
        rcases o4 with ⟨r0, o4⟩ | ⟨r0, i2, o4, o5, o6, o7⟩
        · subst r0
          refine ⟨0, σ2, τ2, ?_, ?_, (FS24.trans g4).trans o3, .inl ⟨rfl, o4⟩⟩
          · unfold Re_parseSingle
            rw [r1', b1_q, if_neg (show ¬ (1 : Int) = 0 by decide), b1_q, if_neg (show ¬ (1 : Int) = 0 by decide), if_pos (by omega), g1, b1_q, if_neg (show ¬ (1 : Int) = 0 by decide), o1', b2_q, if_pos rfl]
          · unfold Mo_oneTest
            rw [if_pos z1, ho, b2_q, if_neg (by decide), o2, b2_q, if_pos rfl]
        · subst r0
          obtain ⟨σ3, τ3, e1, e2, e3, e4, e5, e6⟩ := (CX24 (v := (op : Int)) o6).em (pd' := pd) (by have := o5.i4; omega) (PX24 (v := (op : Int)) o5) (.inl rfl) (x := 3) (kk := 30) (v := 0) (st' := true :: st) (.inr (.inr (.inr (.inl ⟨rfl, rfl⟩)))) (by
            unfold tyS
            rw [if_neg (by decide), if_neg (by decide), if_pos rfl])
          refine ⟨1, σ3, τ3, ?_, ?_, (((FS24.trans g4).trans o3).trans FS24).trans e4, .inr ⟨rfl, i2, by omega, e5, e3 i2 (by omega), by rw [e6, su_s, up_a]⟩⟩
          · unfold Re_parseSingle
            rw [r1', b1_q, if_neg (show ¬ (1 : Int) = 0 by decide), b1_q, if_neg (show ¬ (1 : Int) = 0 by decide), if_pos (by omega), g1, b1_q, if_neg (show ¬ (1 : Int) = 0 by decide), o1', b2_q, if_neg (by decide), e1, b1_q]
          · unfold Mo_oneTest
            rw [if_pos z1, ho, b2_q, if_neg (by decide), o2, b2_q, if_neg (by decide), o7, wr_q (by omega) (by omega), ll_q, show (((op + 1 : Nat) : Int) - 1) = (op : Int) by omega, e2, b1_q]
    · subst z
      rcases p2 with ⟨y, y1, hi⟩ | ⟨y, y1⟩
      · subst y
        by_cases e8 : op = 8
        · exact refuse (.inr rfl) e8
        · obtain ⟨σ1, τ1, g1, g2, g3, g4, g5, g6, g7, g8, g9⟩ := (PX24 (v := (op : Int) + 1) h).nxt hi
          have ho : Mo_opens τ = some (1, τ1) := by
            unfold Mo_opens
            rw [h24, if_neg (by omega), wr_q (by omega) (by omega), ll_q, g2, b1_q]
          have C1 : CX a st (i + 1) pd σ1 τ1 := ((CX24 (v := (op : Int) + 1) hC).mv (i' := i + 1) (pd' := pd) (by omega)).ag (Nat.le_refl _) (by rw [g6]) g7 g8 g9
          have tC : (b1 (Re_isSign 40 σ) fun r3 => if r3 = 0 then some 0 else some 1) = some (1 : Int) := by rw [p1, b1_q, if_neg (by decide)]
          rcases anQ (a := a) (sgQ f (op + 1) (by omega) (by omega)) (pd := pd) (st := st) (by omega) (T - (i + 1)) (i + 1) 0 0 σ1 τ1 rfl g3 (by omega) (by rw [g5, su_s, up_a]; omega) (.inl ⟨rfl, C1⟩) with ⟨σ2, τ2, v1, v2, v3, v4⟩ | ⟨σ2, τ2, i2, v1, v2, v3, v4, v5, v6, v7⟩
          · refine ⟨0, σ2, τ2, ?_, ?_, (FS24.trans g4).trans v3, .inl ⟨rfl, v4⟩⟩
            · unfold Re_parseSingle Re_parseCondition
              rw [r1', b1_q, if_pos (show (0 : Int) = 0 from rfl), tC, b1_q, if_neg (show ¬ (1 : Int) = 0 by decide), if_pos (by omega), g1, b1_q, if_pos (show (0 : Int) = 0 from rfl), wr_q (n := (op : Int) + 1) (by omega) (by omega), show Re_parseCondition_7_w (Re_parseSingle f) ((op : Int) + 1) 0 0 0 σ1 = _ from v1, b2_q, if_pos rfl]
            · unfold Mo_oneTest
              rw [if_neg z1, if_pos (by omega), ho, b2_q, if_neg (by decide), an_AN, v2, b2_q, if_pos rfl]
          · obtain ⟨r, σ3, τ3, k1, k2, k3, k4⟩ := v4.tak (x := 41) (by unfold isG; omega)
            have k2' : Mo_need 141 τ2 = some (r, τ3) := k2
            rcases k4 with ⟨r0, k4⟩ | ⟨r0, hi2, k4, k5, k6, k7, k8, k9⟩
            · subst r0
              refine ⟨0, σ3, τ3, ?_, ?_, ((FS24.trans g4).trans v3).trans k3, .inl ⟨rfl, k4⟩⟩
              · unfold Re_parseSingle Re_parseCondition
                rw [r1', b1_q, if_pos (show (0 : Int) = 0 from rfl), tC, b1_q, if_neg (show ¬ (1 : Int) = 0 by decide), if_pos (by omega), g1, b1_q, if_pos (show (0 : Int) = 0 from rfl), wr_q (n := (op : Int) + 1) (by omega) (by omega), show Re_parseCondition_7_w (Re_parseSingle f) ((op : Int) + 1) 0 0 0 σ1 = _ from v1, b2_q, if_neg (by decide), k1, b2_q, if_pos rfl]
              · unfold Mo_oneTest
                rw [if_neg z1, if_pos (by omega), ho, b2_q, if_neg (by decide), an_AN, v2, b2_q, if_neg (by decide), k2', b2_q, if_pos rfl]
            · subst r0
              have C3 : CX a (true :: st) (i2 + 1) pd σ3 (su τ3 172 24 (op : Int)) := CX24 ((v5.mv (i' := i2 + 1) (pd' := pd) (by omega)).ag (Nat.le_refl _) (by rw [k6]) k7 k8 k9)
              refine ⟨1, σ3, su τ3 172 24 (op : Int), ?_, ?_, (((FS24.trans g4).trans v3).trans k3).trans FS24, .inr ⟨rfl, i2 + 1, by omega, PX24 k4, C3, by rw [su_s, up_a]⟩⟩
              · unfold Re_parseSingle Re_parseCondition
                rw [r1', b1_q, if_pos (show (0 : Int) = 0 from rfl), tC, b1_q, if_neg (show ¬ (1 : Int) = 0 by decide), if_pos (by omega), g1, b1_q, if_pos (show (0 : Int) = 0 from rfl), wr_q (n := (op : Int) + 1) (by omega) (by omega), show Re_parseCondition_7_w (Re_parseSingle f) ((op : Int) + 1) 0 0 0 σ1 = _ from v1, b2_q, if_neg (by decide), k1, b2_q, if_neg (by decide)]
              · unfold Mo_oneTest
                rw [if_neg z1, if_pos (by omega), ho, b2_q, if_neg (by decide), an_AN, v2, b2_q, if_neg (by decide), k2', b2_q, if_neg (by decide), k5, v7, wr_q (by omega) (by omega), ll_q, show (((op + 1 : Nat) : Int) - 1) = (op : Int) by omega]
      · subst y
        have tC : (b1 (Re_isSign 40 σ) fun r3 => if r3 = 0 then some 0 else some 1) = some (0 : Int) := by rw [p1, b1_q, if_pos rfl]
        have hC0 : ∀ X, Re_parseSingle (f + 1) (op : Int) σ = X ↔ (b2 (Re_parseSum σ) fun r20 σ21 => if r20 = 0 then some (0, σ21) else b1 (Re_comparisonHere σ21) fun r23 => if r23 = (-1) then b2 (Re_refuse 1 σ21) fun r25 σ26 => some (r25, σ26) else b1 (Re_advance σ21) fun σ27 => b2 (Re_parseSum σ27) fun r28 σ29 => if r28 = 0 then some (0, σ29) else b1 (Sh_emit 142 r23 σ29) fun σ31 => some (1, σ31)) = X := fun X => by
          unfold Re_parseSingle
          rw [r1', b1_q, if_pos (show (0 : Int) = 0 from rfl), tC, b1_q, if_pos (show (0 : Int) = 0 from rfl)]
        have hM0 : ∀ X, Mo_oneTest (f + 1) τ = X ↔ (b2 (Mo_sumUp τ) fun r21 σ22 => if r21 = 0 then some (0, σ22) else b1 (if (σ22 172 18) = 160 then some 27 else if (σ22 172 18) = 161 then some 28 else if (σ22 172 18) = 162 then some 29 else some (-1)) fun (t25 : Int) => if t25 = (-1) then b2 (Mo_bad 1 σ22) fun r29 σ30 => some (r29, σ30) else b1 (Mo_next0 σ22) fun σ31 => b2 (Mo_sumUp σ31) fun r32 σ33 => if r32 = 0 then some (0, σ33) else b1 (Mo_lay t25 0 σ33) fun σ35 => some (1, σ35)) = X := fun X => by
          unfold Mo_oneTest
          rw [if_neg z1, if_neg (by omega)]
        obtain ⟨r, σ1, τ1, o1, o2, o3, o4⟩ := smQ (a := a) (pd := pd) (st := st) (by omega) h hC
        rcases o4 with ⟨r0, o4⟩ | ⟨r0, i1, o4, o5, o6, o7⟩
        · subst r0
          exact ⟨0, σ1, τ1, (hC0 _).mpr (by rw [o1, b2_q, if_pos rfl]), (hM0 _).mpr (by rw [o2, b2_q, if_pos rfl]), o3, .inl ⟨rfl, o4⟩⟩
        · subst r0
          have b41 := o5.i4
          obtain ⟨a7, a71, a72⟩ := o5.sgn (x := 60) (by unfold isG; omega)
          obtain ⟨a8, a81, a82⟩ := o5.sgn (x := 61) (by unfold isG; omega)
          obtain ⟨a9, a91, a92⟩ := o5.sgn (x := 62) (by unfold isG; omega)
          have fin : ∀ (x kk : Int), x + 20 = kk → (7 ≤ x ∧ x ≤ 9) → i1 < T → Re_comparisonHere σ1 = some x → (if (τ1 172 18) = 160 then some (27 : Int) else if (τ1 172 18) = 161 then some 28 else if (τ1 172 18) = 162 then some 29 else some (-1)) = some kk → ∃ r σ' τ', Re_parseSingle (f + 1) (op : Int) σ = some (r, σ') ∧ Mo_oneTest (f + 1) τ = some (r, τ') ∧ FS σ σ' τ τ' ∧ ((r = 0 ∧ FAIL σ' τ') ∨ (r = 1 ∧ ∃ i', i < i' ∧ PX c n 0 T q i' σ' τ' ∧ CX a (true :: st) i' pd σ' τ' ∧ τ' 172 24 = op)) := fun x kk hxk hx hi1 hc1 hm1 => by
            obtain ⟨σ2, τ2, g1, g2, g3, g4, g5, g6, g7, g8, g9⟩ := o5.nxt hi1
            have C2 : CX a (false :: st) (i1 + 1) (pd + 1) σ2 τ2 := (o6.mv (i' := i1 + 1) (pd' := pd + 1) (by omega)).ag (Nat.le_refl _) (by rw [g6]) g7 g8 g9
            obtain ⟨r, σ3, τ3, k1, k2, k3, k4⟩ := smQ (a := a) (pd := pd + 1) (st := false :: st) (by rw [List.length_cons]; omega) g3 C2
            rcases k4 with ⟨r0, k4⟩ | ⟨r0, i3, k4, k5, k6, k7⟩
            · subst r0
              exact ⟨0, σ3, τ3, (hC0 _).mpr (by rw [o1, b2_q, if_neg (by decide), hc1, b1_q, if_neg (by omega), g1, b1_q, k1, b2_q, if_pos rfl]), (hM0 _).mpr (by rw [o2, b2_q, if_neg (by decide), hm1, b1_q, if_neg (by omega), g2, b1_q, k2, b2_q, if_pos rfl]), (o3.trans g4).trans k3, .inl ⟨rfl, k4⟩⟩
            · subst r0
              obtain ⟨σ4, τ4, e1, e2, e3, e4, e5, e6⟩ := k6.em (pd' := pd) (by have := k5.i4; omega) k5 (.inl rfl) (x := x) (kk := kk) (v := 0) (st' := true :: st) (.inr (.inr (.inr (.inr (.inr (.inl ⟨by omega, by omega, by omega⟩)))))) (by
                unfold tyS
                rw [if_neg (by omega), if_neg (by omega), if_neg (by omega), if_neg (by omega), if_pos (by omega)])
              exact ⟨1, σ4, τ4, (hC0 _).mpr (by rw [o1, b2_q, if_neg (by decide), hc1, b1_q, if_neg (by omega), g1, b1_q, k1, b2_q, if_neg (by decide), e1, b1_q]), (hM0 _).mpr (by rw [o2, b2_q, if_neg (by decide), hm1, b1_q, if_neg (by omega), g2, b1_q, k2, b2_q, if_neg (by decide), e2, b1_q]), ((o3.trans g4).trans k3).trans e4, .inr ⟨rfl, i3, by omega, e5, e3 i3 (by omega), by rw [e6, k7, g5, o7]; exact h24⟩⟩
          rcases a72 with ⟨y, yt, yi⟩ | ⟨y, yt⟩
          · subst y
            exact fin 7 27 rfl (by decide) yi (by unfold Re_comparisonHere; rw [a71, b1_q, if_neg (by decide)]) (by rw [yt]; rfl)
          · subst y
            rcases a82 with ⟨y, yt', yi⟩ | ⟨y, yt'⟩
            · subst y
              exact fin 8 28 rfl (by decide) yi (by unfold Re_comparisonHere; rw [a71, b1_q, if_pos rfl, a81, b1_q, if_neg (by decide)]) (by rw [yt']; rfl)
            · subst y
              rcases a92 with ⟨y, yt'', yi⟩ | ⟨y, yt''⟩
              · subst y
                exact fin 9 29 rfl (by decide) yi (by unfold Re_comparisonHere; rw [a71, b1_q, if_pos rfl, a81, b1_q, if_pos rfl, a91, b1_q, if_neg (by decide)]) (by rw [yt'']; rfl)
              · subst y
                obtain ⟨σ', τ', f1, f2, f3, f4⟩ := o5.refS 1
                refine ⟨0, σ', τ', (hC0 _).mpr ?_, (hM0 _).mpr ?_, o3.trans f3, .inl ⟨rfl, f4⟩⟩
                · rw [o1, b2_q, if_neg (by decide)]
                  unfold Re_comparisonHere
                  rw [a71, b1_q, if_pos rfl, a81, b1_q, if_pos rfl, a91, b1_q, if_pos rfl, b1_q, if_pos rfl, f1, b2_q]
                · rw [o2, b2_q, if_neg (by decide), if_neg (by omega), if_neg (by omega), if_neg (by omega), b1_q, if_pos rfl, f2, b2_q]
end Single
