/-! text: the law's conditions -/
section Cond
variable {c : Nat → Int} {n T : Nat} {q : Nat → Nat} {a : Nat}
noncomputable def EV (rc : Sg → Option (Int × Sg)) (an : Int) (τ : Sg) : Option (Int × Sg) := b2 (rc τ) fun r τ1 => if r = 0 then some (0, τ1) else (if an = 0 then Mo_every_9_w rc τ1 else b1 (Mo_lay 31 0 τ1) fun τ2 => Mo_every_9_w rc τ2)
noncomputable def CTb (o cnt : Int) (σ12 : Sg) : Option ((Int × Int × Int × Sg) ⊕ (Int × Sg)) := b2 (b1 (if o = 0 then some σ12 else b1 (Sh_emit 142 11 σ12) fun σ20 => some σ20) fun (σ19 : Sg) => b1 (Re_isWord 6 σ19) fun r21 => some (r21, σ19)) fun (v3_16 : Int) (σ17 : Sg) => b1 (if v3_16 = 0 then some 0 else some 1) fun (t26 : Int) => if t26 = 0 then some (.inr (1, σ17)) else b1 (Re_advance σ17) fun σ24 => ll (wr (cnt + 1)) fun v4_25 => some (.inl (0, v3_16, v4_25, σ24))
noncomputable def CNK (rc : Int → Sg → Option (Int × Sg)) (op : Int) : Int × Int × Int × Sg → Option (Int × Sg) := fun p => Re_parseCondition_7_w rc op p.1 p.2.1 p.2.2.1 p.2.2.2
noncomputable def AN (rc : Sg → Option (Int × Sg)) (o : Int) (τ : Sg) : Option (Int × Sg) := b2 (Mo_every rc τ) fun r τ1 => if r = 0 then some (0, τ1) else (if o = 0 then Mo_any_9_w rc τ1 else b1 (Mo_lay 32 0 τ1) fun τ2 => Mo_any_9_w rc τ2)
theorem ev_EV {rc : Sg → Option (Int × Sg)} {τ : Sg} : Mo_every rc τ = EV rc 0 τ := by
  unfold Mo_every EV
  cases rc τ with
  | none => rfl
  | some p =>
    obtain ⟨r, τ2⟩ := p
    rw [b2_q, b2_q]
    by_cases z : r = 0
    · rw [if_pos z, if_pos z]
    · rw [if_neg z, if_neg z, if_pos (show (0 : Int) = 0 from rfl)]
theorem an_AN {rc : Sg → Option (Int × Sg)} {τ : Sg} : Mo_any rc τ = AN rc 0 τ := by
  unfold Mo_any AN
  cases Mo_every rc τ with
  | none => rfl
  | some p =>
    obtain ⟨r, τ2⟩ := p
    rw [b2_q, b2_q]
    by_cases z : r = 0
    · rw [if_pos z, if_pos z]
    · rw [if_neg z, if_neg z, if_pos (show (0 : Int) = 0 from rfl)]
theorem and_go {rc : Sg → Option (Int × Sg)} {τ τ1 : Sg} (h : τ 172 18 = 5) (hn : Mo_next0 τ = some τ1) : Mo_every_9_w rc τ = EV rc 1 τ1 := by
  show wl _ _ = _
  rw [wl_eq]
  show (Mo_every_9_b rc τ).bind (wlK (Mo_every_9_w rc)) = _
  unfold Mo_every_9_b EV
  rw [if_pos h, hn, b1_q]
  cases rc τ1 with
  | none => rfl
  | some p =>
    obtain ⟨r, τ2⟩ := p
    rw [b2_q, b2_q]
    by_cases z : r = 0
    · rw [if_pos z, if_pos z]; rfl
    · rw [if_neg z, if_neg z, if_neg (show ¬ (1 : Int) = 0 by decide)]
      cases Mo_lay 31 0 τ2 <;> rfl
theorem and_end {rc : Sg → Option (Int × Sg)} {τ : Sg} (h : τ 172 18 ≠ 5) : Mo_every_9_w rc τ = some (1, τ) := by
  refine wl_end ?_
  show Mo_every_9_b rc τ = _
  unfold Mo_every_9_b
  rw [if_neg h]
theorem or_go {rc : Sg → Option (Int × Sg)} {τ τ1 : Sg} (h : τ 172 18 = 4) (hn : Mo_next0 τ = some τ1) : Mo_any_9_w rc τ = AN rc 1 τ1 := by
  show wl _ _ = _
  rw [wl_eq]
  show (Mo_any_9_b rc τ).bind (wlK (Mo_any_9_w rc)) = _
  unfold Mo_any_9_b AN
  rw [if_pos h, hn, b1_q]
  cases Mo_every rc τ1 with
  | none => rfl
  | some p =>
    obtain ⟨r, τ2⟩ := p
    rw [b2_q, b2_q]
    by_cases z : r = 0
    · rw [if_pos z, if_pos z]; rfl
    · rw [if_neg z, if_neg z, if_neg (show ¬ (1 : Int) = 0 by decide)]
      cases Mo_lay 32 0 τ2 <;> rfl
theorem or_end {rc : Sg → Option (Int × Sg)} {τ : Sg} (h : τ 172 18 ≠ 4) : Mo_any_9_w rc τ = some (1, τ) := by
  refine wl_end ?_
  show Mo_any_9_b rc τ = _
  unfold Mo_any_9_b
  rw [if_neg h]
/-- what a reader of one test gives, on both sides -/
def SGL (c : Nat → Int) (n T : Nat) (q : Nat → Nat) (a op : Nat) (C : Int → Sg → Option (Int × Sg)) (M : Sg → Option (Int × Sg)) : Prop :=
  ∀ (i pd : Nat) (st : List Bool) (σ τ : Sg), PX c n 0 T q i σ τ → CX a st i pd σ τ → τ 172 24 = op → st.length ≤ 2 * op + 2 → ∃ r σ' τ', C (op : Int) σ = some (r, σ') ∧ M τ = some (r, τ') ∧ FS σ σ' τ τ' ∧ ((r = 0 ∧ FAIL σ' τ') ∨ (r = 1 ∧ ∃ i', i < i' ∧ PX c n 0 T q i' σ' τ' ∧ CX a (true :: st) i' pd σ' τ' ∧ τ' 172 24 = op))
theorem evQ {op : Nat} {C : Int → Sg → Option (Int × Sg)} {M : Sg → Option (Int × Sg)} (hS : SGL c n T q a op C M) {o : Int} {pd : Nat} {st : List Bool} (hl : st.length ≤ 2 * op + 1) : ∀ (d i : Nat) (an : Int) (cnt : Nat) (σ τ : Sg), T - i = d → PX c n 0 T q i σ τ → cnt ≤ i → τ 172 24 = op → ((an = 0 ∧ CX a st i pd σ τ) ∨ (an = 1 ∧ CX a (true :: st) i (pd + 1) σ τ)) →
    (∃ σ' τ', Re_parseCondition_7_w C (op : Int) an o (cnt : Int) σ = some (0, σ') ∧ EV M an τ = some (0, τ') ∧ FS σ σ' τ τ' ∧ FAIL σ' τ') ∨
    (∃ σ' τ' i' cnt', Re_parseCondition_7_w C (op : Int) an o (cnt : Int) σ = (CTb o ((cnt' : Nat) : Int) σ').bind (wlK (CNK C op)) ∧ EV M an τ = some (1, τ') ∧ FS σ σ' τ τ' ∧ PX c n 0 T q i' σ' τ' ∧ CX a (true :: st) i' pd σ' τ' ∧ i < i' ∧ cnt' ≤ i' ∧ τ' 172 24 = op) := by
  intro d
  induction d using Nat.strongRecOn with
  | ind d ih =>
    intro i an cnt σ τ hd h hcnt h24 hC
    have b4 := h.i4
    have unr : ∀ X, Re_parseCondition_7_w C (op : Int) an o (cnt : Int) σ = X ↔ (Re_parseCondition_7_b C (op : Int) an o (cnt : Int) σ).bind (wlK (CNK C op)) = X := fun X => by
      show wl _ _ = X ↔ _
      rw [wl_eq]
      rfl
    have first : (∃ σ' τ', C (op : Int) σ = some (0, σ') ∧ EV M an τ = some (0, τ') ∧ FS σ σ' τ τ' ∧ FAIL σ' τ') ∨ (∃ σ1 σ2 τ2 i2, C (op : Int) σ = some (1, σ1) ∧ (if an = 0 then some σ1 else b1 (Sh_emit 142 10 σ1) fun σ13 => some σ13) = some σ2 ∧ EV M an τ = Mo_every_9_w M τ2 ∧ FS σ σ2 τ τ2 ∧ PX c n 0 T q i2 σ2 τ2 ∧ CX a (true :: st) i2 pd σ2 τ2 ∧ i < i2 ∧ τ2 172 24 = op) := by
      rcases hC with ⟨t0, hC⟩ | ⟨t0, hC⟩
      · obtain ⟨r, σ1, τ1, o1, o2, o3, o4⟩ := hS i pd st σ τ h hC h24 (by omega)
        rcases o4 with ⟨r0, o4⟩ | ⟨r0, i2, o4, o5, o6, o7⟩
        · subst r0
          left
          refine ⟨σ1, τ1, o1, ?_, o3, o4⟩
          unfold EV
          rw [o2, b2_q, if_pos rfl]
        · subst r0
          right
          refine ⟨σ1, σ1, τ1, i2, o1, by rw [if_pos t0], ?_, o3, o5, o6, o4, o7⟩
          unfold EV
          rw [o2, b2_q, if_neg (by decide), if_pos t0]
      · obtain ⟨r, σ1, τ1, o1, o2, o3, o4⟩ := hS i (pd + 1) (true :: st) σ τ h hC h24 (by rw [List.length_cons]; omega)
        rcases o4 with ⟨r0, o4⟩ | ⟨r0, i2, o4, o5, o6, o7⟩
        · subst r0
          left
          refine ⟨σ1, τ1, o1, ?_, o3, o4⟩
          unfold EV
          rw [o2, b2_q, if_pos rfl]
        · subst r0
          right
          obtain ⟨σ2, τ2, e1, e2, e3, e4, e5, e6⟩ := o6.em (pd' := pd) (by have := o5.i4; omega) o5 (.inl rfl) (x := 10) (kk := 31) (v := 0) (st' := true :: st) (.inr (.inr (.inr (.inr (.inr (.inr ⟨by decide, by decide, by decide⟩)))))) (by
            unfold tyS
            rw [if_neg (by decide), if_neg (by decide), if_neg (by decide), if_neg (by decide), if_neg (by decide), if_pos (by decide)])
          have t1 : ¬ an = 0 := by omega
          refine ⟨σ1, σ2, τ2, i2, o1, by rw [if_neg t1, e1, b1_q], ?_, o3.trans e4, e5, e3 i2 (by omega), o4, by rw [e6, o7]⟩
          unfold EV
          rw [o2, b2_q, if_neg (by decide), if_neg t1, e2, b1_q]
    rcases first with ⟨σ', τ', f1, f2, f3, f4⟩ | ⟨σ1, σ2, τ2, i2, f1, f2, f3, f4, f5, f6, f7, f8⟩
    · left
      refine ⟨σ', τ', (unr _).mpr ?_, f2, f3, f4⟩
      unfold Re_parseCondition_7_b
      rw [if_neg (by omega), f1, b2_q, if_pos rfl]
      rfl
    · have b42 := f5.i4
      obtain ⟨r, r1, r2⟩ := f5.wrd (w := 7) (by decide)
      have r1' : Re_isWord 7 σ2 = some r := r1
      have t7 : (tkT 0).getD 7 1 = 5 := by decide
      rw [t7] at r2
      rcases r2 with ⟨r0, rt, -, -, hi2⟩ | ⟨r0, rt, -⟩
      · subst r0
        obtain ⟨σ4, τ4, g1, g2, g3, g4, g5, g6, g7, g8, g9⟩ := f5.nxt hi2
        have C4 : CX a (true :: st) (i2 + 1) (pd + 1) σ4 τ4 := (f6.mv (i' := i2 + 1) (pd' := pd + 1) (by omega)).ag (Nat.le_refl _) (by rw [g6]) g7 g8 g9
        have hcls : Re_parseCondition_7_w C (op : Int) an o (cnt : Int) σ = Re_parseCondition_7_w C (op : Int) 1 o ((cnt + 1 : Nat) : Int) σ4 := (unr _).mpr (by
          unfold Re_parseCondition_7_b
          rw [if_neg (by omega), f1, b2_q, if_neg (by decide), f2, b1_q, r1', b1_q, if_neg (by decide), b2_q, if_neg (by decide), b1_q, if_neg (by decide), g1, b1_q, wr_q (by omega) (by omega), ll_q]
          rfl)
        have href : EV M an τ = EV M 1 τ4 := f3.trans (and_go rt g2)
        have F4 := f4.trans g4
        rcases ih (T - (i2 + 1)) (by omega) (i2 + 1) 1 (cnt + 1) σ4 τ4 rfl g3 (by omega) (by rw [g5, f8]) (.inr ⟨rfl, C4⟩) with ⟨σ', τ', v1, v2, v3, v4⟩ | ⟨σ', τ', i', cnt', v1, v2, v3, v4, v5, v6, v7, v8⟩
        · exact .inl ⟨σ', τ', hcls.trans v1, href.trans v2, F4.trans v3, v4⟩
        · exact .inr ⟨σ', τ', i', cnt', hcls.trans v1, href.trans v2, F4.trans v3, v4, v5, by omega, v7, v8⟩
      · subst r0
        right
        refine ⟨σ2, τ2, i2, cnt, (unr _).mpr ?_, f3.trans (and_end rt), f4, f5, f6, f7, by omega, f8⟩
        unfold Re_parseCondition_7_b CTb
        rw [if_neg (by omega), f1, b2_q, if_neg (by decide), f2, b1_q, r1', b1_q, if_pos rfl]
        rfl
theorem anQ {op : Nat} {C : Int → Sg → Option (Int × Sg)} {M : Sg → Option (Int × Sg)} (hS : SGL c n T q a op C M) {pd : Nat} {st : List Bool} (hl : st.length ≤ 2 * op) : ∀ (d i : Nat) (o : Int) (cnt : Nat) (σ τ : Sg), T - i = d → PX c n 0 T q i σ τ → cnt ≤ i → τ 172 24 = op → ((o = 0 ∧ CX a st i pd σ τ) ∨ (o = 1 ∧ CX a (true :: st) i (pd + 1) σ τ)) →
    (∃ σ' τ', Re_parseCondition_7_w C (op : Int) 0 o (cnt : Int) σ = some (0, σ') ∧ AN M o τ = some (0, τ') ∧ FS σ σ' τ τ' ∧ FAIL σ' τ') ∨
    (∃ σ' τ' i', Re_parseCondition_7_w C (op : Int) 0 o (cnt : Int) σ = some (1, σ') ∧ AN M o τ = some (1, τ') ∧ FS σ σ' τ τ' ∧ PX c n 0 T q i' σ' τ' ∧ CX a (true :: st) i' pd σ' τ' ∧ i < i' ∧ τ' 172 24 = op) := by
  intro d
  induction d using Nat.strongRecOn with
  | ind d ih =>
    intro i o cnt σ τ hd h hcnt h24 hC
    have b4 := h.i4
    have first : (∃ σ' τ', Re_parseCondition_7_w C (op : Int) 0 o (cnt : Int) σ = some (0, σ') ∧ AN M o τ = some (0, τ') ∧ FS σ σ' τ τ' ∧ FAIL σ' τ') ∨ (∃ σ1 σ2 τ2 i2 cnt2, Re_parseCondition_7_w C (op : Int) 0 o (cnt : Int) σ = (CTb o ((cnt2 : Nat) : Int) σ1).bind (wlK (CNK C op)) ∧ (if o = 0 then some σ1 else b1 (Sh_emit 142 11 σ1) fun σ20 => some σ20) = some σ2 ∧ AN M o τ = Mo_any_9_w M τ2 ∧ FS σ σ2 τ τ2 ∧ PX c n 0 T q i2 σ2 τ2 ∧ CX a (true :: st) i2 pd σ2 τ2 ∧ i < i2 ∧ cnt2 ≤ i2 ∧ τ2 172 24 = op) := by
      rcases hC with ⟨t0, hC⟩ | ⟨t0, hC⟩
      · rcases evQ hS (o := o) (pd := pd) (st := st) (by omega) (T - i) i 0 cnt σ τ rfl h hcnt h24 (.inl ⟨rfl, hC⟩) with ⟨σ', τ', v1, v2, v3, v4⟩ | ⟨σ1, τ1, i1, cnt1, v1, v2, v3, v4, v5, v6, v7, v8⟩
        · left
          refine ⟨σ', τ', v1, ?_, v3, v4⟩
          unfold AN
          rw [ev_EV, v2, b2_q, if_pos rfl]
        · right
          refine ⟨σ1, σ1, τ1, i1, cnt1, v1, by rw [if_pos t0], ?_, v3, v4, v5, v6, v7, v8⟩
          unfold AN
          rw [ev_EV, v2, b2_q, if_neg (by decide), if_pos t0]
      · have t1 : ¬ o = 0 := by omega
        rcases evQ hS (o := o) (pd := pd + 1) (st := true :: st) (by rw [List.length_cons]; omega) (T - i) i 0 cnt σ τ rfl h hcnt h24 (.inl ⟨rfl, hC⟩) with ⟨σ', τ', v1, v2, v3, v4⟩ | ⟨σ1, τ1, i1, cnt1, v1, v2, v3, v4, v5, v6, v7, v8⟩
        · left
          refine ⟨σ', τ', v1, ?_, v3, v4⟩
          unfold AN
          rw [ev_EV, v2, b2_q, if_pos rfl]
        · right
          obtain ⟨σ2, τ2, e1, e2, e3, e4, e5, e6⟩ := v5.em (pd' := pd) (by have := v4.i4; omega) v4 (.inl rfl) (x := 11) (kk := 32) (v := 0) (st' := true :: st) (.inr (.inr (.inr (.inr (.inr (.inr ⟨by decide, by decide, by decide⟩)))))) (by
            unfold tyS
            rw [if_neg (by decide), if_neg (by decide), if_neg (by decide), if_neg (by decide), if_neg (by decide), if_pos (by decide)])
          refine ⟨σ1, σ2, τ2, i1, cnt1, v1, by rw [if_neg t1, e1, b1_q], ?_, v3.trans e4, e5, e3 i1 (by omega), v6, v7, by rw [e6, v8]⟩
          unfold AN
          rw [ev_EV, v2, b2_q, if_neg (by decide), if_neg t1, e2, b1_q]
    rcases first with f | ⟨σ1, σ2, τ2, i2, cnt2, f1, f2, f3, f4, f5, f6, f7, f8, f9⟩
    · exact .inl f
    · have b42 := f5.i4
      obtain ⟨r, r1, r2⟩ := f5.wrd (w := 6) (by decide)
      have r1' : Re_isWord 6 σ2 = some r := r1
      have t6 : (tkT 0).getD 6 1 = 4 := by decide
      rw [t6] at r2
      rcases r2 with ⟨r0, rt, -, -, hi2⟩ | ⟨r0, rt, -⟩
      · subst r0
        obtain ⟨σ4, τ4, g1, g2, g3, g4, g5, g6, g7, g8, g9⟩ := f5.nxt hi2
        have C4 : CX a (true :: st) (i2 + 1) (pd + 1) σ4 τ4 := (f6.mv (i' := i2 + 1) (pd' := pd + 1) (by omega)).ag (Nat.le_refl _) (by rw [g6]) g7 g8 g9
        have hcls : Re_parseCondition_7_w C (op : Int) 0 o (cnt : Int) σ = Re_parseCondition_7_w C (op : Int) 0 1 ((cnt2 + 1 : Nat) : Int) σ4 := by
          rw [f1]
          unfold CTb
          rw [f2, b1_q, r1', b1_q, b2_q, if_neg (by decide), b1_q, if_neg (by decide), g1, b1_q, wr_q (by omega) (by omega), ll_q]
          rfl
        have href : AN M o τ = AN M 1 τ4 := f3.trans (or_go rt g2)
        have F4 := f4.trans g4
        rcases ih (T - (i2 + 1)) (by omega) (i2 + 1) 1 (cnt2 + 1) σ4 τ4 rfl g3 (by omega) (by rw [g5, f9]) (.inr ⟨rfl, C4⟩) with ⟨σ', τ', v1, v2, v3, v4⟩ | ⟨σ', τ', i', v1, v2, v3, v4, v5, v6, v7⟩
        · exact .inl ⟨σ', τ', hcls.trans v1, href.trans v2, F4.trans v3, v4⟩
        · exact .inr ⟨σ', τ', i', hcls.trans v1, href.trans v2, F4.trans v3, v4, v5, by omega, v7⟩
      · subst r0
        right
        refine ⟨σ2, τ2, i2, ?_, f3.trans (or_end rt), f4, f5, f6, f7, f9⟩
        rw [f1]
        unfold CTb
        rw [f2, b1_q, r1', b1_q, b2_q, if_pos rfl, b1_q, if_pos rfl]
        rfl
end Cond
