/-! text: a product, a sum, on both sides -/
section Sum3
variable {c : Nat → Int} {n T : Nat} {q : Nat → Nat} {a : Nat}
noncomputable def SUMK : Int × Int × Int × Sg → Option (Int × Sg) := fun p => Re_parseSum_6_w p.1 p.2.1 p.2.2.1 p.2.2.2
theorem prQ {w : Int} {pd : Nat} {st : List Bool} (hl : st.length + 1 < 60) : ∀ (d i : Nat) (tm : Int) (cnt : Nat) (σ τ : Sg), T - i = d → PX c n 0 T q i σ τ → cnt ≤ i → ((tm = 0 ∧ CX a st i pd σ τ) ∨ (tm = 1 ∧ CX a (false :: st) i (pd + 1) σ τ)) →
    (∃ σ' τ', Re_parseSum_6_w w tm (cnt : Int) σ = some (0, σ') ∧ UR tm τ = some (0, τ') ∧ FS σ σ' τ τ' ∧ FAIL σ' τ') ∨
    (∃ σ' τ' i' cnt', Re_parseSum_6_w w tm (cnt : Int) σ = (PTb w ((cnt' : Nat) : Int) σ').bind (wlK SUMK) ∧ UR tm τ = some (1, τ') ∧ FS σ σ' τ τ' ∧ PX c n 0 T q i' σ' τ' ∧ CX a (false :: st) i' pd σ' τ' ∧ i < i' ∧ cnt' ≤ i' ∧ τ' 172 24 = τ 172 24) := by
  intro d
  induction d using Nat.strongRecOn with
  | ind d ih =>
    intro i tm cnt σ τ hd h hcnt hC
    have b4 := h.i4
    have unr : ∀ X, Re_parseSum_6_w w tm (cnt : Int) σ = X ↔ (Re_parseSum_6_b w tm (cnt : Int) σ).bind (wlK SUMK) = X := fun X => by
      show wl _ _ = X ↔ _
      rw [wl_eq]
      rfl
    -- the operand, and the sign ahead of it
    have first : (∃ σ' τ', Re_takeOperand σ = some (0, σ') ∧ UR tm τ = some (0, τ') ∧ FS σ σ' τ τ' ∧ FAIL σ' τ') ∨ (∃ σ1 σ2 τ2, Re_takeOperand σ = some (1, σ1) ∧ (if tm = 0 then some σ1 else b1 (Sh_emit 142 6 σ1) fun σ13 => some σ13) = some σ2 ∧ UR tm τ = Mo_product_9_w τ2 ∧ FS σ σ2 τ τ2 ∧ PX c n 0 T q (i + 1) σ2 τ2 ∧ CX a (false :: st) (i + 1) pd σ2 τ2 ∧ i < T ∧ τ2 172 24 = τ 172 24) := by
      rcases hC with ⟨t0, hC⟩ | ⟨t0, hC⟩
      · obtain ⟨r, σ1, τ1, o1, o2, o3, o4⟩ := opQ h hC (by omega)
        rcases o4 with ⟨r0, o4⟩ | ⟨r0, o4, o5, o6, o7⟩
        · subst r0
          left
          refine ⟨σ1, τ1, o1, ?_, o3, o4⟩
          unfold UR
          rw [o2, b2_q, if_pos rfl]
        · subst r0
          right
          refine ⟨σ1, σ1, τ1, o1, by rw [if_pos t0], ?_, o3, o5, o6, o4, o7⟩
          unfold UR
          rw [o2, b2_q, if_neg (by decide), if_pos t0]
      · obtain ⟨r, σ1, τ1, o1, o2, o3, o4⟩ := opQ h hC (by rw [List.length_cons]; omega)
        rcases o4 with ⟨r0, o4⟩ | ⟨r0, o4, o5, o6, o7⟩
        · subst r0
          left
          refine ⟨σ1, τ1, o1, ?_, o3, o4⟩
          unfold UR
          rw [o2, b2_q, if_pos rfl]
        · subst r0
          right
          obtain ⟨σ2, τ2, e1, e2, e3, e4, e5, e6⟩ := o6.em (pd' := pd) (by have := o5.i4; omega) o5 (.inl rfl) (x := 6) (kk := 25) (v := 0) (st' := false :: st) (.inr (.inr (.inr (.inr (.inl ⟨by decide, by decide, by decide⟩))))) (by
            unfold tyS
            rw [if_neg (by decide), if_neg (by decide), if_neg (by decide), if_pos (by decide)])
          have t1 : ¬ tm = 0 := by omega
          refine ⟨σ1, σ2, τ2, o1, by rw [if_neg t1, e1, b1_q], ?_, o3.trans e4, e5, e3 (i + 1) (by omega), o4, by rw [e6, o7]⟩
          unfold UR
          rw [o2, b2_q, if_neg (by decide), if_neg t1, e2, b1_q]
    rcases first with ⟨σ', τ', f1, f2, f3, f4⟩ | ⟨σ1, σ2, τ2, f1, f2, f3, f4, f5, f6, f7, f8⟩
    · left
      refine ⟨σ', τ', (unr _).mpr ?_, f2, f3, f4⟩
      unfold Re_parseSum_6_b
      rw [if_neg (by omega), f1, b2_q, if_pos rfl]
      rfl
    · rcases paQ (c := c) (n := n) (q := q) (T - (i + 1)) (i + 1) 0 σ2 τ2 rfl f5 f6 (by omega) with ⟨σ', τ', w1, w2, w3, w4⟩ | ⟨σ3, τ3, i3, w1, w2, w3, w4, w5, w6, w7, w8⟩
      · left
        refine ⟨σ', τ', (unr _).mpr ?_, f3.trans w2, f4.trans w3, w4⟩
        unfold Re_parseSum_6_b
        rw [if_neg (by omega), f1, b2_q, if_neg (by decide), f2, b1_q]
        unfold Re_takeParts
        rw [show Re_takeParts_2_w 0 σ2 = some (0, σ') from w1, b2_q, if_pos rfl]
        rfl
      · have b43 := w4.i4
        obtain ⟨r, r1, r2⟩ := w4.sgn (x := 42) (by unfold isG; omega)
        rcases r2 with ⟨r0, rt, hi3⟩ | ⟨r0, rt⟩
        · subst r0
          obtain ⟨σ4, τ4, g1, g2, g3, g4, g5, g6, g7, g8, g9⟩ := w4.nxt hi3
          have C4 : CX a (false :: st) (i3 + 1) (pd + 1) σ4 τ4 := (w5.mv (i' := i3 + 1) (pd' := pd + 1) (by omega)).ag (Nat.le_refl _) (by rw [g6]) g7 g8 g9
          have hcls : Re_parseSum_6_w w tm (cnt : Int) σ = Re_parseSum_6_w w 1 ((cnt + 1 : Nat) : Int) σ4 := (unr _).mpr (by
            unfold Re_parseSum_6_b
            rw [if_neg (by omega), f1, b2_q, if_neg (by decide), f2, b1_q]
            unfold Re_takeParts
            rw [show Re_takeParts_2_w 0 σ2 = some (1, σ3) from w1, b2_q, if_neg (by decide), r1, b1_q, if_neg (by decide), b2_q, if_neg (by decide), b1_q, if_neg (by decide), g1, b1_q, wr_q (by omega) (by omega), ll_q]
            rfl)
          have href : UR tm τ = UR 1 τ4 := f3.trans (w2.trans (mul_go (by omega) g2))
          have F4 := (f4.trans w3).trans g4
          rcases ih (T - (i3 + 1)) (by omega) (i3 + 1) 1 (cnt + 1) σ4 τ4 rfl g3 (by omega) (.inr ⟨rfl, C4⟩) with ⟨σ', τ', v1, v2, v3, v4⟩ | ⟨σ', τ', i', cnt', v1, v2, v3, v4, v5, v6, v7, v8⟩
          · exact .inl ⟨σ', τ', hcls.trans v1, href.trans v2, F4.trans v3, v4⟩
          · exact .inr ⟨σ', τ', i', cnt', hcls.trans v1, href.trans v2, F4.trans v3, v4, v5, by omega, v7, by rw [v8, g5, w8, f8]⟩
        · subst r0
          right
          refine ⟨σ3, τ3, i3, cnt, (unr _).mpr ?_, f3.trans (w2.trans (mul_end (by omega) w7)), f4.trans w3, w4, w5, by omega, by omega, by rw [w8, f8]⟩
          unfold Re_parseSum_6_b PTb
          rw [if_neg (by omega), f1, b2_q, if_neg (by decide), f2, b1_q]
          unfold Re_takeParts
          rw [show Re_takeParts_2_w 0 σ2 = some (1, σ3) from w1, b2_q, if_neg (by decide), r1, b1_q, if_pos rfl]
          rfl
/-- a sum: w the sign that waits -/
theorem suQ {pd : Nat} {st : List Bool} (hl : st.length + 2 < 60) : ∀ (d i : Nat) (w : Int) (cnt : Nat) (σ τ : Sg), T - i = d → PX c n 0 T q i σ τ → cnt ≤ i → ((w = -1 ∧ CX a st i pd σ τ) ∨ ((w = 4 ∨ w = 5) ∧ CX a (false :: st) i (pd + 1) σ τ)) →
    (∃ σ' τ', Re_parseSum_6_w w 0 (cnt : Int) σ = some (0, σ') ∧ SRe w τ = some (0, τ') ∧ FS σ σ' τ τ' ∧ FAIL σ' τ') ∨
    (∃ σ' τ' i', Re_parseSum_6_w w 0 (cnt : Int) σ = some (1, σ') ∧ SRe w τ = some (1, τ') ∧ FS σ σ' τ τ' ∧ PX c n 0 T q i' σ' τ' ∧ CX a (false :: st) i' pd σ' τ' ∧ i < i' ∧ τ' 172 24 = τ 172 24) := by
  intro d
  induction d using Nat.strongRecOn with
  | ind d ih =>
    intro i w cnt σ τ hd h hcnt hC
    have b4 := h.i4
    -- the product, and the sign that waits
    have first : (∃ σ' τ', Re_parseSum_6_w w 0 (cnt : Int) σ = some (0, σ') ∧ SRe w τ = some (0, τ') ∧ FS σ σ' τ τ' ∧ FAIL σ' τ') ∨ (∃ σ1 σ2 τ2 i2 cnt2, Re_parseSum_6_w w 0 (cnt : Int) σ = (PTb w ((cnt2 : Nat) : Int) σ1).bind (wlK SUMK) ∧ (if w = -1 then some σ1 else b1 (Sh_emit 142 w σ1) fun σ23 => some σ23) = some σ2 ∧ SRe w τ = Mo_sumUp_9_w τ2 ∧ FS σ σ2 τ τ2 ∧ PX c n 0 T q i2 σ2 τ2 ∧ CX a (false :: st) i2 pd σ2 τ2 ∧ i < i2 ∧ cnt2 ≤ i2 ∧ τ2 172 24 = τ 172 24) := by
      rcases hC with ⟨t0, hC⟩ | ⟨t0, hC⟩
      · rcases prQ (w := w) (pd := pd) (st := st) (by omega) (T - i) i 0 cnt σ τ rfl h hcnt (.inl ⟨rfl, hC⟩) with ⟨σ', τ', v1, v2, v3, v4⟩ | ⟨σ1, τ1, i1, cnt1, v1, v2, v3, v4, v5, v6, v7, v8⟩
        · left
          refine ⟨σ', τ', v1, ?_, v3, v4⟩
          unfold SRe Mo_sumUp
          rw [if_pos t0, pr_UR, v2, b2_q, if_pos rfl]
        · right
          refine ⟨σ1, σ1, τ1, i1, cnt1, v1, by rw [if_pos t0], ?_, v3, v4, v5, v6, v7, v8⟩
          unfold SRe Mo_sumUp
          rw [if_pos t0, pr_UR, v2, b2_q, if_neg (by decide)]
      · have t1 : ¬ w = -1 := by omega
        rcases prQ (w := w) (pd := pd + 1) (st := false :: st) (by rw [List.length_cons]; omega) (T - i) i 0 cnt σ τ rfl h hcnt (.inl ⟨rfl, hC⟩) with ⟨σ', τ', v1, v2, v3, v4⟩ | ⟨σ1, τ1, i1, cnt1, v1, v2, v3, v4, v5, v6, v7, v8⟩
        · left
          refine ⟨σ', τ', v1, ?_, v3, v4⟩
          unfold SRe
          rw [if_neg t1, pr_UR, v2, b2_q, if_pos rfl]
        · right
          obtain ⟨σ2, τ2, e1, e2, e3, e4, e5, e6⟩ := v5.em (pd' := pd) (by have := v4.i4; omega) v4 (.inl rfl) (x := w) (kk := w + 19) (v := 0) (st' := false :: st) (.inr (.inr (.inr (.inr (.inl ⟨by omega, by omega, by omega⟩))))) (by
            unfold tyS
            rw [if_neg (by omega), if_neg (by omega), if_neg (by omega), if_pos (by omega)])
          refine ⟨σ1, σ2, τ2, i1, cnt1, v1, by rw [if_neg t1, e1, b1_q], ?_, v3.trans e4, e5, e3 i1 (by omega), v6, v7, by rw [e6, v8]⟩
          unfold SRe
          rw [if_neg t1, pr_UR, v2, b2_q, if_neg (by decide), e2, b1_q]
    rcases first with f | ⟨σ1, σ2, τ2, i2, cnt2, f1, f2, f3, f4, f5, f6, f7, f8, f9⟩
    · exact .inl f
    · have b42 := f5.i4
      -- a sign behind it
      have more : ∀ w2 : Int, (w2 = 4 ∨ w2 = 5) → τ2 172 18 = 139 + w2 - (if w2 = 4 then 0 else -1) → i2 < T → (b1 (Re_isSign 43 σ2) fun r24 => if r24 = 0 then b1 (Re_isSign 45 σ2) fun r26 => if r26 = 0 then some (((-1) : Int), σ2) else some (5, σ2) else some (4, σ2)) = some (w2, σ2) → (∃ σ' τ', Re_parseSum_6_w w 0 (cnt : Int) σ = some (0, σ') ∧ SRe w τ = some (0, τ') ∧ FS σ σ' τ τ' ∧ FAIL σ' τ') ∨ (∃ σ' τ' i', Re_parseSum_6_w w 0 (cnt : Int) σ = some (1, σ') ∧ SRe w τ = some (1, τ') ∧ FS σ σ' τ τ' ∧ PX c n 0 T q i' σ' τ' ∧ CX a (false :: st) i' pd σ' τ' ∧ i < i' ∧ τ' 172 24 = τ 172 24) := fun w2 hw2 htok hi2 hs => by
        obtain ⟨σ4, τ4, g1, g2, g3, g4, g5, g6, g7, g8, g9⟩ := f5.nxt hi2
        have C4 : CX a (false :: st) (i2 + 1) (pd + 1) σ4 τ4 := (f6.mv (i' := i2 + 1) (pd' := pd + 1) (by omega)).ag (Nat.le_refl _) (by rw [g6]) g7 g8 g9
        have hcls : Re_parseSum_6_w w 0 (cnt : Int) σ = Re_parseSum_6_w w2 0 ((cnt2 + 1 : Nat) : Int) σ4 := by
          rw [f1]
          unfold PTb
          rw [f2, b1_q, hs, b2_q, if_neg (show ¬ w2 = -1 by omega), b1_q, if_neg (by decide), g1, b1_q, wr_q (by omega) (by omega), ll_q]
          rfl
        have href : SRe w τ = SRe w2 τ4 := f3.trans (add_go hw2 htok g2)
        have F4 := f4.trans g4
        rcases ih (T - (i2 + 1)) (by omega) (i2 + 1) w2 (cnt2 + 1) σ4 τ4 rfl g3 (by omega) (.inr ⟨hw2, C4⟩) with ⟨σ', τ', v1, v2, v3, v4⟩ | ⟨σ', τ', i', v1, v2, v3, v4, v5, v6, v7⟩
        · exact .inl ⟨σ', τ', hcls.trans v1, href.trans v2, F4.trans v3, v4⟩
        · exact .inr ⟨σ', τ', i', hcls.trans v1, href.trans v2, F4.trans v3, v4, v5, by omega, by rw [v7, g5, f9]⟩
      obtain ⟨r, r1, r2⟩ := f5.sgn (x := 43) (by unfold isG; omega)
      obtain ⟨r', r1', r2'⟩ := f5.sgn (x := 45) (by unfold isG; omega)
      rcases r2 with ⟨r0, rt, hi2⟩ | ⟨r0, rt⟩
      · subst r0
        exact more 4 (.inl rfl) (by rw [rt]; decide) hi2 (by rw [r1, b1_q, if_neg (by decide)])
      · subst r0
        rcases r2' with ⟨r0', rt', hi2⟩ | ⟨r0', rt'⟩
        · subst r0'
          exact more 5 (.inr rfl) (by rw [rt']; decide) hi2 (by rw [r1, b1_q, if_pos rfl, r1', b1_q, if_neg (by decide)])
        · subst r0'
          right
          refine ⟨σ2, τ2, i2, ?_, f3.trans (add_end (by omega) (by omega)), f4, f5, f6, f7, f9⟩
          rw [f1]
          unfold PTb
          rw [f2, b1_q, r1, b1_q, if_pos rfl, r1', b1_q, if_pos rfl, b2_q, if_pos rfl, b1_q, if_pos rfl]
          rfl
/-- a whole sum -/
theorem smQ {pd : Nat} {st : List Bool} (hl : st.length + 2 < 60) {i : Nat} {σ τ : Sg} (h : PX c n 0 T q i σ τ) (hC : CX a st i pd σ τ) : ∃ r σ' τ', Re_parseSum σ = some (r, σ') ∧ Mo_sumUp τ = some (r, τ') ∧ FS σ σ' τ τ' ∧ ((r = 0 ∧ FAIL σ' τ') ∨ (r = 1 ∧ ∃ i', i < i' ∧ PX c n 0 T q i' σ' τ' ∧ CX a (false :: st) i' pd σ' τ' ∧ τ' 172 24 = τ 172 24)) := by
  rcases suQ (a := a) hl (T - i) i (-1) 0 σ τ rfl h (by omega) (.inl ⟨rfl, hC⟩) with ⟨σ', τ', v1, v2, v3, v4⟩ | ⟨σ', τ', i', v1, v2, v3, v4, v5, v6, v7⟩
  · exact ⟨0, σ', τ', v1, v2, v3, .inl ⟨rfl, v4⟩⟩
  · exact ⟨1, σ', τ', v1, v2, v3, .inr ⟨rfl, i', v6, v4, v5, v7⟩⟩
end Sum3
