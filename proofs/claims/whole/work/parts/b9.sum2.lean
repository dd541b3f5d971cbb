/-! text: products and sums -/
noncomputable def UR (tm : Int) (τ : Sg) : Option (Int × Sg) := b2 (Mo_unit τ) fun r τ1 => if r = 0 then some (0, τ1) else (if tm = 0 then Mo_product_9_w τ1 else b1 (Mo_lay 25 0 τ1) fun τ2 => Mo_product_9_w τ2)
noncomputable def PTb (w cnt : Int) (σ15 : Sg) : Option ((Int × Int × Int × Sg) ⊕ (Int × Sg)) := b2 (b1 (if w = (-1) then some σ15 else b1 (Sh_emit 142 w σ15) fun σ23 => some σ23) fun (σ22 : Sg) => b1 (Re_isSign 43 σ22) fun r24 => if r24 = 0 then b1 (Re_isSign 45 σ22) fun r26 => if r26 = 0 then some ((-1), σ22) else some (5, σ22) else some (4, σ22)) fun (v1_19 : Int) (σ20 : Sg) => b1 (if v1_19 = (-1) then some 0 else some 1) fun (t32 : Int) => if t32 = 0 then some (.inr (1, σ20)) else b1 (Re_advance σ20) fun σ30 => ll (wr (cnt + 1)) fun v3_31 => some (.inl (v1_19, 0, v3_31, σ30))
noncomputable def SRe (w : Int) (τ : Sg) : Option (Int × Sg) := if w = -1 then Mo_sumUp τ else b2 (Mo_product τ) fun r τ1 => if r = 0 then some (0, τ1) else b1 (Mo_lay (w + 19) 0 τ1) fun τ2 => Mo_sumUp_9_w τ2
section Sum2
variable {c : Nat → Int} {n T : Nat} {q : Nat → Nat} {i : Nat} {σ σ' τ τ' : Sg} {a pd : Nat} {st : List Bool}
theorem CX.mv (h : CX a st i pd σ τ) {i' pd' : Nat} (hle : i + pd' ≤ i' + pd) : CX a st i' pd' σ τ := by
  obtain ⟨s, s1, s2, s3, s4, s5, s6⟩ := h
  exact ⟨s, s1, s2, s3, by omega, s5, s6⟩
theorem mul_go {τ1 : Sg} (h : τ 172 18 = 142) (hn : Mo_next0 τ = some τ1) : Mo_product_9_w τ = UR 1 τ1 := by
  show wl _ _ = _
  rw [wl_eq]
  show (Mo_product_9_b τ).bind (wlK Mo_product_9_w) = _
  unfold Mo_product_9_b UR
  rw [h, if_pos (show (142 : Int) = 142 from rfl), b1_q, if_neg (show ¬ (1 : Int) = 0 by decide), if_neg (show ¬ (142 : Int) = 147 by decide), b1_q, hn, b1_q, if_pos (show (0 : Int) = 0 from rfl)]
  cases Mo_unit τ1 with
  | none => rfl
  | some p =>
    obtain ⟨r, τ2⟩ := p
    rw [b2_q, b2_q]
    by_cases z : r = 0
    · rw [if_pos z, if_pos z]; rfl
    · rw [if_neg z, if_neg z, if_neg (show ¬ (1 : Int) = 0 by decide)]
      cases Mo_lay 25 0 τ2 <;> rfl
theorem mul_end (h1 : τ 172 18 ≠ 142) (h2 : τ 172 18 ≠ 147) : Mo_product_9_w τ = some (1, τ) := by
  refine wl_end ?_
  show Mo_product_9_b τ = _
  unfold Mo_product_9_b
  rw [if_neg h1, if_neg h2, b1_q, if_pos rfl]
theorem add_go {τ1 : Sg} {w : Int} (hw : w = 4 ∨ w = 5) (h : τ 172 18 = 139 + w - (if w = 4 then 0 else -1)) (hn : Mo_next0 τ = some τ1) : Mo_sumUp_9_w τ = SRe w τ1 := by
  show wl _ _ = _
  rw [wl_eq]
  show (Mo_sumUp_9_b τ).bind (wlK Mo_sumUp_9_w) = _
  unfold Mo_sumUp_9_b SRe
  have fin : ∀ how : Int, w + 19 = how → (b1 (some τ1) fun σ9 => b2 (Mo_product σ9) fun r10 σ11 => if r10 = 0 then (some (Sum.inr (0, σ11)) : Option (Sg ⊕ (Int × Sg))) else b1 (Mo_lay how 0 σ11) fun σ13 => some (Sum.inl σ13)).bind (wlK Mo_sumUp_9_w) = b2 (Mo_product τ1) fun r τ1 => if r = 0 then some (0, τ1) else b1 (Mo_lay (w + 19) 0 τ1) fun τ2 => Mo_sumUp_9_w τ2 := by
    intro how e
    rw [b1_q, e]
    cases Mo_product τ1 with
    | none => rfl
    | some p =>
      obtain ⟨r, τ2⟩ := p
      rw [b2_q, b2_q]
      by_cases z : r = 0
      · rw [if_pos z, if_pos z]; rfl
      · rw [if_neg z, if_neg z]
        cases Mo_lay how 0 τ2 <;> rfl
  rcases hw with e | e
  · subst e
    rw [h, if_pos (show (4 : Int) = 4 from rfl), show (139 + 4 - 0 : Int) = 143 from rfl, if_pos (show (143 : Int) = 143 from rfl), b1_q, if_neg (show ¬ (1 : Int) = 0 by decide), if_pos (show (143 : Int) = 143 from rfl), b1_q, hn, if_neg (show ¬ (4 : Int) = -1 by decide)]
    exact fin 23 rfl
  · subst e
    rw [h, if_neg (show ¬ (5 : Int) = 4 by decide), show (139 + 5 - -1 : Int) = 145 from rfl, if_neg (show ¬ (145 : Int) = 143 by decide), if_pos (show (145 : Int) = 145 from rfl), b1_q, if_neg (show ¬ (1 : Int) = 0 by decide), if_neg (show ¬ (145 : Int) = 143 by decide), b1_q, hn, if_neg (show ¬ (5 : Int) = -1 by decide)]
    exact fin 24 rfl
theorem add_end (h1 : τ 172 18 ≠ 143) (h2 : τ 172 18 ≠ 145) : Mo_sumUp_9_w τ = some (1, τ) := by
  refine wl_end ?_
  show Mo_sumUp_9_b τ = _
  unfold Mo_sumUp_9_b
  rw [if_neg h1, if_neg h2, b1_q, if_pos rfl]
theorem pr_UR : Mo_product τ = UR 0 τ := by
  unfold Mo_product UR
  cases Mo_unit τ with
  | none => rfl
  | some p =>
    obtain ⟨r, τ2⟩ := p
    rw [b2_q, b2_q]
    by_cases z : r = 0
    · rw [if_pos z, if_pos z]
    · rw [if_neg z, if_neg z, if_pos (show (0 : Int) = 0 from rfl)]
/-- the class may go on first, then lay -/
theorem em_adv {s i : Nat} {x : Int} (h3 : σ 142 3 = s) (hs : s < 400) (h9 : σ 141 9 = i) (h8 : σ 141 8 = (T : Int) + 1) (hi : i < T) (hT : T ≤ 400) {σb σc : Sg} (hb : Re_advance σ = some σb) (hc : Sh_emit 142 x σb = some σc) : ∃ σa, Sh_emit 142 x σ = some σa ∧ Re_advance σa = some σc := by
  have hln : ln (142 + 2) = 400 := by decide +kernel
  have eb : σb = su σ 141 9 ((i : Int) + 1) := by
    unfold Re_advance at hb
    rw [h9, h8, wr_q (by omega) (by omega), if_pos (by omega), wr_q (by omega) (by omega), ll_q] at hb
    exact (Option.some.inj hb).symm
  subst eb
  have ec : σc = su (su (su σ 141 9 ((i : Int) + 1)) 144 s x) 142 3 ((s : Int) + 1) := by
    unfold Sh_emit at hc
    rw [su_c (show (142 : Nat) ≠ 141 by decide), h3, hln, if_pos (by omega), ix_q (by omega) (by omega), ll_q, Int.toNat_natCast, su_c (show (142 : Nat) ≠ 142 + 2 by decide), su_c (show (142 : Nat) ≠ 141 by decide), h3, wr_q (by omega) (by omega), ll_q] at hc
    exact (Option.some.inj hc).symm
  subst ec
  refine ⟨su (su σ 144 s x) 142 3 ((s : Int) + 1), ?_, ?_⟩
  · unfold Sh_emit
    rw [h3, hln, if_pos (by omega), ix_q (by omega) (by omega), ll_q, Int.toNat_natCast, su_c (show (142 : Nat) ≠ 142 + 2 by decide), h3, wr_q (by omega) (by omega), ll_q]
  · unfold Re_advance
    rw [su_c (show (141 : Nat) ≠ 142 by decide), su_c (show (141 : Nat) ≠ 144 by decide), h9, h8, wr_q (by omega) (by omega), if_pos (by omega), wr_q (by omega) (by omega), ll_q, su_x (k := 142) (j := 3) (k' := 141) (j' := 9) (.inl (by decide)), su_x (k := 144) (j := s) (k' := 141) (j' := 9) (.inl (by decide))]
/-- parts behind an operand -/
theorem paQ : ∀ (d i cnt : Nat) (σ τ : Sg), T - i = d → PX c n 0 T q i σ τ → CX a (false :: st) i pd σ τ → cnt ≤ i → (∃ σ' τ', Re_takeParts_2_w (cnt : Int) σ = some (0, σ') ∧ Mo_product_9_w τ = some (0, τ') ∧ FS σ σ' τ τ' ∧ FAIL σ' τ') ∨ (∃ σ' τ' i', Re_takeParts_2_w (cnt : Int) σ = some (1, σ') ∧ Mo_product_9_w τ = Mo_product_9_w τ' ∧ FS σ σ' τ τ' ∧ PX c n 0 T q i' σ' τ' ∧ CX a (false :: st) i' pd σ' τ' ∧ i ≤ i' ∧ τ' 172 18 ≠ 147 ∧ τ' 172 24 = τ 172 24) := by
  intro d
  induction d using Nat.strongRecOn with
  | ind d ih =>
    intro i cnt σ τ hd h hC hcnt
    have b4 := h.i4
    obtain ⟨r, r1, r2⟩ := h.sgn (x := 47) (by unfold isG; omega)
    rcases r2 with ⟨r0, rt, hi⟩ | ⟨r0, rt⟩
    · subst r0
      obtain ⟨σ1, τ1, g1, g2, g3, g4, g5, g6, g7, g8, g9⟩ := h.nxt hi
      have a9 : σ1 141 9 = ((i + 1 : Nat) : Int) := g3.2.1.2.1
      have b41 := g3.i4
      have refb : ∀ X, Mo_product_9_w τ = X ↔ ((if τ1 172 18 = 2 then if τ1 172 20 = 0 then b2 (Mo_bad 2 τ1) fun r18 σ19 => (some (Sum.inr (r18, σ19)) : Option (Sg ⊕ (Int × Sg))) else b1 (Mo_next0 τ1) fun σ20 => b1 (Mo_lay 26 (τ1 172 20) σ20) fun σ21 => some (Sum.inl σ21) else b2 (Mo_bad 1 τ1) fun r22 σ23 => some (Sum.inr (r22, σ23))).bind (wlK Mo_product_9_w)) = X := fun X => by
        have e : Mo_product_9_b τ = (if τ1 172 18 = 2 then if τ1 172 20 = 0 then b2 (Mo_bad 2 τ1) fun r18 σ19 => (some (Sum.inr (r18, σ19)) : Option (Sg ⊕ (Int × Sg))) else b1 (Mo_next0 τ1) fun σ20 => b1 (Mo_lay 26 (τ1 172 20) σ20) fun σ21 => some (Sum.inl σ21) else b2 (Mo_bad 1 τ1) fun r22 σ23 => some (Sum.inr (r22, σ23))) := by
          unfold Mo_product_9_b
          rw [rt, if_neg (show ¬ (100 + 47 : Int) = 142 by decide), if_pos (show (100 + 47 : Int) = 147 from rfl), b1_q, if_neg (show ¬ (1 : Int) = 0 by decide), b1_q, g2, b1_q, if_neg (show ¬ (1 : Int) = 0 by decide), ll_q]
        show wl _ _ = X ↔ _
        rw [wl_eq, ← e]
        rfl
      rcases g3.num with ⟨y1, y2, y3, y4, y5, y6⟩ | ⟨y1, y2⟩
      · by_cases z : σ1 147 (i + 1) = 0
        · obtain ⟨σ', τ', f1, f2, f3, f4⟩ := g3.refS 2
          left
          refine ⟨σ', τ', wl_end ?_, (refb _).mpr ?_, g4.trans f3, f4⟩
          · show Re_takeParts_2_b (cnt : Int) σ = _
            unfold Re_takeParts_2_b
            rw [if_neg (by omega), r1, b1_q, if_neg (by decide), g1, b1_q, a9, ix_q (by omega) (by omega), Int.toNat_natCast, if_pos y1, ix_q (by omega) (by omega), if_pos z, f1, b2_q]
          · rw [if_pos y2, if_pos (by rw [y3]; exact z), f2, b2_q]
            rfl
        · obtain ⟨σ2, τ2, k1, k2, k3, k4, k5, k6, k7, k8, k9⟩ := g3.nxt y4
          have C2 : CX a (false :: st) (i + 2) (pd + 1) σ2 τ2 := (hC.mv (i' := i + 2) (pd' := pd + 1) (by omega)).ag (Nat.le_refl _) (by rw [k6, g6]) (by rw [k7, g7]) (by rw [k8, g8]) (by rw [k9, g9])
          obtain ⟨σ3, τ3, e1, e2, e3, e4, e5, e6⟩ := C2.em (pd' := pd) (by have := k3.i4; omega) k3 (.inl rfl) (x := σ1 147 (i + 1) * 16 + 2) (kk := 26) (v := σ1 147 (i + 1)) (st' := false :: st) (.inr (.inr (.inl ⟨rfl, by omega, y6, rfl⟩))) (by
            unfold tyS
            rw [if_neg (by decide), if_pos rfl])
          have C3 : CX a (false :: st) (i + 2) pd σ3 τ3 := e3 (i + 2) (by omega)
          obtain ⟨s, s1, s2, s3, s4, s5, s6⟩ := hC
          obtain ⟨σa, q1, q2⟩ := em_adv (σ := σ1) (s := s) (i := i + 1) (T := T) (x := σ1 147 (i + 1) * 16 + 2) (by rw [g6]; exact s1) (by omega) a9 g3.2.1.1 y4 (by omega) k1 e1
          have hcls : Re_takeParts_2_b (cnt : Int) σ = some (.inl ((cnt : Int) + 1, σ3)) := by
            unfold Re_takeParts_2_b Ju_step
            rw [if_neg (by omega), r1, b1_q, if_neg (by decide), g1, b1_q, a9, ix_q (by omega) (by omega), Int.toNat_natCast, if_pos y1, ix_q (by omega) (by omega), if_neg z, ix_q (by omega) (by omega), b1_q, wr_q (n := σ1 147 (i + 1) * 16 + 2) (by omega) (by omega), q1, b1_q, q2, b1_q, wr_q (by omega) (by omega), ll_q]
          have href : Mo_product_9_w τ = Mo_product_9_w τ3 := (refb _).mpr (by
            rw [if_pos y2, if_neg (by rw [y3]; exact z), k2, b1_q, y3, e2, b1_q]
            rfl)
          have F3 := (g4.trans k4).trans e4
          rcases ih (T - (i + 2)) (by have := k3.i4; omega) (i + 2) (cnt + 1) σ3 τ3 rfl e5 C3 (by omega) with ⟨σ', τ', w1, w2, w3, w4⟩ | ⟨σ', τ', i', w1, w2, w3, w4, w5, w6, w7, w8⟩
          · exact .inl ⟨σ', τ', (wl_go hcls).trans w1, href.trans w2, F3.trans w3, w4⟩
          · exact .inr ⟨σ', τ', i', (wl_go hcls).trans w1, href.trans w2, F3.trans w3, w4, w5, by omega, w7, by rw [w8, e6, k5, g5]⟩
      · obtain ⟨σ', τ', f1, f2, f3, f4⟩ := g3.refS 1
        left
        refine ⟨σ', τ', wl_end ?_, (refb _).mpr ?_, g4.trans f3, f4⟩
        · show Re_takeParts_2_b (cnt : Int) σ = _
          unfold Re_takeParts_2_b
          rw [if_neg (by omega), r1, b1_q, if_neg (by decide), g1, b1_q, a9, ix_q (by omega) (by omega), Int.toNat_natCast, if_neg y1, f1, b2_q]
        · rw [if_neg y2, f2, b2_q]
          rfl
    · subst r0
      right
      refine ⟨σ, τ, i, wl_end ?_, rfl, FS.refl, h, hC, Nat.le_refl _, by omega, rfl⟩
      show Re_takeParts_2_b (cnt : Int) σ = _
      unfold Re_takeParts_2_b
      rw [if_neg (by omega), r1, b1_q, if_pos rfl]
end Sum2
