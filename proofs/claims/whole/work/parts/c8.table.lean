/-! text: rows, one after the other -/
noncomputable def prs (k : Nat) (σ : Sg) : Option (Int × Sg) := match k with
  | 1 => Re_parseHours σ
  | 2 => Re_parseSaying σ
  | _ => Re_parseHabit σ
def RQ (k R : Nat) (σ τ : Sg) : Prop := match k with
  | 1 => HQ R σ τ
  | 2 => SQ R σ τ
  | _ => BQ R σ τ
def mxK (k : Nat) : Nat := if k = 3 then 8 else 16
section RowsL
variable {c : Nat → Int} {n T : Nat} {q : Nat → Nat}
theorem rowQ {k i R : Nat} {σ τ : Sg} (hk : k = 1 ∨ k = 2 ∨ k = 3) (h : PX c n k T q i σ τ) (h1 : σ 146 i = 1) (h2 : σ 147 i = 0) (hR : R < mxK k) (h15 : τ 172 15 = R) (hQ : RQ k R σ τ) : RUN (b2 (prs k σ) fun r s => if r = 0 then some (0, s) else Re_takeSign 59 s) (Mo_aRow τ) σ τ (fun σ' τ' => (∃ i', i < i' ∧ PX c n k T q i' σ' τ') ∧ RQ k (R + 1) σ' τ') := by
  rcases hk with e | e | e <;> subst e
  · exact hrQ h h1 h2 (show R < 16 from hR) h15 hQ
  · exact syQ h h1 h2 (show R < 16 from hR) h15 hQ
  · exact hbQ h h1 h2 (show R < 8 from hR) h15 hQ
theorem RQ_ag {k R : Nat} (hk : k = 1 ∨ k = 2 ∨ k = 3) {σ σ' τ τ' : Sg} (h : RQ k R σ τ) (h1 : σ' 142 2 = σ 142 2) (h2 : σ' 143 = σ 143) (h3 : τ' 179 = τ 179) : RQ k R σ' τ' := by
  rcases hk with e | e | e <;> subst e
  · show HQ R σ' τ'
    have h : HQ R σ τ := h
    unfold HQ at h ⊢; rw [h1, h2, h3]; exact h
  · show SQ R σ' τ'
    have h : SQ R σ τ := h
    unfold SQ at h ⊢; rw [h1, h2, h3]; exact h
  · show BQ R σ' τ'
    have h : BQ R σ τ := h
    unfold BQ at h ⊢; rw [h1, h2, h3]; exact h
def ROWR (k : Nat) (σ0 σ τ : Sg) : Prop := ∃ R : Nat, R ≤ mxK k ∧ σ 142 0 = R ∧ τ 172 15 = R ∧ RQ k R σ τ ∧ σ 142 1 = σ0 142 1 ∧ σ 142 3 = σ0 142 3 ∧ σ 141 2 = 0 ∧ σ 141 3 = -1
theorem rr0 {t3 : Int} {τ : Sg} : Mo_readsRows_36_w t3 0 τ = some (0, τ) := by
  refine wl_end ?_
  show Mo_readsRows_36_b t3 0 τ = _
  unfold Mo_readsRows_36_b
  rw [if_pos rfl, zb_q0]
theorem F15 {σ τ : Sg} {v : Int} : FP σ σ τ (su τ 172 15 v) := ⟨fun _ _ _ _ _ => rfl, fun _ _ _ _ => rfl, fun c h _ _ _ => su_c h, fun j hj => by rw [su_s, up_n (by omega)]⟩
theorem rwL {k : Nat} (hk : k = 1 ∨ k = 2 ∨ k = 3) {σ0 : Sg} : ∀ (d i cnt R : Nat) (σ τ : Sg), T - i = d → PX c n k T q i σ τ → RQ k R σ τ → R ≤ mxK k → σ 142 0 = R → τ 172 15 = R → σ 142 1 = σ0 142 1 → σ 142 3 = σ0 142 3 → cnt ≤ i → ∃ r σ' τ', Re_parse_37_w 0 ((mxK k : Nat) : Int) (k : Int) (cnt : Int) σ = some (r, σ') ∧ Mo_readsRows_36_w ((tkT k).getD 0 1) 1 τ = some (r, τ') ∧ FP σ σ' τ τ' ∧ ((r = 0 ∧ FAIL σ' τ') ∨ (r = 1 ∧ ROWR k σ0 σ' τ')) := by
  have m16 : mxK k ≤ 16 := by unfold mxK; split <;> omega
  have hk4 : k < 4 := by omega
  have hlen : 0 < (wids k).length := by rcases hk with e | e | e <;> subst e <;> decide
  intro d
  induction d using Nat.strongRecOn with
  | ind d ih =>
    intro i cnt R σ τ hd h hQ hR h0 h15 hw1 hw3 hcnt
    have b4 := h.i4
    have a9 : σ 141 9 = i := h.2.1.2.1
    have h12 : τ 172 12 = k := h.2.2.1.2.2.1
    have t13 : (if τ 172 12 = 3 then some (8 : Int) else some 16) = some ((mxK k : Nat) : Int) := by
      rw [h12]
      unfold mxK
      by_cases z : k = 3
      · rw [if_pos (by omega), if_pos z]; rfl
      · rw [if_neg (by omega), if_neg z]; rfl
    by_cases e0 : σ 146 i = 0
    · have t0 := h.end_.mp e0
      refine ⟨1, σ, τ, wl_end ?_, wl_end ?_, FP.refl, .inr ⟨rfl, R, hR, h0, h15, hQ, hw1, hw3, h.2.2.2.2.2.2.2⟩⟩
      · show Re_parse_37_b 0 _ (k : Int) (cnt : Int) σ = _
        unfold Re_parse_37_b
        rw [if_neg (by omega), a9, ix_q (by omega) (by omega), Int.toNat_natCast, if_pos e0]
      · show Mo_readsRows_36_b _ 1 τ = _
        unfold Mo_readsRows_36_b
        rw [if_neg (show ¬ (1 : Int) = 0 by decide), if_pos t0, zb_q1]
    · have t0 : ¬ τ 172 18 = 0 := fun z => e0 (h.end_.mpr z)
      obtain ⟨r, -, r2⟩ := h.wrd (w := 0) hlen
      rcases r2 with ⟨-, rt, y1, y2, hi⟩ | ⟨-, rt, y3⟩
      · have y2' : σ 147 i = 0 := y2
        have tC : (if σ 146 i = 1 then ix ((i : Nat) : Int) 401 (if 0 < σ 147 i then some 1 else some 0) else some 1) = some (0 : Int) := by rw [if_pos y1, ix_q (by omega) (by omega), if_neg (by omega)]
        by_cases hl : R < mxK k
        · obtain ⟨r, σ1, τ1, k1, k2, k3, k4⟩ := rowQ hk h y1 y2' hl h15 hQ
          have cls : Re_parse_37_b 0 ((mxK k : Nat) : Int) (k : Int) (cnt : Int) σ = (b2 (prs k σ) fun r s => if r = 0 then some (0, s) else Re_takeSign 59 s).bind (lnK (cnt : Int)) := by
            unfold Re_parse_37_b
            rw [if_neg (by omega), a9, ix_q (by omega) (by omega), Int.toNat_natCast, if_neg e0, ix_q (by omega) (by omega), tC, b1_q, if_pos rfl, h0, if_pos (by omega)]
            have sel : (if (k : Int) = 0 then b2 (Re_parseLaw σ) fun r22 σ23 => some (r22, σ23) else if (k : Int) = 1 then b2 (Re_parseHours σ) fun r25 σ26 => some (r25, σ26) else if (k : Int) = 2 then b2 (Re_parseSaying σ) fun r28 σ29 => some (r28, σ29) else b2 (Re_parseHabit σ) fun r30 σ31 => some (r30, σ31)) = prs k σ := by
              have hid : ∀ o : Option (Int × Sg), (b2 o fun r s => some (r, s)) = o := fun o => by
                cases o with
                | none => rfl
                | some p => rfl
              rcases hk with e | e | e <;> subst e
              · rw [if_neg (by decide), if_pos (by decide), hid]; rfl
              · rw [if_neg (by decide), if_neg (by decide), if_pos (by decide), hid]; rfl
              · rw [if_neg (by decide), if_neg (by decide), if_neg (by decide), hid]; rfl
            rw [sel]
            cases prs k σ with
            | none => rfl
            | some p =>
              obtain ⟨r, σ2⟩ := p
              rw [b2_q, b2_q]
              by_cases z : r = 0
              · rw [if_pos z, if_pos z]
                exact lnK_0.symm
              · rw [if_neg z, if_neg z]
                cases Re_takeSign 59 σ2 with
                | none => rfl
                | some p =>
                  obtain ⟨r2, σ3⟩ := p
                  rw [b2_q]
                  by_cases y : r2 = 0
                  · rw [if_pos y, y]
                    exact lnK_0.symm
                  · rw [if_neg y]
                    exact (lnK_n y).symm
          rw [k1] at cls
          rcases k4 with ⟨r0, k4⟩ | ⟨r0, ⟨i', k4, k5⟩, k6⟩
          · subst r0
            refine ⟨0, σ1, su τ1 172 15 (wr (τ1 172 15 + 0)), wl_end ?_, (wl_go ?_).trans rr0, k3.P.trans F15, .inl ⟨rfl, ?_⟩⟩
            · show Re_parse_37_b 0 _ (k : Int) (cnt : Int) σ = _
              rw [cls]
              exact lnK_0
            · show Mo_readsRows_36_b _ 1 τ = _
              unfold Mo_readsRows_36_b
              rw [if_neg (show ¬ (1 : Int) = 0 by decide), if_neg t0, if_pos rt, t13, b1_q, h15, if_neg (by omega), k2, b2_q, if_pos rfl, ll_q]
            · unfold FAIL
              rw [su_s, up_n (by decide), up_n (by decide)]; exact k4
          · subst r0
            have b41 := k5.i4
            have n0 : σ1 142 0 = R := by rw [k3.2.2.1 0 (by decide)]; exact h0
            have n15 : τ1 172 15 = R := by rw [k3.2.2.2.2 15 (by omega)]; exact h15
            have hcls : Re_parse_37_w 0 ((mxK k : Nat) : Int) (k : Int) (cnt : Int) σ = Re_parse_37_w 0 ((mxK k : Nat) : Int) (k : Int) ((cnt + 1 : Nat) : Int) (su σ1 142 0 ((R : Int) + 1)) := by
              refine wl_go ?_
              show Re_parse_37_b 0 _ (k : Int) (cnt : Int) σ = _
              rw [cls]
              show lnK (cnt : Int) (1, σ1) = _
              rw [lnK_n (by decide), n0, wr_q (by omega) (by omega), ll_q, wr_q (by omega) (by omega), ll_q]
              rfl
            have href : Mo_readsRows_36_w ((tkT k).getD 0 1) 1 τ = Mo_readsRows_36_w ((tkT k).getD 0 1) 1 (su τ1 172 15 ((R : Int) + 1)) := by
              refine wl_go ?_
              show Mo_readsRows_36_b _ 1 τ = _
              unfold Mo_readsRows_36_b
              rw [if_neg (show ¬ (1 : Int) = 0 by decide), if_neg t0, if_pos rt, t13, b1_q, h15, if_neg (by omega), k2, b2_q, if_neg (by decide), n15, wr_q (by omega) (by omega), ll_q]
            have P2 : PX c n k T q i' (su σ1 142 0 ((R : Int) + 1)) (su τ1 172 15 ((R : Int) + 1)) := k5.ag (by rw [su_c (by decide)]) (by rw [su_c (by decide)]) (by rw [su_c (by decide)]) (by rw [su_c (by decide)]) (fun x hx => su_c (by omega)) (fun j hj => by rw [su_s, up_n (by omega)]) (su_c (by decide))
            have Q2 : RQ k (R + 1) (su σ1 142 0 ((R : Int) + 1)) (su τ1 172 15 ((R : Int) + 1)) := RQ_ag hk k6 (by rw [su_s, up_n (by decide)]) (su_c (by decide)) (su_c (by decide))
            obtain ⟨r, σ', τ', v1, v2, v3, v4⟩ := ih (T - i') (by omega) i' (cnt + 1) (R + 1) _ _ rfl P2 Q2 (by omega) (by rw [su_s, up_a]; rfl) (by rw [su_s, up_a]; rfl) (by rw [su_s, up_n (by decide), k3.2.2.1 1 (by decide)]; exact hw1) (by rw [su_s, up_n (by decide), k3.2.2.1 3 (by decide)]; exact hw3) (by omega)
            have F2 : FP σ1 (su σ1 142 0 ((R : Int) + 1)) τ1 τ1 := ⟨fun x _ a _ _ => su_c a, fun j _ _ _ => by rw [su_c (by decide)], fun _ _ _ _ _ => rfl, fun _ _ => rfl⟩
            exact ⟨r, σ', τ', hcls.trans v1, href.trans v2, ((k3.P.trans F2).trans F15).trans v3, v4⟩
        · obtain ⟨σ', τ', f1, f2, f3, f4⟩ := h.ref 3
          refine ⟨0, σ', τ', wl_end ?_, wl_end ?_, f3, .inl ⟨rfl, f4⟩⟩
          · show Re_parse_37_b 0 _ (k : Int) (cnt : Int) σ = _
            unfold Re_parse_37_b
            rw [if_neg (by omega), a9, ix_q (by omega) (by omega), Int.toNat_natCast, if_neg e0, ix_q (by omega) (by omega), tC, b1_q, if_pos rfl, h0, if_neg (by omega), f1, b2_q]
          · show Mo_readsRows_36_b _ 1 τ = _
            unfold Mo_readsRows_36_b
            rw [if_neg (show ¬ (1 : Int) = 0 by decide), if_neg t0, if_pos rt, t13, b1_q, h15, if_pos (by omega), f2, b2_q]
      · obtain ⟨σ', τ', f1, f2, f3, f4⟩ := h.ref 1
        have tC : (if σ 146 i = 1 then ix ((i : Nat) : Int) 401 (if 0 < σ 147 i then some 1 else some 0) else some 1) = some (1 : Int) := by
          by_cases y : σ 146 i = 1
          · have : 0 ≤ σ 147 i := by rcases h.kd with u | u | u | u | u <;> omega
            have y0 : ¬ σ 147 i = ((0 : Nat) : Int) := fun z => y3 ⟨y, z⟩
            rw [if_pos y, ix_q (by omega) (by omega), if_pos (by omega)]
          · rw [if_neg y]
        refine ⟨0, σ', τ', wl_end ?_, wl_end ?_, f3, .inl ⟨rfl, f4⟩⟩
        · show Re_parse_37_b 0 _ (k : Int) (cnt : Int) σ = _
          unfold Re_parse_37_b
          rw [if_neg (by omega), a9, ix_q (by omega) (by omega), Int.toNat_natCast, if_neg e0, ix_q (by omega) (by omega), tC, b1_q, if_neg (by decide), f1, b2_q]
        · show Mo_readsRows_36_b _ 1 τ = _
          unfold Mo_readsRows_36_b
          rw [if_neg (show ¬ (1 : Int) = 0 by decide), if_neg t0, if_neg rt, f2, b2_q]
end RowsL
