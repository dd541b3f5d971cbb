/-! text: the law, line by line -/
section Laws
variable {c : Nat → Int} {n T : Nat} {q : Nat → Nat}
theorem PX.end_ {k i : Nat} {σ τ : Sg} (h : PX c n k T q i σ τ) : σ 146 i = 0 ↔ τ 172 18 = 0 := by
  have kd := h.kd
  have tw := tkW_in h.2.2.1.2.2.2 (σ 147 i)
  rw [h.2.2.2.2.1]
  unfold tkc
  rcases kd with ⟨y, -⟩ | ⟨y, -⟩ | ⟨y, -⟩ | ⟨y, -⟩ | ⟨y, -⟩
  · rw [y]; simp
  · rw [y, if_neg (by decide), if_pos rfl]; omega
  · rw [y, if_neg (by decide), if_neg (by decide), if_pos rfl]
  · rw [y, if_neg (by decide), if_neg (by decide), if_neg (by decide), if_pos rfl]
    unfold sgF
    split <;> omega
  · rw [y, if_neg (by decide), if_neg (by decide), if_neg (by decide), if_neg (by decide)]; omega
theorem PX.law {i : Nat} {σ τ : Sg} (h : PX c n 0 T q i σ τ) : (σ 146 i = 1 ∧ σ 147 i ≤ 4) ↔ (20 ≤ τ 172 18 ∧ τ 172 18 ≤ 24) := by
  have kd := h.kd
  rw [h.2.2.2.2.1]
  unfold tkc
  rcases kd with ⟨y, -⟩ | ⟨y, -, y1, y2⟩ | ⟨y, -⟩ | ⟨y, -⟩ | ⟨y, -⟩
  · rw [y, if_pos rfl]; omega
  · rw [y, if_neg (by decide), if_pos rfl]
    unfold tkW
    rw [if_neg (by omega)]
    obtain ⟨w, hw'⟩ := Int.eq_ofNat_of_zero_le y1
    have hw' : σ 147 i = (w : Int) := hw'
    rw [hw'] at y2 ⊢
    rw [Int.toNat_natCast]
    have t : ∀ w : Nat, w < 19 → ((w : Int) ≤ 4 ↔ (20 ≤ (tkT 0).getD w 1 ∧ (tkT 0).getD w 1 ≤ 24)) := by decide +kernel
    have hl : (wids 0).length = 19 := rfl
    have := t w (by omega)
    constructor
    · intro z; exact this.mp z.2
    · intro z; exact ⟨rfl, this.mpr z⟩
  · rw [y, if_neg (by decide), if_neg (by decide), if_pos rfl]; omega
  · rw [y, if_neg (by decide), if_neg (by decide), if_neg (by decide), if_pos rfl]
    unfold sgF
    split <;> omega
  · rw [y, if_neg (by decide), if_neg (by decide), if_neg (by decide), if_neg (by decide)]; omega
/-- a line is counted -/
noncomputable def lnK (cnt : Int) (p : Int × Sg) : Option ((Int × Sg) ⊕ (Int × Sg)) := if p.1 = 0 then some (.inr (0, p.2)) else ll (su p.2 142 0 (wr ((p.2 142 0) + 1))) fun σ36 => ll (wr (cnt + 1)) fun v4_37 => some (.inl (v4_37, σ36))
theorem lnK_0 {cnt : Int} {σ : Sg} : lnK cnt (0, σ) = some (.inr (0, σ)) := by unfold lnK; rw [if_pos rfl]
theorem lnK_n {cnt r : Int} {σ : Sg} (h : r ≠ 0) : lnK cnt (r, σ) = ll (su σ 142 0 (wr ((σ 142 0) + 1))) fun σ36 => ll (wr (cnt + 1)) fun v4_37 => some (.inl (v4_37, σ36)) := by unfold lnK; rw [if_neg h]
/-- what the law's reading comes to -/
def LAWR (σ τ : Sg) : Prop := ∃ L s : Nat, L ≤ 16 ∧ s ≤ 400 ∧ σ 142 0 = L ∧ τ 172 13 = L ∧ σ 142 3 = s ∧ τ 172 14 = s ∧ LNC L s σ τ ∧ (∀ j, j < s → stepR (σ 144 j) (τ 178 (2 * j)) (τ 178 (2 * j + 1))) ∧ σ 141 2 = 0 ∧ σ 141 3 = -1
theorem rl0 {τ : Sg} : Mo_readsLaw_12_w 0 τ = some (0, τ) := by
  refine wl_end ?_
  show Mo_readsLaw_12_b 0 τ = _
  unfold Mo_readsLaw_12_b
  rw [if_pos rfl, zb_q0]
theorem F13 {σ τ : Sg} {v : Int} : FP σ σ τ (su τ 172 13 v) := ⟨fun _ _ _ _ _ => rfl, fun _ _ _ _ => rfl, fun c h _ _ _ => su_c h, fun j hj => by rw [su_s, up_n (by omega)]⟩
theorem laL : ∀ (d i cnt L s : Nat) (σ τ : Sg), T - i = d → PX c n 0 T q i σ τ → CX s [] i 0 σ τ → σ 142 3 = s → LNC L s σ τ → L ≤ 16 → σ 142 0 = L → τ 172 13 = L → cnt ≤ i → ∃ r σ' τ', Re_parse_37_w 4 16 0 (cnt : Int) σ = some (r, σ') ∧ Mo_readsLaw_12_w 1 τ = some (r, τ') ∧ FP σ σ' τ τ' ∧ ((r = 0 ∧ FAIL σ' τ') ∨ (r = 1 ∧ LAWR σ' τ')) := by
  intro d
  induction d using Nat.strongRecOn with
  | ind d ih =>
    intro i cnt L s σ τ hd h hC hs hL hL16 h0 h13 hcnt
    have b4 := h.i4
    have a9 : σ 141 9 = i := h.2.1.2.1
    have failM : ∀ τ', Mo_aLine τ = some (0, τ') → ¬ τ 172 18 = 0 → Mo_readsLaw_12_w 1 τ = some (0, su τ' 172 13 (wr (τ' 172 13 + 0))) := fun τ' ha hz => by
      refine (wl_go ?_).trans rl0
      show Mo_readsLaw_12_b 1 τ = _
      unfold Mo_readsLaw_12_b
      rw [if_neg (show ¬ (1 : Int) = 0 by decide), if_neg hz, ha, b2_q, if_pos rfl, ll_q]
    by_cases e0 : σ 146 i = 0
    · have t0 := h.end_.mp e0
      refine ⟨1, σ, τ, wl_end ?_, wl_end ?_, FP.refl, .inr ⟨rfl, ?_⟩⟩
      · show Re_parse_37_b 4 16 0 (cnt : Int) σ = _
        unfold Re_parse_37_b
        rw [if_neg (by omega), a9, ix_q (by omega) (by omega), Int.toNat_natCast, if_pos e0]
      · show Mo_readsLaw_12_b 1 τ = _
        unfold Mo_readsLaw_12_b
        rw [if_neg (show ¬ (1 : Int) = 0 by decide), if_pos t0, zb_q1]
      · obtain ⟨s', s1, s2, s3, s4, s5, s6⟩ := hC
        have es : s' = s := by omega
        subst es
        exact ⟨L, s', hL16, by omega, h0, h13, s1, s2, hL, s5, h.2.2.2.2.2.2.2⟩
    · have t0 : ¬ τ 172 18 = 0 := fun z => e0 (h.end_.mpr z)
      by_cases hw : σ 146 i = 1 ∧ σ 147 i ≤ 4
      · have hv : 0 ≤ σ 147 i := by rcases h.kd with y | y | y | y | y <;> omega
        have tC : (if σ 146 i = 1 then ix ((i : Nat) : Int) 401 (if 4 < σ 147 i then some 1 else some 0) else some 1) = some (0 : Int) := by rw [if_pos hw.1, ix_q (by omega) (by omega), if_neg (by omega)]
        by_cases hl : L < 16
        · obtain ⟨r, σ1, τ1, k1, k2, k3, k4⟩ := lnQ h hC hs hL hl h13 ⟨hw.1, hv, hw.2⟩
          have cls : Re_parse_37_b 4 16 0 (cnt : Int) σ = (b2 (Re_parseLaw σ) fun r σ1 => if r = 0 then some (0, σ1) else b2 (Re_takeSign 59 σ1) fun r2 σ2 => some (r2, σ2)).bind (lnK (cnt : Int)) := by
            unfold Re_parse_37_b
            rw [if_neg (by omega), a9, ix_q (by omega) (by omega), Int.toNat_natCast, if_neg e0, ix_q (by omega) (by omega), tC, b1_q, if_pos rfl, h0, if_pos (by omega), if_pos rfl]
            cases Re_parseLaw σ with
            | none => rfl
            | some p =>
              obtain ⟨r, σ2⟩ := p
              rw [b2_q, b2_q, b2_q]
              by_cases z : r = 0
              · rw [if_pos z, if_pos z]
                exact lnK_0.symm
              · rw [if_neg z, if_neg z]
                cases Re_takeSign 59 σ2 with
                | none => rfl
                | some p =>
                  obtain ⟨r2, σ3⟩ := p
                  rw [b2_q, b2_q]
                  by_cases y : r2 = 0
                  · rw [if_pos y, y]
                    exact lnK_0.symm
                  · rw [if_neg y]
                    exact (lnK_n y).symm
          rw [k1] at cls
          rcases k4 with ⟨r0, k4⟩ | ⟨r0, i', s', k4, k5, k6, k7, k8, k9, k10⟩
          · subst r0
            refine ⟨0, σ1, _, wl_end ?_, failM τ1 k2 t0, k3.trans F13, .inl ⟨rfl, ?_⟩⟩
            · show Re_parse_37_b 4 16 0 (cnt : Int) σ = _
              rw [cls]
              exact lnK_0
            · unfold FAIL
              rw [su_s, up_n (by decide), up_n (by decide)]; exact k4
          · subst r0
            have b41 := k5.i4
            have n0 : σ1 142 0 = L := k9.trans h0
            have n13 : τ1 172 13 = L := k10.trans h13
            have hcls : Re_parse_37_w 4 16 0 (cnt : Int) σ = Re_parse_37_w 4 16 0 ((cnt + 1 : Nat) : Int) (su σ1 142 0 ((L : Int) + 1)) := by
              refine wl_go ?_
              show Re_parse_37_b 4 16 0 (cnt : Int) σ = _
              rw [cls]
              show lnK (cnt : Int) (1, σ1) = _
              rw [lnK_n (by decide), n0, wr_q (by omega) (by omega), ll_q, wr_q (by omega) (by omega), ll_q]
              rfl
            have href : Mo_readsLaw_12_w 1 τ = Mo_readsLaw_12_w 1 (su τ1 172 13 ((L : Int) + 1)) := by
              refine wl_go ?_
              show Mo_readsLaw_12_b 1 τ = _
              unfold Mo_readsLaw_12_b
              rw [if_neg (show ¬ (1 : Int) = 0 by decide), if_neg t0, k2, b2_q, if_neg (by decide), n13, wr_q (by omega) (by omega), ll_q]
            have P2 : PX c n 0 T q i' (su σ1 142 0 ((L : Int) + 1)) (su τ1 172 13 ((L : Int) + 1)) := k5.ag (by rw [su_c (by decide)]) (by rw [su_c (by decide)]) (by rw [su_c (by decide)]) (by rw [su_c (by decide)]) (fun x hx => su_c (by omega)) (fun j hj => by rw [su_s, up_n (by omega)]) (su_c (by decide))
            have C2 : CX s' [] i' 0 (su σ1 142 0 ((L : Int) + 1)) (su τ1 172 13 ((L : Int) + 1)) := k6.ag (Nat.le_refl _) (by rw [su_s, up_n (by decide)]) (su_c (by decide)) (by rw [su_s, up_n (by decide)]) (su_c (by decide))
            have L2 : LNC (L + 1) s' (su σ1 142 0 ((L : Int) + 1)) (su τ1 172 13 ((L : Int) + 1)) := by
              unfold LNC at k8 ⊢
              rw [su_s, up_n (by decide), up_n (by decide), su_c (show (143 : Nat) ≠ 142 by decide), su_c (show (177 : Nat) ≠ 172 by decide), su_c (show (178 : Nat) ≠ 172 by decide)]
              exact k8
            obtain ⟨r, σ', τ', v1, v2, v3, v4⟩ := ih (T - i') (by omega) i' (cnt + 1) (L + 1) s' _ _ rfl P2 C2 (by rw [su_s, up_n (by decide)]; exact k7) L2 (by omega) (by rw [su_s, up_a]; rfl) (by rw [su_s, up_a]; rfl) (by omega)
            have F2 : FP σ1 (su σ1 142 0 ((L : Int) + 1)) τ1 τ1 := ⟨fun x _ a _ _ => su_c a, fun j _ _ _ => by rw [su_c (by decide)], fun _ _ _ _ _ => rfl, fun _ _ => rfl⟩
            exact ⟨r, σ', τ', hcls.trans v1, href.trans v2, ((k3.trans F2).trans F13).trans v3, v4⟩
        · have e16 : L = 16 := by omega
          obtain ⟨σ', τ', f1, f2, f3, f4⟩ := h.ref 3
          have ha : Mo_aLine τ = some (0, τ') := by
            unfold Mo_aLine
            rw [isIn_q, b1_q, if_pos (h.law.mp hw), if_neg (show ¬ (1 : Int) = 0 by decide), h13, if_pos (by omega), f2, b2_q]
          refine ⟨0, σ', _, wl_end ?_, failM τ' ha t0, f3.trans F13, .inl ⟨rfl, ?_⟩⟩
          · show Re_parse_37_b 4 16 0 (cnt : Int) σ = _
            unfold Re_parse_37_b
            rw [if_neg (by omega), a9, ix_q (by omega) (by omega), Int.toNat_natCast, if_neg e0, ix_q (by omega) (by omega), tC, b1_q, if_pos rfl, h0, if_neg (by omega), f1, b2_q]
          · unfold FAIL
            rw [su_s, up_n (by decide), up_n (by decide)]; exact f4
      · obtain ⟨σ', τ', f1, f2, f3, f4⟩ := h.ref 1
        have ha : Mo_aLine τ = some (0, τ') := by
          unfold Mo_aLine
          rw [isIn_q, b1_q, if_neg (fun z => hw (h.law.mpr z)), if_pos rfl, f2, b2_q]
        have tC : (if σ 146 i = 1 then ix ((i : Nat) : Int) 401 (if 4 < σ 147 i then some 1 else some 0) else some 1) = some (1 : Int) := by
          by_cases y : σ 146 i = 1
          · rw [if_pos y, ix_q (by omega) (by omega), if_pos (by
              have := hw
              omega)]
          · rw [if_neg y]
        refine ⟨0, σ', _, wl_end ?_, failM τ' ha t0, f3.trans F13, .inl ⟨rfl, ?_⟩⟩
        · show Re_parse_37_b 4 16 0 (cnt : Int) σ = _
          unfold Re_parse_37_b
          rw [if_neg (by omega), a9, ix_q (by omega) (by omega), Int.toNat_natCast, if_neg e0, ix_q (by omega) (by omega), tC, b1_q, if_neg (by decide), f1, b2_q]
        · unfold FAIL
          rw [su_s, up_n (by decide), up_n (by decide)]; exact f4
end Laws
