/-! text: a row of the sayings -/
def SQr (r : Nat) (cc mm : Nat → Int) : Prop := cc (6 * r) = mm (5 * r) ∧ (0 ≤ mm (5 * r) ∧ mm (5 * r) ≤ 9999) ∧ cc (6 * r + 1) = mm (5 * r + 1) ∧ (mm (5 * r + 1) = 0 ∨ mm (5 * r + 1) = 1) ∧
  ((cc (6 * r + 2) = 1 ∧ mm (5 * r + 2) = 0) ∨ (cc (6 * r + 2) = 0 ∧ cc (6 * r + 3) = mm (5 * r + 2) ∧ (1 ≤ mm (5 * r + 2) ∧ mm (5 * r + 2) ≤ 99) ∧ cc (6 * r + 4) = mm (5 * r + 3) ∧ (0 ≤ mm (5 * r + 3) ∧ mm (5 * r + 3) ≤ 9) ∧ cc (6 * r + 5) = mm (5 * r + 4) ∧ (mm (5 * r + 4) = 0 ∨ mm (5 * r + 4) = 1)))
def SQ (R : Nat) (σ τ : Sg) : Prop := σ 142 2 = 6 * (R : Int) ∧ ∀ r, r < R → SQr r (σ 143) (τ 179)
section RowsS
variable {c : Nat → Int} {n T : Nat} {q : Nat → Nat} {i : Nat} {σ τ : Sg}
theorem SQ_s {R : Nat} {σ' τ' : Sg} (h : ∀ r, r < R → SQr r (σ 143) (τ 179)) (h2 : σ' 142 2 = 6 * (R : Int) + 6) (hc : ∀ j, j < 6 * R → σ' 143 j = σ 143 j) (hm : ∀ j, j < 5 * R → τ' 179 j = τ 179 j) (hr : SQr R (σ' 143) (τ' 179)) : SQ (R + 1) σ' τ' := by
  refine ⟨by omega, fun r hr' => ?_⟩
  by_cases e : r = R
  · rw [e]; exact hr
  · have := h r (by omega)
    unfold SQr at this ⊢
    rw [hc _ (by omega), hc _ (by omega), hc _ (by omega), hc _ (by omega), hc _ (by omega), hc _ (by omega), hm _ (by omega), hm _ (by omega), hm _ (by omega), hm _ (by omega), hm _ (by omega)]
    exact this
theorem w9P {k x : Nat} {v : Int} (h : PX c n k T q i σ τ) : PX c n k T q i σ (su τ 179 x v) := h.ag rfl rfl rfl rfl (fun _ _ => rfl) (fun j _ => by rw [su_c (by decide)]) (su_c (by decide))
theorem w9F {x : Nat} {v : Int} : FW σ σ τ (su τ 179 x v) := ⟨fun _ _ _ _ => rfl, fun _ _ _ _ => rfl, fun _ _ => rfl, fun c _ h => su_c h, fun j _ => by rw [su_c (by decide)]⟩
theorem puW {m : Nat} {v : Int} : FW σ (puS σ m v) τ τ := ⟨fun x _ a b => puS_c a b, fun j _ _ _ => by rw [puS_c (by decide) (by decide)], fun j a => puS_j a, fun _ _ _ => rfl, fun _ _ => rfl⟩
theorem puS_u {m : Nat} {v : Int} : puS σ m v 143 = up (σ 143) m v := by unfold puS; rw [su_c (by decide), su_s]
theorem sy2 {R : Nat} (hR : R < 16) {σ0 τ0 : Sg} (h : PX c n 2 T q i σ τ) (h2 : σ 142 2 = 6 * (R : Int) + 2) {v0 v1 : Int} (h0 : 0 ≤ v0 ∧ v0 ≤ 9999) (h1 : v1 = 0 ∨ v1 = 1) (hc : σ 143 = up (up (σ0 143) (6 * R) v0) (6 * R + 1) v1) (hm : τ 179 = up (up (τ0 179) (5 * R) v0) (5 * R + 1) v1) (hQ : ∀ r, r < R → SQr r (σ0 143) (τ0 179)) :
    RUN (b1 (Re_isWord 5 σ) fun r11 => if r11 = 0 then b1 (Sh_put 142 0 σ) fun σ13 => b2 (Re_takeWord 2 σ13) fun r14 σ15 => if r14 = 0 then some (0, σ15) else b2 (Re_takeNumber 1 99 σ15) fun r17 σ18 => if r17 = 0 then some (0, σ18) else b2 (Re_takeWord 3 σ18) fun r20 σ21 => if r20 = 0 then some (0, σ21) else b2 (Re_takeNumber 0 9 σ21) fun r23 σ24 => if r23 = 0 then some (0, σ24) else b1 (Re_isWord 4 σ24) fun r26 => b1 (if r26 = 0 then some σ24 else b1 (Re_advance σ24) fun σ29 => some σ29) fun (σ28 : Sg) => b1 (if r26 = 0 then some 0 else some 1) fun (t31 : Int) => b1 (Sh_put 142 t31 σ28) fun σ32 => some (1, σ32) else b1 (Re_advance σ) fun σ33 => b1 (Sh_put 142 1 σ33) fun σ34 => b1 (Sh_put 142 0 σ34) fun σ35 => b1 (Sh_put 142 0 σ35) fun σ36 => b1 (Sh_put 142 0 σ36) fun σ37 => some (1, σ37))
      (ix (5 * (R : Int) + 2) 80 (ll (su τ 179 ((5 * (R : Int) + 2)).toNat 0) fun σ8 => ix (5 * (R : Int) + 3) 80 (ll (su σ8 179 ((5 * (R : Int) + 3)).toNat 0) fun σ10 => ix (5 * (R : Int) + 4) 80 (ll (su σ10 179 ((5 * (R : Int) + 4)).toNat 0) fun σ12 => if (σ12 172 18) = 14 then b1 (Mo_next0 σ12) fun σ15 => some (1, σ15) else b2 (Mo_told (5 * (R : Int) + 2) 11 1 99 σ12) fun r16 σ17 => if r16 = 0 then some (0, σ17) else b2 (Mo_told (5 * (R : Int) + 3) 12 0 9 σ17) fun r19 σ20 => if r19 = 0 then some (0, σ20) else if (σ20 172 18) = 13 then ix (5 * (R : Int) + 4) 80 (ll (su σ20 179 ((5 * (R : Int) + 4)).toNat 1) fun σ23 => b1 (Mo_next0 σ23) fun σ25 => some (1, σ25)) else some (1, σ20))))) σ τ (fun σ' τ' => (∃ i', i ≤ i' ∧ PX c n 2 T q i' σ' τ') ∧ SQ (R + 1) σ' τ') := by
  have b4 := h.i4
  rw [ix_q (by omega) (by omega), ll_q, ix_q (by omega) (by omega), ll_q, ix_q (by omega) (by omega), ll_q, show (5 * (R : Int) + 2).toNat = 5 * R + 2 by omega, show (5 * (R : Int) + 3).toNat = 5 * R + 3 by omega, show (5 * (R : Int) + 4).toNat = 5 * R + 4 by omega]
  obtain ⟨τ12, e12⟩ : ∃ x, x = su (su (su τ 179 (5 * R + 2) 0) 179 (5 * R + 3) 0) 179 (5 * R + 4) 0 := ⟨_, rfl⟩
  rw [← e12]
  have P12 : PX c n 2 T q i σ τ12 := by rw [e12]; exact w9P (w9P (w9P h))
  have F12 : FW σ σ τ τ12 := by rw [e12]; exact (w9F.trans w9F).trans w9F
  have m12 : τ12 179 = up (up (up (up (up (τ0 179) (5 * R) v0) (5 * R + 1) v1) (5 * R + 2) 0) (5 * R + 3) 0) (5 * R + 4) 0 := by rw [e12, su_s, su_s, su_s, hm]
  obtain ⟨r, r1, r2⟩ := P12.wrd (w := 5) (by decide)
  have r1' : Re_isWord 5 σ = some r := r1
  rw [show (tkT 2).getD 5 1 = 14 from rfl] at r2
  rw [r1', b1_q]
  rcases r2 with ⟨r0, rt, -, -, hi⟩ | ⟨r0, rt, -⟩
  · subst r0
    rw [if_neg (by decide), if_pos rt]
    obtain ⟨σ3, τ3, g1, g2, g3, g4, g5, g6, g7⟩ := P12.nxw hi
    have p0 : σ3 142 2 = ((6 * R + 2 : Nat) : Int) := by rw [g5, h2]; omega
    have p1 : puS σ3 (6 * R + 2) 1 142 2 = ((6 * R + 3 : Nat) : Int) := by rw [puS_2]; omega
    have p2 : puS (puS σ3 (6 * R + 2) 1) (6 * R + 3) 0 142 2 = ((6 * R + 4 : Nat) : Int) := by rw [puS_2]; omega
    have p3 : puS (puS (puS σ3 (6 * R + 2) 1) (6 * R + 3) 0) (6 * R + 4) 0 142 2 = ((6 * R + 5 : Nat) : Int) := by rw [puS_2]; omega
    refine ⟨1, _, τ3, by rw [g1, b1_q, puB p0 (by omega), b1_q, puB p1 (by omega), b1_q, puB p2 (by omega), b1_q, puB p3 (by omega), b1_q], by rw [g2, b1_q], ((((F12.trans g4).trans puW).trans puW).trans puW).trans puW, .inr ⟨rfl, ⟨i + 1, by omega, puP (puP (puP (puP g3)))⟩, ?_⟩⟩
    have cc : puS (puS (puS (puS σ3 (6 * R + 2) 1) (6 * R + 3) 0) (6 * R + 4) 0) (6 * R + 5) 0 143 = up (up (up (up (up (up (σ0 143) (6 * R) v0) (6 * R + 1) v1) (6 * R + 2) 1) (6 * R + 3) 0) (6 * R + 4) 0) (6 * R + 5) 0 := by rw [puS_u, puS_u, puS_u, puS_u, g6, hc]
    refine SQ_s hQ (by rw [puS_2]; omega) (fun j hj => by rw [cc, up_n (by omega), up_n (by omega), up_n (by omega), up_n (by omega), up_n (by omega), up_n (by omega)]) (fun j hj => by rw [g7, m12, up_n (by omega), up_n (by omega), up_n (by omega), up_n (by omega), up_n (by omega)]) ?_
    unfold SQr
    rw [cc, g7, m12]
    have c0 : up (up (up (up (up (up (σ0 143) (6 * R) v0) (6 * R + 1) v1) (6 * R + 2) 1) (6 * R + 3) 0) (6 * R + 4) 0) (6 * R + 5) 0 (6 * R) = v0 := by rw [up_n (by omega), up_n (by omega), up_n (by omega), up_n (by omega), up_n (by omega), up_a]
    have c1 : up (up (up (up (up (up (σ0 143) (6 * R) v0) (6 * R + 1) v1) (6 * R + 2) 1) (6 * R + 3) 0) (6 * R + 4) 0) (6 * R + 5) 0 (6 * R + 1) = v1 := by rw [up_n (by omega), up_n (by omega), up_n (by omega), up_n (by omega), up_a]
    have c2 : up (up (up (up (up (up (σ0 143) (6 * R) v0) (6 * R + 1) v1) (6 * R + 2) 1) (6 * R + 3) 0) (6 * R + 4) 0) (6 * R + 5) 0 (6 * R + 2) = 1 := by rw [up_n (by omega), up_n (by omega), up_n (by omega), up_a]
    have m0 : up (up (up (up (up (τ0 179) (5 * R) v0) (5 * R + 1) v1) (5 * R + 2) 0) (5 * R + 3) 0) (5 * R + 4) 0 (5 * R) = v0 := by rw [up_n (by omega), up_n (by omega), up_n (by omega), up_n (by omega), up_a]
    have m1 : up (up (up (up (up (τ0 179) (5 * R) v0) (5 * R + 1) v1) (5 * R + 2) 0) (5 * R + 3) 0) (5 * R + 4) 0 (5 * R + 1) = v1 := by rw [up_n (by omega), up_n (by omega), up_n (by omega), up_a]
    have m2 : up (up (up (up (up (τ0 179) (5 * R) v0) (5 * R + 1) v1) (5 * R + 2) 0) (5 * R + 3) 0) (5 * R + 4) 0 (5 * R + 2) = 0 := by rw [up_n (by omega), up_n (by omega), up_a]
    rw [c0, c1, c2, m0, m1, m2]
    exact ⟨rfl, h0, rfl, h1, .inl ⟨rfl, rfl⟩⟩
  · subst r0
    rw [if_pos rfl, if_neg rt, puB (m := 6 * R + 2) (by rw [h2]; omega) (by omega), b1_q, b2_as]
    have P13 : PX c n 2 T q i (puS σ (6 * R + 2) 0) τ12 := puP P12
    have t1 := tdR P13 (w := 2) (m := 6 * R + 3) (pl := 5 * R + 2) (by decide) (by rw [puS_2]; omega) (by omega) (by omega) 1 99
    rw [show (((5 * R + 2 : Nat)) : Int) = 5 * (R : Int) + 2 by omega, show (tkT 2).getD 2 1 = 11 from rfl] at t1
    have F13 : FW σ (puS σ (6 * R + 2) 0) τ τ12 := F12.trans puW
    have big := RUN.seq t1 (fC := fun s => b2 (Re_takeWord 3 s) fun r20 σ21 => if r20 = 0 then some (0, σ21) else b2 (Re_takeNumber 0 9 σ21) fun r23 σ24 => if r23 = 0 then some (0, σ24) else b1 (Re_isWord 4 σ24) fun r26 => b1 (if r26 = 0 then some σ24 else b1 (Re_advance σ24) fun σ29 => some σ29) fun (σ28 : Sg) => b1 (if r26 = 0 then some 0 else some 1) fun (t31 : Int) => b1 (Sh_put 142 t31 σ28) fun σ32 => some (1, σ32)) (fM := fun s => b2 (Mo_told (5 * (R : Int) + 3) 12 0 9 s) fun r19 σ20 => if r19 = 0 then some (0, σ20) else if (σ20 172 18) = 13 then ix (5 * (R : Int) + 4) 80 (ll (su σ20 179 (5 * R + 4) 1) fun σ23 => b1 (Mo_next0 σ23) fun σ25 => some (1, σ25)) else some (1, σ20)) (Q' := fun σ' τ' => (∃ i', i ≤ i' ∧ PX c n 2 T q i' σ' τ') ∧ SQ (R + 1) σ' τ') (fun σ4 τ4 ⟨p1, u0, p2, p3, p4, p5, p6⟩ => by
      show RUN (b2 (Re_takeWord 3 σ4) _) _ σ4 τ4 _
      rw [b2_as]
      have t2 := tdR p1 (w := 3) (m := 6 * R + 4) (pl := 5 * R + 3) (by decide) (by rw [p4]; omega) (by omega) (by omega) 0 9
      rw [show (((5 * R + 3 : Nat)) : Int) = 5 * (R : Int) + 3 by omega, show (tkT 2).getD 3 1 = 12 from rfl] at t2
      refine RUN.seq t2 (fun σ5 τ5 ⟨s1, u1, s2, s3, s4, s5, s6⟩ => ?_)
      have b5 := s1.i4
      have cc5 : σ5 143 = up (up (up (up (up (σ0 143) (6 * R) v0) (6 * R + 1) v1) (6 * R + 2) 0) (6 * R + 3) u0) (6 * R + 4) u1 := by rw [s5, p5, puS_u, hc]
      have mm5 : τ5 179 = up (up (up (up (up (up (up (τ0 179) (5 * R) v0) (5 * R + 1) v1) (5 * R + 2) 0) (5 * R + 3) 0) (5 * R + 4) 0) (5 * R + 2) u0) (5 * R + 3) u1 := by rw [s6, p6, m12]
      have q5 : σ5 142 2 = ((6 * R + 5 : Nat) : Int) := by rw [s4]; omega
      have fin : ∀ (x : Int) (σ6 τ6 : Sg) (i6 : Nat), (x = 0 ∨ x = 1) → i ≤ i6 → PX c n 2 T q i6 σ6 τ6 → σ6 142 2 = ((6 * R + 5 : Nat) : Int) → σ6 143 = σ5 143 → (∀ j, j ≠ 5 * R + 4 → τ6 179 j = τ5 179 j) → τ6 179 (5 * R + 4) = x → (∃ i', i ≤ i' ∧ PX c n 2 T q i' (puS σ6 (6 * R + 5) x) τ6) ∧ SQ (R + 1) (puS σ6 (6 * R + 5) x) τ6 := by
        intro x σ6 τ6 i6 hx hi6 P6 q6 e6 o6 x6
        refine ⟨⟨i6, hi6, puP P6⟩, SQ_s hQ (by rw [puS_2]; omega) (fun j hj => by rw [puS_n (by omega), e6, cc5, up_n (by omega), up_n (by omega), up_n (by omega), up_n (by omega), up_n (by omega)]) (fun j hj => by rw [o6 j (by omega), mm5, up_n (by omega), up_n (by omega), up_n (by omega), up_n (by omega), up_n (by omega), up_n (by omega), up_n (by omega)]) ?_⟩
        have c0 : puS σ6 (6 * R + 5) x 143 (6 * R) = v0 := by rw [puS_n (by omega), e6, cc5, up_n (by omega), up_n (by omega), up_n (by omega), up_n (by omega), up_a]
        have c1 : puS σ6 (6 * R + 5) x 143 (6 * R + 1) = v1 := by rw [puS_n (by omega), e6, cc5, up_n (by omega), up_n (by omega), up_n (by omega), up_a]
        have c2 : puS σ6 (6 * R + 5) x 143 (6 * R + 2) = 0 := by rw [puS_n (by omega), e6, cc5, up_n (by omega), up_n (by omega), up_a]
        have c3 : puS σ6 (6 * R + 5) x 143 (6 * R + 3) = u0 := by rw [puS_n (by omega), e6, cc5, up_n (by omega), up_a]
        have c4 : puS σ6 (6 * R + 5) x 143 (6 * R + 4) = u1 := by rw [puS_n (by omega), e6, cc5, up_a]
        have c5 : puS σ6 (6 * R + 5) x 143 (6 * R + 5) = x := puS_m
        have m0 : τ6 179 (5 * R) = v0 := by rw [o6 _ (by omega), mm5, up_n (by omega), up_n (by omega), up_n (by omega), up_n (by omega), up_n (by omega), up_n (by omega), up_a]
        have m1 : τ6 179 (5 * R + 1) = v1 := by rw [o6 _ (by omega), mm5, up_n (by omega), up_n (by omega), up_n (by omega), up_n (by omega), up_n (by omega), up_a]
        have m2 : τ6 179 (5 * R + 2) = u0 := by rw [o6 _ (by omega), mm5, up_n (by omega), up_a]
        have m3 : τ6 179 (5 * R + 3) = u1 := by rw [o6 _ (by omega), mm5, up_a]
        unfold SQr
        rw [c0, c1, c2, c3, c4, c5, m0, m1, m2, m3, x6]
        exact ⟨rfl, h0, rfl, h1, .inr ⟨rfl, rfl, ⟨p2, p3⟩, rfl, ⟨s2, s3⟩, rfl, hx⟩⟩
      obtain ⟨r, r1, r2⟩ := (w9P (x := 5 * R + 4) (v := 1) s1).wrd (w := 4) (by decide)
      have r1' : Re_isWord 4 σ5 = some r := r1
      rw [show (tkT 2).getD 4 1 = 13 from rfl, su_c (by decide)] at r2
      unfold RUN
      rw [r1', b1_q]
      rcases r2 with ⟨r0, rt, -, -, hi⟩ | ⟨r0, rt, -⟩
      · subst r0
        obtain ⟨σ6, τ6, g1, g2, g3, g4, g5, g6, g7⟩ := (w9P (x := 5 * R + 4) (v := 1) s1).nxw hi
        have q6 : σ6 142 2 = ((6 * R + 5 : Nat) : Int) := by rw [g5]; exact q5
        refine ⟨1, puS σ6 (6 * R + 5) 1, τ6, ?_, ?_, (w9F.trans g4).trans puW, .inr ⟨rfl, fin 1 σ6 τ6 _ (.inr rfl) (by omega) g3 q6 g6 (fun j hj => by rw [g7, su_s, up_n hj]) (by rw [g7, su_s, up_a])⟩⟩
        · rw [if_neg (by decide), g1, b1_q, b1_q, if_neg (by decide), b1_q, puB q6 (by omega), b1_q]
        · rw [if_pos rt, ix_q (by omega) (by omega), ll_q, g2, b1_q]
      · subst r0
        refine ⟨1, puS σ5 (6 * R + 5) 0, τ5, ?_, ?_, puW, .inr ⟨rfl, fin 0 σ5 τ5 _ (.inl rfl) (by omega) s1 q5 rfl (fun _ _ => rfl) (by rw [mm5, up_n (by omega), up_n (by omega), up_a])⟩⟩
        · rw [if_pos rfl, b1_q, if_pos rfl, b1_q, puB q5 (by omega), b1_q]
        · rw [if_neg rt])
    obtain ⟨rr, σ3, τ3, x1, x2, x3, x4⟩ := big
    exact ⟨rr, σ3, τ3, x1, x2, F13.trans x3, x4⟩
theorem syQ {R : Nat} (h : PX c n 2 T q i σ τ) (h1 : σ 146 i = 1) (h2 : σ 147 i = 0) (hR : R < 16) (h15 : τ 172 15 = R) (hQ : SQ R σ τ) : RUN (b2 (Re_parseSaying σ) fun r s => if r = 0 then some (0, s) else Re_takeSign 59 s) (Mo_aRow τ) σ τ (fun σ' τ' => (∃ i', i < i' ∧ PX c n 2 T q i' σ' τ') ∧ SQ (R + 1) σ' τ') := by
  have h12 : τ 172 12 = 2 := h.2.2.1.2.2.1
  obtain ⟨q1, q2⟩ := hQ
  obtain ⟨σ1, a1, a2⟩ := td0 h h1 h2 (m := 6 * R) (pl := 5 * R) (by rw [q1]; omega) (by omega) (by omega) 0 9999
  have row : RUN (Re_parseSaying σ) (Mo_aSaying τ) σ τ (fun σ' τ' => (∃ i', i < i' ∧ PX c n 2 T q i' σ' τ') ∧ SQ (R + 1) σ' τ') := by
    unfold Re_parseSaying Mo_aSaying
    rw [a1, b1_q, h15, wr_q (n := 5 * (R : Int)) (by omega) (by omega), ll_q, wr_q (n := 5 * (R : Int) + 1) (by omega) (by omega), wr_q (n := 5 * (R : Int) + 2) (by omega) (by omega), wr_q (n := 5 * (R : Int) + 3) (by omega) (by omega)]
    rw [show (((5 * R : Nat)) : Int) = 5 * (R : Int) by omega, show (tkT 2).getD 0 1 = 10 from rfl] at a2
    refine RUN.seq a2 (fun σ3 τ3 ⟨p1, v0, p2, p3, p4, p5, p6⟩ => ?_)
    rw [b2_as]
    have b2' := tdR p1 (w := 1) (m := 6 * R + 1) (pl := 5 * R + 1) (by decide) (by rw [p4]; omega) (by omega) (by omega) 0 1
    rw [show (((5 * R + 1 : Nat)) : Int) = 5 * (R : Int) + 1 by omega, show (tkT 2).getD 1 1 = 7 from rfl] at b2'
    refine RUN.seq b2' (fun σ4 τ4 ⟨r1, v1, r2, r3, r4, r5, r6⟩ => ?_)
    exact (sy2 hR (σ0 := σ) (τ0 := τ) r1 (by rw [r4]; omega) (v0 := v0) (v1 := v1) ⟨p2, p3⟩ (by omega) (by rw [r5, p5]) (by rw [r6, p6]) q2).imp (fun σ5 τ5 ⟨⟨i', x1, x2⟩, x3⟩ => ⟨⟨i', by omega, x2⟩, x3⟩)
  unfold Mo_aRow
  rw [if_neg (by omega), if_pos h12]
  exact row.seq (fun σ6 τ6 ⟨⟨i', t1, t2⟩, t3⟩ => ((sgR t2).imp (fun σ7 τ7 ⟨u1, u2, u3, u4⟩ => ⟨⟨_, by omega, u1⟩, by unfold SQ at t3 ⊢; rw [u2, u3, u4]; exact t3⟩)).one)
end RowsS
