/-! deletes: the call -/
section Deletes3
/-- one set, on both sides -/
theorem de1 {σ τ : Sg} {w : Nat → Int} (h : Inv σ τ) (hw : ∀ j, j < 548 → τ 173 j = w j) (h176 : ∀ j, j < 548 → τ 176 j = w j) (h26 : τ 172 26 = 0) (h27 : τ 172 27 = -1) {one : Int} (ho : one = 0 ∨ one = 1) {n : Nat} (hn : w 3 = n) (hA : arF w one n (τ 183)) {many : Nat} (hmn : many = min 4 (cnF w one n)) {s : Nat} (hs : s < 2 ^ many) {m : Nat} (hm : 1 ≤ m ∧ m ≤ 300) (v6 v5 : Int) :
    ∃ σ1 σ2 σ3 τ2 τ3 τ4 x cr, Td_imagine σ = some σ1 ∧ Co_withdrawSet one (s : Int) σ1 = some σ2 ∧ Co_go (m : Int) σ2 = some σ3 ∧ Mo_deletes_120_w (many : Int) (s : Int) (m : Int) one v6 v5 0 τ = Mo_deletes_120_w (many : Int) (s : Int) (m : Int) one v6 v5 (many : Int) τ2 ∧ mnK some m 0 τ2 = some (x, τ3) ∧ Mo_putsBack τ3 = some τ4 ∧ Inv σ3 τ4 ∧ σ3 154 (1 - one).toNat = cr ∧ τ3 173 (5 - one).toNat = cr ∧ (0 ≤ cr ∧ cr ≤ 99) ∧ (∀ j, j < 548 → τ4 173 j = w j) ∧ (∀ j, j < 548 → τ4 176 j = w j) ∧ τ4 172 26 = 0 ∧ τ4 172 27 = -1 ∧ arF w one n (τ4 183) := by
  obtain ⟨σ1, i1, C1, i3⟩ := imC h h26 h27
  have T1 : TH σ1 τ := ⟨τ, h.scr (fun c hc => i3 c (by omega)) (by rw [i3 141 (by omega)]) (by rw [i3 141 (by omega)]) (by rw [i3 141 (by omega)]) (fun _ _ => rfl) (fun _ _ => rfl), fun j hj => by rw [h176 j hj, hw j hj], fun _ _ => rfl, fun _ _ => rfl, fun _ _ => rfl⟩
  have w0 := h.1.2.2.1
  have b60 := h.1.2.1.2.2.1
  have hn' : τ 173 3 = n := (hw 3 (by decide)).trans hn
  have h16 : s < 16 := by
    have : many ≤ 4 := by omega
    have : 2 ^ many ≤ 2 ^ 4 := Nat.pow_le_pow_right (by decide) this
    omega
  obtain ⟨σ2, τ2, d1, d2, C2, F2, d5⟩ := dlW ho (w0 := w) (n := n) (many := many) (s := s) (by omega) hmn hs h16 (m : Int) v6 v5 n 0 σ1 τ (by omega) C1 hn' (fun j f a b c => hw _ (by omega)) hA
  have e0 : min many (cnF w one 0) = 0 := by show min many 0 = 0; omega
  rw [e0] at d1 d2
  rw [show s / 2 ^ 0 = s by omega] at d1
  obtain ⟨σ3, τ3, g1, g2, C3, F3, I3, g6⟩ := C2.go (okE (τ2 172) (τ2 175)) ⟨rfl, rfl⟩ (n := m) (by omega) (by rw [d5]; omega) 0
  have T2 := thSt T1 F2.x (by rw [F2.2.2.1 172 (by decide) (by decide) (by decide)]) (F2.2.2.1 175 (by decide) (by decide) (by decide))
  have T3 := thSt T2 F3 (by rw [I3.1]) I3.2
  obtain ⟨τ4, p1, p2, p3, p4⟩ := thBk T3
  have e176 : τ3 176 = τ 176 := (F3.2.2.1 176 (by decide) (by decide) (by decide) (by decide) (by decide)).trans (F2.2.2.1 176 (by decide) (by decide) (by decide))
  have e172 : τ4 172 = τ 172 := (p3 172 (by decide)).trans (I3.1.trans (F2.2.2.1 172 (by decide) (by decide) (by decide)))
  have e183 : τ4 183 = τ 183 := (p3 183 (by decide)).trans ((F3.2.2.1 183 (by decide) (by decide) (by decide) (by decide) (by decide)).trans (F2.2.2.1 183 (by decide) (by decide) (by decide)))
  have cx' := C3.TR.2.2.2.2.2.2.1 (1 - one).toNat (by omega)
  have cw := C3.WF.2.2.2.1 (1 - one).toNat (by omega)
  refine ⟨σ1, σ2, σ3, τ2, τ3, τ4, _, τ3 173 (4 + (1 - one).toNat), i1, d1, g1, d2, g2, p1, p2, cx'.1, ?_, cw.1, fun j hj => ?_, fun j hj => ?_, by rw [e172]; exact h26, by rw [e172]; exact h27, by rw [e183]; exact hA⟩
  · rw [show (5 - one).toNat = 4 + (1 - one).toNat by omega]
  · rw [p4 j hj, e176]; exact h176 j hj
  · rw [p3 176 (by decide), e176]; exact h176 j hj
theorem p_deletes {σ τ : Sg} (h : Inv σ τ) (a b c : Int) : Same2 (Td_deletes a b c σ) (Mo_deletes a b c τ) := by
  unfold Td_deletes Mo_deletes
  rw [isOneC_q, isOneM_q, b1_q, b1_q]
  by_cases ha : a = 0 ∨ a = 1
  · rw [if_pos ha, i10, i10, within_q, isIn_q, b1_q, b1_q]
    by_cases hb : 1 ≤ b ∧ b ≤ 300
    · rw [if_pos hb, i10, i10, within_q, isIn_q, b1_q, b1_q]
      by_cases hc : 0 ≤ c ∧ c ≤ 1
      · rw [if_pos hc, i10, i10]
        obtain ⟨m, hm⟩ := Int.eq_ofNat_of_zero_le (show 0 ≤ b by omega)
        have hm : b = (m : Int) := hm
        subst hm
        obtain ⟨hT, hW, -⟩ := h.1
        obtain ⟨n, hn⟩ := Int.eq_ofNat_of_zero_le hW.2.2.1.1
        have hn : τ 173 3 = (n : Int) := hn
        have b60 := hW.2.2.1
        obtain ⟨τ1, a1, a2, a3, a4, a5, a6⟩ := asM (τ := τ)
        have e173 : τ1 173 = τ 173 := a3 173 (by decide) (by decide)
        have op : Ta_openOf 2 a σ = some (cnF (τ 173) a n : Int) := opC hT hW hn n 0 (by omega)
        obtain ⟨τ2, f1, f2, f3⟩ := fsM a (m : Int) c hW hn n 0 τ1 (by omega) e173 (fun j hj => (by omega))
        have e0 : Mo_deletes_39_w a (m : Int) c 0 0 τ1 = Mo_deletes_39_w a (m : Int) c ((min 4 (cnF (τ 173) a 0) : Nat) : Int) ((0 : Nat) : Int) τ1 := rfl
        obtain ⟨many, hmany⟩ : ∃ x, x = min 4 (cnF (τ 173) a n) := ⟨_, rfl⟩
        rw [← hmany] at f1
        have hm4 : many < 5 := by omega
        have I2 : Inv σ τ2 := h.scr (fun _ _ => rfl) rfl rfl rfl (fun k hk => by rw [f3 k (by omega), a3 k (by omega) (by omega)]) (fun j hj => by rw [f3 172 (by decide), a6 j (by omega) (by omega)])
        have key := wl_two (B := fun p : Int × Int × Int × Sg => Td_deletes_59_b ((2 ^ many : Nat) : Int) a (m : Int) c p.1 p.2.1 p.2.2.1 p.2.2.2) (B' := fun p : Int × Int × Int × Sg => Mo_deletes_108_b (many : Int) (m : Int) a c p.1 p.2.1 p.2.2.1 p.2.2.2) (fun p => (((2 ^ many : Nat) : Int) - p.2.2.1).toNat)
          (fun p q => p.2.2.1 = q.2.2.1 ∧ (∃ s : Nat, p.2.2.1 = s ∧ s ≤ 2 ^ many) ∧ Inv p.2.2.2 q.2.2.2 ∧ (∀ j, j < 548 → q.2.2.2 173 j = τ 173 j) ∧ (∀ j, j < 548 → q.2.2.2 176 j = τ 173 j) ∧ q.2.2.2 172 26 = 0 ∧ q.2.2.2 172 27 = -1 ∧ arF (τ 173) a n (q.2.2.2 183) ∧ ((p.2.2.1 = 0 ∧ p.1 = 1000 ∧ p.2.1 = 0 ∧ q.1 = -1 ∧ q.2.1 = 100000000) ∨ (p.1 = q.2.1 ∧ p.2.1 = q.1 ∧ ∃ bb : Nat, p.2.1 = bb ∧ bb < 16)))
          (fun r r' => ∃ x σ' τ', r = (x, σ') ∧ r' = .inr (x, τ') ∧ Inv σ' τ')
          (fun ⟨least, best, set, σ⟩ ⟨best', least', set', τx⟩ ⟨e1, ⟨s, e2, e2'⟩, e3, e4, e5, e6, e7, e8, e9⟩ => by
            dsimp only at e1 e2 e3 e4 e5 e6 e7 e8 e9 ⊢
            subst e1 e2
            have p16 : 2 ^ many ≤ 16 := by
              have : 2 ^ many ≤ 2 ^ 4 := Nat.pow_le_pow_right (by decide) (by omega)
              omega
            by_cases hs : s < 2 ^ many
            · right
              obtain ⟨σ1, σ2, σ3, τ2, τ3, τ4, x, cr, k1, k2, k3, k4, k5, k6, k7, k8, k9, k10, k11, k12, k13, k14, k15⟩ := de1 e3 e4 e5 e6 e7 ha hn e8 hmany hs (m := m) (by omega) least' best'
              have loop : Mo_deletes_156_w (m : Int) a least' (s : Int) best' 0 τ2 = Mo_deletes_156_w (m : Int) a least' (s : Int) best' (m : Int) τ3 := mnL (B := fun p => Mo_deletes_156_b (m : Int) a least' (s : Int) best' p.1 p.2) (n := m) (by omega) (fun k τ hk => by
                show Mo_deletes_156_b (m : Int) a least' (s : Int) best' (k : Int) τ = _
                unfold Mo_deletes_156_b
                rw [if_pos (by omega)]) m 0 0 _ _ τ3 (by omega) k5
              have pcs := pcC s (by omega)
              have pms := pcM (s := s) (by omega)
              -- what the class makes of it
              have cls : ∀ bb : Nat, best = bb → bb < 16 → Td_deletes_59_b ((2 ^ many : Nat) : Int) a (m : Int) c least best (s : Int) σ = some (.inl (if cr < least ∨ (cr = least ∧ pcF s < pcF bb) then (cr, (s : Int), (s : Int) + 1, σ3) else (least, best, (s : Int) + 1, σ3))) := fun bb hbb hb16 => by
                unfold Td_deletes_59_b
                rw [if_pos (by omega), k1, b1_q, k2, b1_q, k3, b1_q, ix_q (by omega) (by omega), k8, ll_q, pcs, b1_q, hbb, pcC bb hb16, b1_q, wr_q (by omega) (by omega)]
                have t : (if pcF s < pcF bb then some (1 : Int) else some 0) = some (if pcF s < pcF bb then 1 else 0) := by split <;> rfl
                rw [t, b1_q]
                by_cases z1 : cr < least
                · rw [if_pos z1, if_pos (.inl z1), ll_q]
                · rw [if_neg z1]
                  by_cases z2 : cr = least
                  · rw [if_pos z2]
                    by_cases z3 : pcF s < pcF bb
                    · rw [if_pos z3, if_neg (show ¬ (1 : Int) = 0 by decide), if_pos (.inr ⟨z2, z3⟩), ll_q]
                    · rw [if_neg z3, if_pos (show (0 : Int) = 0 from rfl), if_neg (by omega), ll_q]
                  · rw [if_neg z2, if_neg (by omega), ll_q]
              have ref : ∀ y, Mo_deletes_156_w (m : Int) a least' (s : Int) best' (m : Int) τ3 = some (.inr (.inl y)) → Mo_deletes_108_b (many : Int) (m : Int) a c best' least' (s : Int) τx = some (.inl y) := fun y hy => by
                unfold Mo_deletes_108_b
                rw [bsh5 many hm4, if_pos (by omega), k4]
                refine wl_end ?_
                show Mo_deletes_120_b (many : Int) (s : Int) (m : Int) a least' best' (many : Int) τ2 = _
                unfold Mo_deletes_120_b
                rw [if_neg (by omega), loop, hy]
              rcases e9 with ⟨z1, z2, z3, z4, z5⟩ | ⟨z1, z2, bb, z3, z4⟩
              · have c1 := cls 0 (by omega) (by decide)
                rw [if_pos (.inl (by omega))] at c1
                have r1 : Mo_deletes_156_w (m : Int) a least' (s : Int) best' (m : Int) τ3 = some (.inr (.inl ((s : Int), cr, (s : Int) + 1, τ4))) := by
                  refine wl_end ?_
                  show Mo_deletes_156_b (m : Int) a least' (s : Int) best' (m : Int) τ3 = _
                  unfold Mo_deletes_156_b
                  rw [if_neg (by omega), ix_q (by omega) (by omega), k9, ll_q, k6, b1_q, if_neg (by omega), if_neg (by omega), wr_q (by omega) (by omega), ll_q]
                exact ⟨_, _, c1, ref _ r1, ⟨rfl, ⟨s + 1, by dsimp only; omega, by omega⟩, k7, k11, k12, k13, k14, k15, .inr ⟨rfl, rfl, s, rfl, by omega⟩⟩, by dsimp only; omega⟩
              · have c1 := cls bb z3 z4
                have r1 : Mo_deletes_156_w (m : Int) a least' (s : Int) best' (m : Int) τ3 = some (.inr (.inl (if cr < least ∨ (cr = least ∧ pcF s < pcF bb) then ((s : Int), cr, (s : Int) + 1, τ4) else (best', least', (s : Int) + 1, τ4)))) := by
                  refine wl_end ?_
                  show Mo_deletes_156_b (m : Int) a least' (s : Int) best' (m : Int) τ3 = _
                  unfold Mo_deletes_156_b
                  rw [if_neg (by omega), ix_q (by omega) (by omega), k9, ll_q, k6, b1_q, wr_q (by omega) (by omega)]
                  by_cases y1 : cr < least
                  · rw [if_neg (by omega), if_neg (by omega), if_pos (.inl y1), ll_q]
                  · by_cases y2 : cr = least
                    · rw [if_neg (by omega), if_pos (by omega), if_neg (by omega), pms, b1_q, show best' = (bb : Int) by omega, pcM z4, b1_q]
                      by_cases y3 : pcF s < pcF bb
                      · rw [if_pos y3, if_pos (.inr ⟨y2, y3⟩), ll_q]
                      · rw [if_neg y3, if_neg (by omega), ll_q]
                    · rw [if_pos (by omega), if_neg (by omega), ll_q]
                by_cases y : cr < least ∨ (cr = least ∧ pcF s < pcF bb)
                · rw [if_pos y] at c1 r1
                  exact ⟨_, _, c1, ref _ r1, ⟨rfl, ⟨s + 1, by dsimp only; omega, by omega⟩, k7, k11, k12, k13, k14, k15, .inr ⟨rfl, rfl, s, rfl, by omega⟩⟩, by dsimp only; omega⟩
                · rw [if_neg y] at c1 r1
                  exact ⟨_, _, c1, ref _ r1, ⟨rfl, ⟨s + 1, by dsimp only; omega, by omega⟩, k7, k11, k12, k13, k14, k15, .inr ⟨z1, z2, bb, z3, z4⟩⟩, by dsimp only; omega⟩
            · left
              have p1 : 1 ≤ 2 ^ many := Nat.one_le_two_pow
              have e9' : least = least' ∧ best = best' := by
                rcases e9 with z | z
                · omega
                · exact ⟨z.1, z.2.1⟩
              obtain ⟨q1, q2⟩ := e9'
              subst q1 q2
              refine ⟨(if c = 0 then least else best, σ), .inr (if c = 0 then least else best, τx), ?_, ?_, _, _, _, rfl, rfl, e3⟩
              · unfold Td_deletes_59_b
                rw [if_neg (by omega)]
                by_cases z : c = 0
                · rw [if_pos z, if_pos z]
                · rw [if_neg z, if_neg z]
              · unfold Mo_deletes_108_b
                rw [bsh5 many hm4, if_neg (by omega)]
                by_cases z : c = 0
                · rw [if_pos z, if_pos z]
                · rw [if_neg z, if_neg z]) (1000, 0, 0, σ) (-1, 100000000, 0, τ2) ⟨rfl, ⟨0, rfl, Nat.zero_le _⟩, I2, fun j hj => by dsimp only; rw [f3 173 (by decide), e173], fun j hj => by dsimp only; rw [f3 176 (by decide), a2 j hj], by dsimp only; rw [f3 172 (by decide)]; exact a4, by dsimp only; rw [f3 172 (by decide)]; exact a5, f2, .inl ⟨rfl, rfl, rfl, rfl, rfl⟩⟩
        obtain ⟨r, r', h1, h2, x, σ', τ', rfl, rfl, h4⟩ := key
        refine ⟨x, σ', τ', ?_, ?_, h4⟩
        · rw [op, b1_q, min_q, b1_q, show min 4 (cnF (τ 173) a n : Int) = ((many : Nat) : Int) by omega, bsh5 many hm4, ll_q]
          exact h1
        · rw [a1, b1_q, e0, f1, show Mo_deletes_108_w (many : Int) (m : Int) a c (-1) 100000000 0 τ2 = some (.inr (x, τ')) from h2]
          rfl
      · rw [if_neg hc, i00, i00]; exact ⟨_, _, _, rfl, rfl, h⟩
    · rw [if_neg hb, i00, i00]; exact ⟨_, _, _, rfl, rfl, h⟩
  · rw [if_neg ha, i00, i00]; exact ⟨_, _, _, rfl, rfl, h⟩
end Deletes3
