/-! ease -/
section Ease
/-- one pace, on both sides -/
theorem ea1 {σ τ : Sg} (h : Inv σ τ) {one pace : Int} (ho : one = 0 ∨ one = 1) (hp : 1 ≤ pace ∧ pace ≤ 256) {n : Nat} (hn : 1 ≤ n ∧ n ≤ 300) : ∃ σ1 σ2 σ3 τ1 τ2 τ3 x c, Td_imagine σ = some σ1 ∧ Co_keepPace one pace σ1 = some σ2 ∧ Co_go (n : Int) σ2 = some σ3 ∧ Mo_laysAside τ = some τ1 ∧ mnK some n 0 (su (su τ1 172 27 one) 172 28 pace) = some (x, τ2) ∧ Mo_putsBack τ2 = some τ3 ∧ Inv σ3 τ3 ∧ Ta_crossTogether 153 σ3 = some c ∧ wr (τ2 173 4 + τ2 173 5) = c ∧ 0 ≤ c ∧ c ≤ 198 := by
  obtain ⟨σ1, τ1, i1, i2, C1, T1, e173⟩ := thIm h
  have w0 := h.1.2.2.1
  have ec : ∀ c, c ≠ 152 → su (su σ1 152 4 one) 152 5 pace c = σ1 c := fun c hc => by rw [su_c hc, su_c hc]
  have em : ∀ c, c ≠ 172 → su (su τ1 172 27 one) 172 28 pace c = τ1 c := fun c hc => by rw [su_c hc, su_c hc]
  have C2 : CR 153 1 (su (su σ1 152 4 one) 152 5 pace) (su (su τ1 172 27 one) 172 28 pace) := by
    obtain ⟨c1, c2, c3, c4, c5, c6, c7⟩ := C1
    have g3 := em 173 (by decide)
    refine ⟨c1, ⟨?_, ?_, ?_, ?_, .inr ⟨?_, ?_, ?_⟩⟩, ?_, by rw [g3]; exact c4, fun j hj => by rw [g3, ec _ (by decide)]; exact c5 j hj, ?_, fun z => by omega⟩
    · rw [su_s, up_n (by decide), su_s, up_n (by decide)]; exact c2.1
    · rw [su_s, up_n (by decide), su_s, up_n (by decide)]; exact c2.2.1
    · rw [su_s, up_n (by decide), su_s, up_n (by decide)]; exact c2.2.2.1
    · rw [su_s, up_n (by decide), su_s, up_a, su_s, up_n (by decide), su_s, up_a]
    · rw [su_s, up_a, su_s, up_a]
    · rw [su_s, up_a]; omega
    · rw [su_s, up_a]; omega
    · rw [g3]; exact TR.agr c3 c4.2.2.1 (fun k a b _ => ec k (by omega)) (fun _ _ _ => rfl)
    · rw [g3]; exact WS.agr c6 (fun _ _ _ => rfl) (fun _ _ _ => rfl) (fun k hk => ec k (by omega)) (by rw [ec 1 (by decide)])
  have F1 : FX 153 σ1 (su (su σ1 152 4 one) 152 5 pace) τ1 τ1 → True := fun _ => trivial
  obtain ⟨σ3, τ2, g1, g2, C3, F3, I3, g6⟩ := C2.go (okE (su (su τ1 172 27 one) 172 28 pace 172) (su (su τ1 172 27 one) 172 28 pace 175)) ⟨rfl, rfl⟩ (n := n) (by omega) (by rw [em 173 (by decide), e173]; omega) 0
  have T2 : TH (su (su σ1 152 4 one) 152 5 pace) (su (su τ1 172 27 one) 172 28 pace) := by
    obtain ⟨τ0, t1, t2, t3, t4, t5⟩ := T1
    refine ⟨τ0, t1.scr (fun c hc => ec c (by omega)) (by rw [ec 141 (by decide)]) (by rw [ec 141 (by decide)]) (by rw [ec 141 (by decide)]) (fun _ _ => rfl) (fun _ _ => rfl), fun j hj => by rw [em 176 (by decide)]; exact t2 j hj, fun j hj => by rw [em 173 (by decide)]; exact t3 j hj, fun c hc => by rw [em c (by omega)]; exact t4 c hc, fun j hj => by rw [su_s, up_n (by omega), su_s, up_n (by omega)]; exact t5 j hj⟩
  have T3 := thSt T2 F3 (by rw [I3.1]) I3.2
  obtain ⟨τ3, p1, p2, -, -⟩ := thBk T3
  have x0 := C3.TR.2.2.2.2.2.2.1 0 (by decide)
  have x1 := C3.TR.2.2.2.2.2.2.1 1 (by decide)
  have y0 := C3.WF.2.2.2.1 0 (by decide)
  have y1 := C3.WF.2.2.2.1 1 (by decide)
  rw [show (4 + 0 : Nat) = 4 from rfl] at x0 y0
  rw [show (4 + 1 : Nat) = 5 from rfl] at x1 y1
  refine ⟨σ1, _, σ3, τ1, τ2, τ3, _, wr (τ2 173 4 + τ2 173 5), i1, ?_, g1, i2, g2, p1, p2, ?_, rfl, ?_, ?_⟩
  · unfold Co_keepPace
    rw [ll_q, ll_q]
  · unfold Ta_crossTogether
    rw [x0.1, x1.1]
  · rw [wr_q (by omega) (by omega)]; omega
  · rw [wr_q (by omega) (by omega)]; omega
theorem p_ease {σ τ : Sg} (h : Inv σ τ) (a b c : Int) : Same2 (Td_ease a b c σ) (Mo_ease a b c τ) := by
  unfold Td_ease Mo_ease
  rw [isOneC_q, isOneM_q, b1_q, b1_q]
  by_cases ha : a = 0 ∨ a = 1
  · rw [if_pos ha, i10, i10, within_q, isIn_q, b1_q, b1_q]
    by_cases hb : 1 ≤ b ∧ b ≤ 300
    · rw [if_pos hb, i10, i10, within_q, isIn_q, b1_q, b1_q]
      by_cases hc : 0 ≤ c ∧ c ≤ 1
      · rw [if_pos hc, i10, i10]
        obtain ⟨n, hn⟩ := Int.eq_ofNat_of_zero_le (show 0 ≤ b by omega)
        have hn : b = (n : Int) := hn
        subst hn
        have key := wl_two (B := fun p : Int × Int × Int × Sg => Td_ease_40_b c a (n : Int) p.1 p.2.1 p.2.2.1 p.2.2.2) (B' := fun p : Int × Int × Int × Sg => Mo_ease_40_b c a (n : Int) p.1 p.2.1 p.2.2.1 p.2.2.2) (fun p => (512 - p.2.2.1).toNat)
          (fun p q => p.2.2.1 = q.2.2.1 ∧ (1 ≤ p.2.2.1 ∧ p.2.2.1 ≤ 512) ∧ Inv p.2.2.2 q.2.2.2 ∧ p.2.1 = q.1 ∧ ((p.1 = 1000 ∧ q.2.1 = 100000000 ∧ p.2.2.1 = 1) ∨ p.1 = q.2.1))
          (fun r r' => r.1 = r'.1 ∧ Inv r.2 r'.2)
          (fun ⟨least, best, pace, σ⟩ ⟨best', least', pace', τ⟩ ⟨e1, e2, e3, e4, e5⟩ => by
            dsimp only at e1 e2 e3 e4 e5 ⊢
            subst e1 e4
            by_cases hp : 256 < pace
            · left
              have e5' : least = least' := by
                rcases e5 with z | z
                · omega
                · exact z
              subst e5'
              have hI : Inv σ (su τ 172 27 (-1)) := e3.scr (fun _ _ => rfl) rfl rfl rfl (fun k hk => su_c (by omega)) (fun j hj => by rw [su_s, up_n (by omega)])
              refine ⟨(if c = 0 then best else least, σ), (if c = 0 then best else least, su τ 172 27 (-1)), ?_, ?_, rfl, hI⟩
              · unfold Td_ease_40_b
                rw [if_pos hp]
                by_cases z : c = 0
                · rw [if_pos z, if_pos z]
                · rw [if_neg z, if_neg z]
              · unfold Mo_ease_40_b
                rw [if_pos hp, ll_q]
                by_cases z : c = 0
                · rw [if_pos z, if_pos z]
                · rw [if_neg z, if_neg z]
            · right
              obtain ⟨σ1, σ2, σ3, τ1, τ2, τ3, x, cr, i1, i2, i3, m1, m2, m3, I3, cc, cm, cr1, cr2⟩ := ea1 e3 ha (pace := pace) (by omega) (n := n) (by omega)
              have loop : Mo_ease_66_w (n : Int) least' pace best 0 (su (su τ1 172 27 a) 172 28 pace) = Mo_ease_66_w (n : Int) least' pace best (n : Int) τ2 := mnL (B := fun p => Mo_ease_66_b (n : Int) least' pace best p.1 p.2) (n := n) (by omega) (fun k τ hk => by
                show Mo_ease_66_b (n : Int) least' pace best (k : Int) τ = _
                unfold Mo_ease_66_b
                rw [if_pos (by omega)]) n 0 0 _ _ τ2 (by omega) m2
              have last : Mo_ease_66_w (n : Int) least' pace best (n : Int) τ2 = some (.inl (if cr < least' then pace else best, if cr < least' then cr else least', pace * 2, τ3)) := by
                refine wl_end ?_
                show Mo_ease_66_b (n : Int) least' pace best (n : Int) τ2 = _
                unfold Mo_ease_66_b
                rw [if_neg (by omega), cm, ll_q, m3, b1_q, wr_q (by omega) (by omega)]
                by_cases z : cr < least'
                · rw [if_pos z, if_pos z, if_pos z, ll_q]
                · rw [if_neg z, if_neg z, if_neg z, ll_q]
              refine ⟨(if cr < least then cr else least, if cr < least then pace else best, pace * 2, σ3), (if cr < least' then pace else best, if cr < least' then cr else least', pace * 2, τ3), ?_, ?_, ⟨rfl, by dsimp only; omega, I3, ?_, .inr ?_⟩, by dsimp only; omega⟩
              · unfold Td_ease_40_b
                rw [if_neg hp, i1, b1_q, i2, b1_q, i3, b1_q, cc, b1_q, wr_q (by omega) (by omega)]
                by_cases z : cr < least
                · rw [if_pos z, if_pos z, if_pos z, b1_q, ll_q]
                · rw [if_neg z, if_neg z, if_neg z, ll_q]
              · unfold Mo_ease_40_b
                rw [if_neg hp, m1, b1_q, ll_q, ll_q, loop, last]
              · dsimp only
                rcases e5 with ⟨z1, z2, z3⟩ | z
                · rw [if_pos (by omega), if_pos (by omega)]
                · rw [z]
              · dsimp only
                rcases e5 with ⟨z1, z2, z3⟩ | z
                · rw [if_pos (by omega), if_pos (by omega)]
                · rw [z]) (1000, -1, 1, σ) (-1, 100000000, 1, τ) ⟨rfl, by dsimp only; omega, h, rfl, .inl ⟨rfl, rfl, rfl⟩⟩
        obtain ⟨⟨r, σ'⟩, ⟨r', τ'⟩, h1, h2, h3, h4⟩ := key
        dsimp only at h3 h4
        subst h3
        exact ⟨r, σ', τ', h1, h2, h4⟩
      · rw [if_neg hc, i00, i00]; exact ⟨_, _, _, rfl, rfl, h⟩
    · rw [if_neg hb, i00, i00]; exact ⟨_, _, _, rfl, rfl, h⟩
  · rw [if_neg ha, i00, i00]; exact ⟨_, _, _, rfl, rfl, h⟩
end Ease
