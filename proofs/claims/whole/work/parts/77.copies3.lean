/-! copies: the call -/
section Copies3
variable {σ τ : Sg}
theorem p_copies (h : Inv σ τ) (a b c : Int) : Same2 (Td_copies a b c σ) (Mo_copies a b c τ) := by
  unfold Td_copies Mo_copies
  rw [within_q, within_q, within_q, isIn_q, isIn_q, isIn_q]
  simp only [b1_q]
  by_cases ha : 0 ≤ a ∧ a ≤ 999
  · rw [if_pos ha, i10, i10]
    by_cases hb : 1 ≤ b ∧ b ≤ 99
    · rw [if_pos hb, i10, i10]
      by_cases hc : 0 ≤ c ∧ c ≤ 2
      · rw [if_pos hc, i10, i10, ll_q]
        have hI0 : Inv σ (su τ 184 0 a) := h.scr (fun _ _ => rfl) rfl rfl rfl (fun k hk => su_c (by omega)) (fun j _ => by rw [su_c (by decide)])
        have key := wl_two (B := fun p : Int × Int × Int × Sg => Td_copies_41_b c b p.1 p.2.1 p.2.2.1 p.2.2.2) (B' := fun p : Int × Int × Int × Int × Sg => Mo_copies_51_b c b p.1 p.2.1 p.2.2.1 p.2.2.2.1 p.2.2.2.2) (fun p => (61 - p.2.2.1).toNat) (fun p q => p.1 = q.1 ∧ p.2.2.1 = q.2.2.2.1 ∧ Inv p.2.2.2 q.2.2.2.2 ∧ ∃ k : Nat, p.2.2.1 = k ∧ 1 ≤ k ∧ k ≤ 61 ∧ p.2.1 = q.2.2.2.2 184 (k - 1) ∧ (∀ j, 1 ≤ j → j < k → p.2.2.2 171 j = q.2.2.2.2 184 j) ∧ fndR (q.2.2.2.2 184) q.2.1 q.2.2.1 k) (fun r r' => r.1 = r'.1 ∧ Inv r.2 r'.2) (by
          rintro ⟨x, y, k0, σ1⟩ ⟨x', f, g, k', τ1⟩ ⟨e1, e2, hI, k, e3, k1, k61, e4, e5, e6⟩
          dsimp only at e1 e2 hI e3 e4 e5 e6 ⊢
          subst e1; subst e2; subst e3
          unfold Td_copies_41_b Mo_copies_51_b
          by_cases h60 : 60 < (k : Int)
          · left
            have hk : k = 61 := by omega
            subst hk
            have e6' : fndR (σ1 171) f g 61 := fndR_ag e5 e6
            rw [if_pos h60, if_pos h60]
            by_cases c2 : c = 2
            · rw [if_pos c2, if_neg (by omega), if_neg (by omega)]; exact ⟨_, _, rfl, rfl, rfl, hI⟩
            · rw [if_neg c2, fndC c (by omega) e6', b1_q]
              by_cases c0 : c = 0
              · rw [if_pos c0, if_pos c0]; exact ⟨_, _, rfl, rfl, rfl, hI⟩
              · rw [if_neg c0, if_neg c0, if_pos (by omega)]; exact ⟨_, _, rfl, rfl, rfl, hI⟩
          · right
            rw [if_neg h60, if_neg h60, wr_q (n := (k : Int) - 1) (by omega) (by omega)]
            obtain ⟨σ2, σ3, τ2, s1, s2, s3, s4, s5, s6, s7⟩ := turnJ hI (odd_in (k := (k : Int)) (by omega)) b 0 0
            have ek : ((k : Int) - 1).toNat = k - 1 := by omega
            rw [s1, s3, b1_q, b1_q, s2, b1_q, ll_q, ix_q (i := (k : Int) - 1) (by omega) (by omega), ll_q, ek, s7 184 (by decide), ← e4]
            have hI2 : Inv (su σ3 150 2 y) (su τ2 182 3 y) := s4.scr (fun k hk => su_c (by omega)) (by rw [su_c (by decide)]) (by rw [su_c (by decide)]) (by rw [su_c (by decide)]) (fun k hk => su_c (by omega)) (fun j _ => by rw [su_c (by decide)])
            obtain ⟨-, -, -, hL, -⟩ := hI2.parts
            have s5' : ∀ j, j < 10 → su σ3 150 2 y 150 j = su τ2 182 3 y 182 (j + 1) := by
              intro j hj
              rw [su_s, su_s]
              by_cases j2 : j = 2
              · rw [j2, up_a, up_a]
              · rw [up_n (by omega), up_n (by omega)]; exact s5 j hj
            obtain ⟨σ4, t1, t2⟩ := tvC (F := su τ2 182 3 y 182) hL s5' (word := 0) (by decide)
            obtain ⟨τ3, u1, u2⟩ := (tvM hL).1
            have hI3 := hI2.told2 t2 u2
            rw [t1, u1, b2_q, b2_q]
            generalize tvF (su τ2 182 3 y 173) (su τ2 182 3 y 182) 0 = v
            rw [ix_q (i := (k : Int)) (by omega) (by omega), ix_q (i := (k : Int)) (by omega) (by omega)]
            simp only [ll_q, Int.toNat_natCast]
            rw [ix_q (i := (k : Int)) (by omega) (by omega), su_s, up_a]
            have em : Jm_max x v = some (if x < v then v else x) := by unfold Jm_max; split <;> rfl
            have eg : Mo_greater x v = some (if x < v then v else x) := by
              unfold Mo_greater
              by_cases z : x < v
              · rw [if_neg (by omega), if_pos z]
              · rw [if_neg z]
                by_cases z2 : v < x
                · rw [if_pos z2]
                · rw [if_neg z2, show v = x by omega]
            rw [em, eg, b1_q, b1_q, wr_q (by omega) (by omega)]
            have o171 : σ4 171 = σ1 171 := by rw [t2.1 171 (by decide) (by decide), su_c (by decide), s6 171 (by decide)]
            have o184 : τ3 184 = τ1 184 := by rw [u2 184 (by decide), su_c (by decide), s7 184 (by decide)]
            have hI4 : Inv (su σ4 171 k v) (su τ3 184 k v) := hI3.scr (fun k hk => su_c (by omega)) (by rw [su_c (by decide)]) (by rw [su_c (by decide)]) (by rw [su_c (by decide)]) (fun k hk => su_c (by omega)) (fun j _ => by rw [su_c (by decide)])
            have e6' : fndR (su τ3 184 k v 184) f g k := fndR_ag (fun z _ z2 => by rw [su_s, up_n (by omega), o184]) e6
            obtain ⟨f', g', m1, m2⟩ := fndM (τ := su τ3 184 k v) (if x < v then v else x) (i := k) ⟨k1, by omega⟩ e6'
            rw [m1]
            refine ⟨_, _, rfl, rfl, ⟨rfl, rfl, hI4, k + 1, by dsimp only; omega, by omega, by omega, ?_, fun j j1 j2 => ?_, m2⟩, by dsimp only; omega⟩
            · dsimp only
              rw [su_s, show k + 1 - 1 = k by omega, up_a]
            · dsimp only
              rw [su_s, su_s]
              by_cases jk : j = k
              · rw [jk, up_a, up_a]
              · rw [up_n jk, up_n jk, o171, o184]; exact e5 j j1 (by omega)) (0, a, 1, σ) (0, -1, -1, 1, su τ 184 0 a) ⟨rfl, rfl, hI0, 1, rfl, by omega, by omega, by dsimp only; rw [su_s]; exact up_a.symm, fun j j1 j2 => (by omega), .inl ⟨rfl, rfl, fun x y hx hxy => (by unfold rpt at hxy; omega)⟩⟩
        obtain ⟨⟨r, σ'⟩, ⟨r', τ'⟩, h1, h2, h3, h4⟩ := key
        dsimp only at h3 h4
        subst h3
        exact ⟨r, σ', τ', h1, h2, h4⟩
      · rw [if_neg hc, i00, i00]; exact ⟨_, _, _, rfl, rfl, h⟩
    · rw [if_neg hb, i00, i00]; exact ⟨_, _, _, rfl, rfl, h⟩
  · rw [if_neg ha, i00, i00]; exact ⟨_, _, _, rfl, rfl, h⟩
end Copies3
